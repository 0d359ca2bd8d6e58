section
-- ===== PART A: goes FIRST, ahead of the names: the tables' words, and 'selects' of the private methods out of them =====
/-- a private method of a class that the tables say can be made, by its rows of tables_1 -/
def lw_okq (q : MethodName × Nat) : Prop := (q.1.cls ≠ "java/lang/invoke/MethodHandle" ∧ q.1.cls ≠ "java/lang/invoke/VarHandle") ∧ Cond.instantiable q.1.cls q.2 ∈ tables_1 ∧ Cond.privateMethod q.1 ∈ tables_1 ∧ Cond.instanceMethod q.1 ∈ tables_1
theorem lw_p0 : lw_okq (⟨"LeastChanges", "isTank", "(I)Z"⟩, 12) := ⟨⟨by decide +kernel, by decide +kernel⟩, List.mem_of_getElem? (i := 12) (by decide +kernel), List.mem_of_getElem? (i := 187) (by decide +kernel), List.mem_of_getElem? (i := 188) (by decide +kernel)⟩
theorem lw_p1 : lw_okq (⟨"LeastChanges", "isWithinDays", "(II)Z"⟩, 12) := ⟨⟨by decide +kernel, by decide +kernel⟩, List.mem_of_getElem? (i := 12) (by decide +kernel), List.mem_of_getElem? (i := 191) (by decide +kernel), List.mem_of_getElem? (i := 192) (by decide +kernel)⟩
theorem lw_p2 : lw_okq (⟨"LeastChanges", "isRule", "(IIII)Z"⟩, 12) := ⟨⟨by decide +kernel, by decide +kernel⟩, List.mem_of_getElem? (i := 12) (by decide +kernel), List.mem_of_getElem? (i := 207) (by decide +kernel), List.mem_of_getElem? (i := 208) (by decide +kernel)⟩
theorem lw_p3 : lw_okq (⟨"LeastChanges$Search", "takeOne", "(IIII)V"⟩, 10) := ⟨⟨by decide +kernel, by decide +kernel⟩, List.mem_of_getElem? (i := 82) (by decide +kernel), List.mem_of_getElem? (i := 268) (by decide +kernel), List.mem_of_getElem? (i := 269) (by decide +kernel)⟩
theorem lw_p4 : lw_okq (⟨"LeastChanges$Search", "closeByLags", "()V"⟩, 10) := ⟨⟨by decide +kernel, by decide +kernel⟩, List.mem_of_getElem? (i := 82) (by decide +kernel), List.mem_of_getElem? (i := 277) (by decide +kernel), List.mem_of_getElem? (i := 278) (by decide +kernel)⟩
theorem lw_p5 : lw_okq (⟨"LeastChanges$Search", "canPutFrom", "(I)Z"⟩, 10) := ⟨⟨by decide +kernel, by decide +kernel⟩, List.mem_of_getElem? (i := 82) (by decide +kernel), List.mem_of_getElem? (i := 301) (by decide +kernel), List.mem_of_getElem? (i := 302) (by decide +kernel)⟩
theorem lw_p6 : lw_okq (⟨"LeastChanges$Search", "leavesRoom", "(II)Z"⟩, 10) := ⟨⟨by decide +kernel, by decide +kernel⟩, List.mem_of_getElem? (i := 82) (by decide +kernel), List.mem_of_getElem? (i := 305) (by decide +kernel), List.mem_of_getElem? (i := 306) (by decide +kernel)⟩
theorem lw_p7 : lw_okq (⟨"LeastChanges$Search", "openBeside", "(III)I"⟩, 10) := ⟨⟨by decide +kernel, by decide +kernel⟩, List.mem_of_getElem? (i := 82) (by decide +kernel), List.mem_of_getElem? (i := 309) (by decide +kernel), List.mem_of_getElem? (i := 310) (by decide +kernel)⟩
theorem lw_p8 : lw_okq (⟨"LeastChanges", "firstBar", "()I"⟩, 12) := ⟨⟨by decide +kernel, by decide +kernel⟩, List.mem_of_getElem? (i := 12) (by decide +kernel), List.mem_of_getElem? (i := 316) (by decide +kernel), List.mem_of_getElem? (i := 317) (by decide +kernel)⟩
theorem lw_p9 : lw_okq (⟨"LeastChanges$Search", "putBetter", "(II)V"⟩, 10) := ⟨⟨by decide +kernel, by decide +kernel⟩, List.mem_of_getElem? (i := 82) (by decide +kernel), List.mem_of_getElem? (i := 324) (by decide +kernel), List.mem_of_getElem? (i := 325) (by decide +kernel)⟩
theorem lw_p10 : lw_okq (⟨"LeastChanges$Search", "leastWeightFrom", "(I)I"⟩, 10) := ⟨⟨by decide +kernel, by decide +kernel⟩, List.mem_of_getElem? (i := 82) (by decide +kernel), List.mem_of_getElem? (i := 328) (by decide +kernel), List.mem_of_getElem? (i := 329) (by decide +kernel)⟩
theorem lw_p11 : lw_okq (⟨"LeastChanges$Search", "weightAt", "(II)I"⟩, 10) := ⟨⟨by decide +kernel, by decide +kernel⟩, List.mem_of_getElem? (i := 82) (by decide +kernel), List.mem_of_getElem? (i := 332) (by decide +kernel), List.mem_of_getElem? (i := 333) (by decide +kernel)⟩
theorem lw_p12 : lw_okq (⟨"LeastChanges", "adoptFound", "()V"⟩, 12) := ⟨⟨by decide +kernel, by decide +kernel⟩, List.mem_of_getElem? (i := 12) (by decide +kernel), List.mem_of_getElem? (i := 339) (by decide +kernel), List.mem_of_getElem? (i := 340) (by decide +kernel)⟩
theorem lw_p13 : lw_okq (⟨"LeastChangesModel", "isBatch", "(I)Z"⟩, 34) := ⟨⟨by decide +kernel, by decide +kernel⟩, List.mem_of_getElem? (i := 424) (by decide +kernel), List.mem_of_getElem? (i := 541) (by decide +kernel), List.mem_of_getElem? (i := 542) (by decide +kernel)⟩
theorem lw_p14 : lw_okq (⟨"LeastChangesModel", "search", "(I)Z"⟩, 34) := ⟨⟨by decide +kernel, by decide +kernel⟩, List.mem_of_getElem? (i := 424) (by decide +kernel), List.mem_of_getElem? (i := 562) (by decide +kernel), List.mem_of_getElem? (i := 563) (by decide +kernel)⟩
theorem lw_p15 : lw_okq (⟨"LeastChangesModel", "place", "(I)V"⟩, 34) := ⟨⟨by decide +kernel, by decide +kernel⟩, List.mem_of_getElem? (i := 424) (by decide +kernel), List.mem_of_getElem? (i := 566) (by decide +kernel), List.mem_of_getElem? (i := 567) (by decide +kernel)⟩
def lw_privs_1 : List (MethodName × Nat) := [(⟨"LeastChanges", "isTank", "(I)Z"⟩, 12), (⟨"LeastChanges", "isWithinDays", "(II)Z"⟩, 12), (⟨"LeastChanges", "isRule", "(IIII)Z"⟩, 12), (⟨"LeastChanges$Search", "takeOne", "(IIII)V"⟩, 10), (⟨"LeastChanges$Search", "closeByLags", "()V"⟩, 10), (⟨"LeastChanges$Search", "canPutFrom", "(I)Z"⟩, 10), (⟨"LeastChanges$Search", "leavesRoom", "(II)Z"⟩, 10), (⟨"LeastChanges$Search", "openBeside", "(III)I"⟩, 10), (⟨"LeastChanges", "firstBar", "()I"⟩, 12), (⟨"LeastChanges$Search", "putBetter", "(II)V"⟩, 10), (⟨"LeastChanges$Search", "leastWeightFrom", "(I)I"⟩, 10), (⟨"LeastChanges$Search", "weightAt", "(II)I"⟩, 10), (⟨"LeastChanges", "adoptFound", "()V"⟩, 12), (⟨"LeastChangesModel", "isBatch", "(I)Z"⟩, 34), (⟨"LeastChangesModel", "search", "(I)Z"⟩, 34), (⟨"LeastChangesModel", "place", "(I)V"⟩, 34)]
theorem lw_r1 : ∀ q ∈ lw_privs_1, lw_okq q := List.forall_mem_cons.mpr ⟨lw_p0, List.forall_mem_cons.mpr ⟨lw_p1, List.forall_mem_cons.mpr ⟨lw_p2, List.forall_mem_cons.mpr ⟨lw_p3, List.forall_mem_cons.mpr ⟨lw_p4, List.forall_mem_cons.mpr ⟨lw_p5, List.forall_mem_cons.mpr ⟨lw_p6, List.forall_mem_cons.mpr ⟨lw_p7, List.forall_mem_cons.mpr ⟨lw_p8, List.forall_mem_cons.mpr ⟨lw_p9, List.forall_mem_cons.mpr ⟨lw_p10, List.forall_mem_cons.mpr ⟨lw_p11, List.forall_mem_cons.mpr ⟨lw_p12, List.forall_mem_cons.mpr ⟨lw_p13, List.forall_mem_cons.mpr ⟨lw_p14, List.forall_mem_cons.mpr ⟨lw_p15, fun _ h => absurd h List.not_mem_nil⟩⟩⟩⟩⟩⟩⟩⟩⟩⟩⟩⟩⟩⟩⟩⟩
theorem lw_p16 : lw_okq (⟨"LeastChangesModel", "judge", "()V"⟩, 34) := ⟨⟨by decide +kernel, by decide +kernel⟩, List.mem_of_getElem? (i := 424) (by decide +kernel), List.mem_of_getElem? (i := 570) (by decide +kernel), List.mem_of_getElem? (i := 571) (by decide +kernel)⟩
theorem lw_p17 : lw_okq (⟨"LeastChangesModel", "fits", "(I)Z"⟩, 34) := ⟨⟨by decide +kernel, by decide +kernel⟩, List.mem_of_getElem? (i := 424) (by decide +kernel), List.mem_of_getElem? (i := 574) (by decide +kernel), List.mem_of_getElem? (i := 575) (by decide +kernel)⟩
theorem lw_p18 : lw_okq (⟨"LeastChangesModel", "keeps", "(II)Z"⟩, 34) := ⟨⟨by decide +kernel, by decide +kernel⟩, List.mem_of_getElem? (i := 424) (by decide +kernel), List.mem_of_getElem? (i := 578) (by decide +kernel), List.mem_of_getElem? (i := 579) (by decide +kernel)⟩
theorem lw_p19 : lw_okq (⟨"LeastChangesModel", "keep", "()V"⟩, 34) := ⟨⟨by decide +kernel, by decide +kernel⟩, List.mem_of_getElem? (i := 424) (by decide +kernel), List.mem_of_getElem? (i := 582) (by decide +kernel), List.mem_of_getElem? (i := 583) (by decide +kernel)⟩
def lw_privs_2 : List (MethodName × Nat) := [(⟨"LeastChangesModel", "judge", "()V"⟩, 34), (⟨"LeastChangesModel", "fits", "(I)Z"⟩, 34), (⟨"LeastChangesModel", "keeps", "(II)Z"⟩, 34), (⟨"LeastChangesModel", "keep", "()V"⟩, 34)]
theorem lw_r2 : ∀ q ∈ lw_privs_2, lw_okq q := List.forall_mem_cons.mpr ⟨lw_p16, List.forall_mem_cons.mpr ⟨lw_p17, List.forall_mem_cons.mpr ⟨lw_p18, List.forall_mem_cons.mpr ⟨lw_p19, fun _ h => absurd h List.not_mem_nil⟩⟩⟩⟩
def lw_privs : List (MethodName × Nat) := lw_privs_1 ++ (lw_privs_2)
def lw_tbl : List Cond := k2_sels lw_privs ++ tables_1
theorem lw_privs_ok : ∀ q ∈ lw_privs, lw_okq q := by
  show ∀ q ∈ lw_privs_1 ++ (lw_privs_2), lw_okq q
  exact List.forall_mem_append.mpr ⟨lw_r1, lw_r2⟩

-- the words that a caller hands on: all but the links to a nest mate
def lw_g : List Cond := lw_tbl.filter goodWord
theorem tg {w : Cond} (h : w ∈ lw_tbl) (hg : goodWord w = true) : w ∈ lw_g := List.mem_filter.mpr ⟨h, hg⟩
-- names: classes, fields in the order of the slots, types
def RX0 : String := "LeastChanges$Batches"
def TX0 : u_T := fun k => match k with
  | 0 => ("LeastChanges$Batches", "lengths", "[I", true)
  | 1 => ("LeastChanges$Batches", "places", "[I", true)
  | 2 => ("LeastChanges$Batches", "earliest", "[I", true)
  | 3 => ("LeastChanges$Batches", "frozen", "[Z", true)
  | _ => ("LeastChanges$Batches", "count", "I", false)
def tyX0 : Nat → FieldType := fun k => match k with
  | 0 => .array .int
  | 1 => .array .int
  | 2 => .array .int
  | 3 => .array .boolean
  | _ => .int
set_option maxRecDepth 20000 in
theorem nmX0 : ∀ a, a < 5 → ∀ b, b < 5 → a ≠ b → (TX0 a).2.1 ≠ (TX0 b).2.1 := by decide +kernel
theorem tyX0_ok : ∀ k, k < 5 → parseFieldDescriptor (TX0 k).2.2.1 = some (tyX0 k) := by decide +kernel
set_option maxRecDepth 20000 in
theorem in0X0 : ∀ w ∈ u_ws RX0 TX0 5, w ∈ lw_tbl := by decide +kernel
set_option maxRecDepth 20000 in
theorem inX0 : ∀ w ∈ u_ws RX0 TX0 5, w ∈ lw_g := fun w h => tg (in0X0 w h) (List.all_eq_true.mp (by decide +kernel : (u_ws RX0 TX0 5).all goodWord = true) w h)
def RX1 : String := "LeastChanges$Rules"
def TX1 : u_T := fun k => match k with
  | 0 => ("LeastChanges$Rules", "kinds", "[I", true)
  | 1 => ("LeastChanges$Rules", "firsts", "[I", true)
  | 2 => ("LeastChanges$Rules", "seconds", "[I", true)
  | 3 => ("LeastChanges$Rules", "numbers", "[I", true)
  | _ => ("LeastChanges$Rules", "count", "I", false)
def tyX1 : Nat → FieldType := fun k => match k with
  | 0 => .array .int
  | 1 => .array .int
  | 2 => .array .int
  | 3 => .array .int
  | _ => .int
set_option maxRecDepth 20000 in
theorem nmX1 : ∀ a, a < 5 → ∀ b, b < 5 → a ≠ b → (TX1 a).2.1 ≠ (TX1 b).2.1 := by decide +kernel
theorem tyX1_ok : ∀ k, k < 5 → parseFieldDescriptor (TX1 k).2.2.1 = some (tyX1 k) := by decide +kernel
set_option maxRecDepth 20000 in
theorem in0X1 : ∀ w ∈ u_ws RX1 TX1 5, w ∈ lw_tbl := by decide +kernel
set_option maxRecDepth 20000 in
theorem inX1 : ∀ w ∈ u_ws RX1 TX1 5, w ∈ lw_g := fun w h => tg (in0X1 w h) (List.all_eq_true.mp (by decide +kernel : (u_ws RX1 TX1 5).all goodWord = true) w h)
def RX2 : String := "LeastChanges$Search"
def TX2 : u_T := fun k => match k with
  | 0 => ("LeastChanges$Search", "best", "[I", true)
  | 1 => ("LeastChanges$Search", "lengths", "[I", true)
  | 2 => ("LeastChanges$Search", "homes", "[I", true)
  | 3 => ("LeastChanges$Search", "free", "[I", true)
  | 4 => ("LeastChanges$Search", "lags", "[I", true)
  | 5 => ("LeastChanges$Search", "apart", "[I", true)
  | 6 => ("LeastChanges$Search", "open", "[I", true)
  | 7 => ("LeastChanges$Search", "tried", "[I", true)
  | 8 => ("LeastChanges$Search", "count", "I", false)
  | _ => ("LeastChanges$Search", "bestWeight", "I", false)
def tyX2 : Nat → FieldType := fun k => match k with
  | 0 => .array .int
  | 1 => .array .int
  | 2 => .array .int
  | 3 => .array .int
  | 4 => .array .int
  | 5 => .array .int
  | 6 => .array .int
  | 7 => .array .int
  | 8 => .int
  | _ => .int
set_option maxRecDepth 20000 in
theorem nmX2 : ∀ a, a < 10 → ∀ b, b < 10 → a ≠ b → (TX2 a).2.1 ≠ (TX2 b).2.1 := by decide +kernel
theorem tyX2_ok : ∀ k, k < 10 → parseFieldDescriptor (TX2 k).2.2.1 = some (tyX2 k) := by decide +kernel
set_option maxRecDepth 20000 in
theorem in0X2 : ∀ w ∈ u_ws RX2 TX2 10, w ∈ lw_tbl := by decide +kernel
set_option maxRecDepth 20000 in
theorem inX2 : ∀ w ∈ u_ws RX2 TX2 10, w ∈ lw_g := fun w h => tg (in0X2 w h) (List.all_eq_true.mp (by decide +kernel : (u_ws RX2 TX2 10).all goodWord = true) w h)
def RX3 : String := "LeastChanges$Shelf"
def TX3 : u_T := fun k => match k with
  | 0 => ("LeastChanges$Shelf", "room", "I", true)
  | 1 => ("LeastChanges$Shelf", "sizes", "[I", true)
  | 2 => ("LeastChanges$Shelf", "places", "[I", true)
  | _ => ("LeastChanges$Shelf", "count", "I", false)
def tyX3 : Nat → FieldType := fun k => match k with
  | 0 => .int
  | 1 => .array .int
  | 2 => .array .int
  | _ => .int
set_option maxRecDepth 20000 in
theorem nmX3 : ∀ a, a < 4 → ∀ b, b < 4 → a ≠ b → (TX3 a).2.1 ≠ (TX3 b).2.1 := by decide +kernel
theorem tyX3_ok : ∀ k, k < 4 → parseFieldDescriptor (TX3 k).2.2.1 = some (tyX3 k) := by decide +kernel
set_option maxRecDepth 20000 in
theorem in0X3 : ∀ w ∈ u_ws RX3 TX3 4, w ∈ lw_tbl := by decide +kernel
set_option maxRecDepth 20000 in
theorem inX3 : ∀ w ∈ u_ws RX3 TX3 4, w ∈ lw_g := fun w h => tg (in0X3 w h) (List.all_eq_true.mp (by decide +kernel : (u_ws RX3 TX3 4).all goodWord = true) w h)
def RX4 : String := "LeastChanges"
def TX4 : u_T := fun k => match k with
  | 0 => ("LeastChanges", "tanks", "I", true)
  | 1 => ("LeastChanges", "days", "I", true)
  | 2 => ("LeastChanges", "batches", "LLeastChanges$Batches;", true)
  | 3 => ("LeastChanges", "rules", "LLeastChanges$Rules;", true)
  | 4 => ("LeastChanges", "search", "LLeastChanges$Search;", true)
  | 5 => ("LeastChanges", "before", "LLeastChanges$Shelf;", true)
  | 6 => ("LeastChanges", "copies", "LLeastChanges$Shelf;", true)
  | 7 => ("LeastChanges", "outs", "I", false)
  | 8 => ("LeastChanges", "shutDays", "I", false)
  | 9 => ("LeastChanges", "changedSet", "I", false)
  | 10 => ("LeastChanges", "leastChanged", "I", false)
  | _ => ("LeastChanges", "lastCost", "J", false)
def tyX4 : Nat → FieldType := fun k => match k with
  | 0 => .int
  | 1 => .int
  | 2 => .object "LeastChanges$Batches"
  | 3 => .object "LeastChanges$Rules"
  | 4 => .object "LeastChanges$Search"
  | 5 => .object "LeastChanges$Shelf"
  | 6 => .object "LeastChanges$Shelf"
  | 7 => .int
  | 8 => .int
  | 9 => .int
  | 10 => .int
  | _ => .long
set_option maxRecDepth 20000 in
theorem nmX4 : ∀ a, a < 12 → ∀ b, b < 12 → a ≠ b → (TX4 a).2.1 ≠ (TX4 b).2.1 := by decide +kernel
theorem tyX4_ok : ∀ k, k < 12 → parseFieldDescriptor (TX4 k).2.2.1 = some (tyX4 k) := by decide +kernel
set_option maxRecDepth 20000 in
theorem in0X4 : ∀ w ∈ u_ws RX4 TX4 12, w ∈ lw_tbl := by decide +kernel
set_option maxRecDepth 20000 in
theorem inX4 : ∀ w ∈ u_ws RX4 TX4 12, w ∈ lw_g := fun w h => tg (in0X4 w h) (List.all_eq_true.mp (by decide +kernel : (u_ws RX4 TX4 12).all goodWord = true) w h)
def RX5 : String := "LeastChangesModel"
def TX5 : u_T := fun k => match k with
  | 0 => ("LeastChangesModel", "tanks", "I", true)
  | 1 => ("LeastChangesModel", "days", "I", true)
  | 2 => ("LeastChangesModel", "length", "[I", true)
  | 3 => ("LeastChangesModel", "tank", "[I", true)
  | 4 => ("LeastChangesModel", "start", "[I", true)
  | 5 => ("LeastChangesModel", "earliest", "[I", true)
  | 6 => ("LeastChangesModel", "frozen", "[Z", true)
  | 7 => ("LeastChangesModel", "batches", "I", false)
  | 8 => ("LeastChangesModel", "ruleKind", "[I", true)
  | 9 => ("LeastChangesModel", "ruleA", "[I", true)
  | 10 => ("LeastChangesModel", "ruleB", "[I", true)
  | 11 => ("LeastChangesModel", "ruleDays", "[I", true)
  | 12 => ("LeastChangesModel", "rules", "I", false)
  | 13 => ("LeastChangesModel", "outTank", "[I", true)
  | 14 => ("LeastChangesModel", "outFrom", "[I", true)
  | 15 => ("LeastChangesModel", "outTo", "[I", true)
  | 16 => ("LeastChangesModel", "outs", "I", false)
  | 17 => ("LeastChangesModel", "undoSize", "[I", true)
  | 18 => ("LeastChangesModel", "undoPlan", "[I", true)
  | 19 => ("LeastChangesModel", "undos", "I", false)
  | 20 => ("LeastChangesModel", "copySize", "[I", true)
  | 21 => ("LeastChangesModel", "copyPlan", "[I", true)
  | 22 => ("LeastChangesModel", "copies", "I", false)
  | 23 => ("LeastChangesModel", "tryTank", "[I", true)
  | 24 => ("LeastChangesModel", "tryStart", "[I", true)
  | 25 => ("LeastChangesModel", "bestTank", "[I", true)
  | 26 => ("LeastChangesModel", "bestStart", "[I", true)
  | 27 => ("LeastChangesModel", "bestChanged", "I", false)
  | 28 => ("LeastChangesModel", "bestCost", "I", false)
  | 29 => ("LeastChangesModel", "there", "Z", false)
  | 30 => ("LeastChangesModel", "without", "I", false)
  | 31 => ("LeastChangesModel", "wasChanged", "[Z", true)
  | 32 => ("LeastChangesModel", "bound", "I", false)
  | _ => ("LeastChangesModel", "cost", "J", false)
def tyX5 : Nat → FieldType := fun k => match k with
  | 0 => .int
  | 1 => .int
  | 2 => .array .int
  | 3 => .array .int
  | 4 => .array .int
  | 5 => .array .int
  | 6 => .array .boolean
  | 7 => .int
  | 8 => .array .int
  | 9 => .array .int
  | 10 => .array .int
  | 11 => .array .int
  | 12 => .int
  | 13 => .array .int
  | 14 => .array .int
  | 15 => .array .int
  | 16 => .int
  | 17 => .array .int
  | 18 => .array .int
  | 19 => .int
  | 20 => .array .int
  | 21 => .array .int
  | 22 => .int
  | 23 => .array .int
  | 24 => .array .int
  | 25 => .array .int
  | 26 => .array .int
  | 27 => .int
  | 28 => .int
  | 29 => .boolean
  | 30 => .int
  | 31 => .array .boolean
  | 32 => .int
  | _ => .long
set_option maxRecDepth 20000 in
theorem nmX5 : ∀ a, a < 34 → ∀ b, b < 34 → a ≠ b → (TX5 a).2.1 ≠ (TX5 b).2.1 := by decide +kernel
theorem tyX5_ok : ∀ k, k < 34 → parseFieldDescriptor (TX5 k).2.2.1 = some (tyX5 k) := by decide +kernel
set_option maxRecDepth 20000 in
theorem in0X5 : ∀ w ∈ u_ws RX5 TX5 34, w ∈ lw_tbl := by decide +kernel
set_option maxRecDepth 20000 in
theorem inX5 : ∀ w ∈ u_ws RX5 TX5 34, w ∈ lw_g := fun w h => tg (in0X5 w h) (List.all_eq_true.mp (by decide +kernel : (u_ws RX5 TX5 34).all goodWord = true) w h)
def RJ6 : String := "java/lang/Integer"
def RJ7 : String := "java/util/Arrays"
def RJ9 : String := "java/lang/Math"
def RJ10 : String := "java/lang/System"
def RL : String := "LeastChangesLaw"
abbrev vwCl : List vw_C := [(RX0, TX0, 5), (RX1, TX1, 5), (RX2, TX2, 10), (RX3, TX3, 4), (RX4, TX4, 12), (RX5, TX5, 34)]
-- methods
abbrev cX4_init : ByteArray := prog_1_method_1_code
def yX4_init : MethodName := ⟨RX4, "<init>", "(II)V"⟩
def wsX4_init : List Cond := .code yX4_init cX4_init 3 none :: lw_g
set_option maxRecDepth 20000 in
theorem cmX4_init : Cond.code yX4_init cX4_init 3 none ∈ lw_g := tg (List.mem_of_getElem? (i := 35) rfl) rfl
abbrev cX0_init : ByteArray := prog_2_method_1_code
def yX0_init : MethodName := ⟨RX0, "<init>", "()V"⟩
def wsX0_init : List Cond := .code yX0_init cX0_init 1 none :: lw_g
set_option maxRecDepth 20000 in
theorem cmX0_init : Cond.code yX0_init cX0_init 1 none ∈ lw_g := tg (List.mem_of_getElem? (i := 43) rfl) rfl
abbrev cX1_init : ByteArray := prog_3_method_1_code
def yX1_init : MethodName := ⟨RX1, "<init>", "()V"⟩
def wsX1_init : List Cond := .code yX1_init cX1_init 1 none :: lw_g
set_option maxRecDepth 20000 in
theorem cmX1_init : Cond.code yX1_init cX1_init 1 none ∈ lw_g := tg (List.mem_of_getElem? (i := 77) rfl) rfl
abbrev cX2_init : ByteArray := prog_4_method_1_code
def yX2_init : MethodName := ⟨RX2, "<init>", "()V"⟩
def wsX2_init : List Cond := .code yX2_init cX2_init 1 none :: lw_g
set_option maxRecDepth 20000 in
theorem cmX2_init : Cond.code yX2_init cX2_init 1 none ∈ lw_g := tg (List.mem_of_getElem? (i := 105) rfl) rfl
abbrev cX3_init : ByteArray := prog_5_method_1_code
def yX3_init : MethodName := ⟨RX3, "<init>", "(I)V"⟩
def wsX3_init : List Cond := .code yX3_init cX3_init 2 none :: lw_g
set_option maxRecDepth 20000 in
theorem cmX3_init : Cond.code yX3_init cX3_init 2 none ∈ lw_g := tg (List.mem_of_getElem? (i := 143) rfl) rfl
abbrev cJ9_max : ByteArray := prog_9_method_65_code
def yJ9_max : MethodName := ⟨RJ9, "max", "(II)I"⟩
def wsJ9_max : List Cond := .code yJ9_max cJ9_max 2 (some .int) :: lw_g
set_option maxRecDepth 20000 in
theorem cmJ9_max : Cond.code yJ9_max cJ9_max 2 (some .int) ∈ lw_g := tg (List.mem_of_getElem? (i := 147) rfl) rfl
abbrev cJ9_min : ByteArray := prog_9_method_69_code
def yJ9_min : MethodName := ⟨RJ9, "min", "(II)I"⟩
def wsJ9_min : List Cond := .code yJ9_min cJ9_min 2 (some .int) :: lw_g
set_option maxRecDepth 20000 in
theorem cmJ9_min : Cond.code yJ9_min cJ9_min 2 (some .int) ∈ lw_g := tg (List.mem_of_getElem? (i := 163) rfl) rfl
abbrev cX4_batch : ByteArray := prog_1_method_2_code
def yX4_batch : MethodName := ⟨RX4, "batch", "(III)I"⟩
def wsX4_batch : List Cond := .code yX4_batch cX4_batch 4 (some .int) :: lw_g
set_option maxRecDepth 20000 in
theorem cmX4_batch : Cond.code yX4_batch cX4_batch 4 (some .int) ∈ lw_g := tg (List.mem_of_getElem? (i := 205) rfl) rfl
abbrev cX4_isTank : ByteArray := prog_1_method_16_code
def yX4_isTank : MethodName := ⟨RX4, "isTank", "(I)Z"⟩
def wsX4_isTank : List Cond := .code yX4_isTank cX4_isTank 2 (some .boolean) :: lw_g
set_option maxRecDepth 20000 in
theorem cmX4_isTank : Cond.code yX4_isTank cX4_isTank 2 (some .boolean) ∈ lw_g := tg (List.mem_of_getElem? (i := 209) rfl) rfl
abbrev cX4_isWithinDays : ByteArray := prog_1_method_17_code
def yX4_isWithinDays : MethodName := ⟨RX4, "isWithinDays", "(II)Z"⟩
def wsX4_isWithinDays : List Cond := .code yX4_isWithinDays cX4_isWithinDays 3 (some .boolean) :: lw_g
set_option maxRecDepth 20000 in
theorem cmX4_isWithinDays : Cond.code yX4_isWithinDays cX4_isWithinDays 3 (some .boolean) ∈ lw_g := tg (List.mem_of_getElem? (i := 213) rfl) rfl
abbrev cX0_isFull : ByteArray := prog_2_method_2_code
def yX0_isFull : MethodName := ⟨RX0, "isFull", "()Z"⟩
def wsX0_isFull : List Cond := .code yX0_isFull cX0_isFull 1 (some .boolean) :: lw_g
set_option maxRecDepth 20000 in
theorem cmX0_isFull : Cond.code yX0_isFull cX0_isFull 1 (some .boolean) ∈ lw_g := tg (List.mem_of_getElem? (i := 217) rfl) rfl
abbrev cX0_add : ByteArray := prog_2_method_4_code
def yX0_add : MethodName := ⟨RX0, "add", "(II)I"⟩
def wsX0_add : List Cond := .code yX0_add cX0_add 3 (some .int) :: lw_g
set_option maxRecDepth 20000 in
theorem cmX0_add : Cond.code yX0_add cX0_add 3 (some .int) ∈ lw_g := tg (List.mem_of_getElem? (i := 221) rfl) rfl
abbrev cX4_rule : ByteArray := prog_1_method_3_code
def yX4_rule : MethodName := ⟨RX4, "rule", "(IIII)Z"⟩
def wsX4_rule : List Cond := .code yX4_rule cX4_rule 5 (some .boolean) :: lw_g
set_option maxRecDepth 20000 in
theorem cmX4_rule : Cond.code yX4_rule cX4_rule 5 (some .boolean) ∈ lw_g := tg (List.mem_of_getElem? (i := 225) rfl) rfl
abbrev cX4_isRule : ByteArray := prog_1_method_18_code
def yX4_isRule : MethodName := ⟨RX4, "isRule", "(IIII)Z"⟩
def wsX4_isRule : List Cond := .code yX4_isRule cX4_isRule 6 (some .boolean) :: lw_g
set_option maxRecDepth 20000 in
theorem cmX4_isRule : Cond.code yX4_isRule cX4_isRule 6 (some .boolean) ∈ lw_g := tg (List.mem_of_getElem? (i := 229) rfl) rfl
abbrev cX0_has : ByteArray := prog_2_method_3_code
def yX0_has : MethodName := ⟨RX0, "has", "(I)Z"⟩
def wsX0_has : List Cond := .code yX0_has cX0_has 2 (some .boolean) :: lw_g
set_option maxRecDepth 20000 in
theorem cmX0_has : Cond.code yX0_has cX0_has 2 (some .boolean) ∈ lw_g := tg (List.mem_of_getElem? (i := 233) rfl) rfl
abbrev cX4_isNumber : ByteArray := prog_1_method_19_code
def yX4_isNumber : MethodName := ⟨RX4, "isNumber", "(I)Z"⟩
def wsX4_isNumber : List Cond := .code yX4_isNumber cX4_isNumber 1 (some .boolean) :: lw_g
set_option maxRecDepth 20000 in
theorem cmX4_isNumber : Cond.code yX4_isNumber cX4_isNumber 1 (some .boolean) ∈ lw_g := tg (List.mem_of_getElem? (i := 236) rfl) rfl
abbrev cX1_isFull : ByteArray := prog_3_method_2_code
def yX1_isFull : MethodName := ⟨RX1, "isFull", "()Z"⟩
def wsX1_isFull : List Cond := .code yX1_isFull cX1_isFull 1 (some .boolean) :: lw_g
set_option maxRecDepth 20000 in
theorem cmX1_isFull : Cond.code yX1_isFull cX1_isFull 1 (some .boolean) ∈ lw_g := tg (List.mem_of_getElem? (i := 240) rfl) rfl
abbrev cX1_add : ByteArray := prog_3_method_3_code
def yX1_add : MethodName := ⟨RX1, "add", "(IIII)V"⟩
def wsX1_add : List Cond := .code yX1_add cX1_add 5 none :: lw_g
set_option maxRecDepth 20000 in
theorem cmX1_add : Cond.code yX1_add cX1_add 5 none ∈ lw_g := tg (List.mem_of_getElem? (i := 244) rfl) rfl
abbrev cX4_freeze : ByteArray := prog_1_method_4_code
def yX4_freeze : MethodName := ⟨RX4, "freeze", "(I)Z"⟩
def wsX4_freeze : List Cond := .code yX4_freeze cX4_freeze 2 (some .boolean) :: lw_g
set_option maxRecDepth 20000 in
theorem cmX4_freeze : Cond.code yX4_freeze cX4_freeze 2 (some .boolean) ∈ lw_g := tg (List.mem_of_getElem? (i := 248) rfl) rfl
abbrev cX4_out : ByteArray := prog_1_method_5_code
def yX4_out : MethodName := ⟨RX4, "out", "(III)Z"⟩
def wsX4_out : List Cond := .code yX4_out cX4_out 4 (some .boolean) :: lw_g
set_option maxRecDepth 20000 in
theorem cmX4_out : Cond.code yX4_out cX4_out 4 (some .boolean) ∈ lw_g := tg (List.mem_of_getElem? (i := 252) rfl) rfl
abbrev cX4_daysFromTo : ByteArray := prog_1_method_25_code
def yX4_daysFromTo : MethodName := ⟨RX4, "daysFromTo", "(II)I"⟩
def wsX4_daysFromTo : List Cond := .code yX4_daysFromTo cX4_daysFromTo 4 (some .int) :: lw_g
set_option maxRecDepth 20000 in
theorem cmX4_daysFromTo : Cond.code yX4_daysFromTo cX4_daysFromTo 4 (some .int) ∈ lw_g := tg (List.mem_of_getElem? (i := 255) rfl) rfl
abbrev cX4_late : ByteArray := prog_1_method_6_code
def yX4_late : MethodName := ⟨RX4, "late", "(II)Z"⟩
def wsX4_late : List Cond := .code yX4_late cX4_late 3 (some .boolean) :: lw_g
set_option maxRecDepth 20000 in
theorem cmX4_late : Cond.code yX4_late cX4_late 3 (some .boolean) ∈ lw_g := tg (List.mem_of_getElem? (i := 259) rfl) rfl
abbrev cX4_startOfPlace : ByteArray := prog_1_method_24_code
def yX4_startOfPlace : MethodName := ⟨RX4, "startOfPlace", "(I)I"⟩
def wsX4_startOfPlace : List Cond := .code yX4_startOfPlace cX4_startOfPlace 1 (some .int) :: lw_g
set_option maxRecDepth 20000 in
theorem cmX4_startOfPlace : Cond.code yX4_startOfPlace cX4_startOfPlace 1 (some .int) ∈ lw_g := tg (List.mem_of_getElem? (i := 262) rfl) rfl
abbrev cX4_run : ByteArray := prog_1_method_7_code
def yX4_run : MethodName := ⟨RX4, "run", "(J)I"⟩
def wsX4_run : List Cond := .code yX4_run cX4_run 4 (some .int) :: lw_g
set_option maxRecDepth 20000 in
theorem cmX4_run : Cond.code yX4_run cX4_run 4 (some .int) ∈ lw_g := tg (List.mem_of_getElem? (i := 266) rfl) rfl
abbrev cX2_load : ByteArray := prog_4_method_4_code
def yX2_load : MethodName := ⟨RX2, "load", "(LLeastChanges$Batches;III)V"⟩
def wsX2_load : List Cond := .code yX2_load cX2_load 10 none :: lw_g
set_option maxRecDepth 20000 in
theorem cmX2_load : Cond.code yX2_load cX2_load 10 none ∈ lw_g := tg (List.mem_of_getElem? (i := 271) rfl) rfl
abbrev cX2_freePlaces : ByteArray := prog_4_method_5_code
def yX2_freePlaces : MethodName := ⟨RX2, "freePlaces", "(IIII)I"⟩
def wsX2_freePlaces : List Cond := .code yX2_freePlaces cX2_freePlaces 8 (some .int) :: lw_g
set_option maxRecDepth 20000 in
theorem cmX2_freePlaces : Cond.code yX2_freePlaces cX2_freePlaces 8 (some .int) ∈ lw_g := tg (List.mem_of_getElem? (i := 275) rfl) rfl
abbrev cX2_take : ByteArray := prog_4_method_6_code
def yX2_take : MethodName := ⟨RX2, "take", "(LLeastChanges$Rules;I)V"⟩
def wsX2_take : List Cond := .code yX2_take cX2_take 4 none :: lw_g
set_option maxRecDepth 20000 in
theorem cmX2_take : Cond.code yX2_take cX2_take 4 none ∈ lw_g := tg (List.mem_of_getElem? (i := 280) rfl) rfl
abbrev cJ7_fill : ByteArray := prog_11_method_103_code
def yJ7_fill : MethodName := ⟨RJ7, "fill", "([II)V"⟩
def wsJ7_fill : List Cond := .code yJ7_fill cJ7_fill 4 none :: lw_g
set_option maxRecDepth 20000 in
theorem cmJ7_fill : Cond.code yJ7_fill cJ7_fill 4 none ∈ lw_g := tg (List.mem_of_getElem? (i := 283) rfl) rfl
abbrev cX2_takeOne : ByteArray := prog_4_method_7_code
def yX2_takeOne : MethodName := ⟨RX2, "takeOne", "(IIII)V"⟩
def wsX2_takeOne : List Cond := .code yX2_takeOne cX2_takeOne 6 none :: lw_g
set_option maxRecDepth 20000 in
theorem cmX2_takeOne : Cond.code yX2_takeOne cX2_takeOne 6 none ∈ lw_g := tg (List.mem_of_getElem? (i := 290) rfl) rfl
abbrev cX2_inEveryTank : ByteArray := prog_4_method_20_code
def yX2_inEveryTank : MethodName := ⟨RX2, "inEveryTank", "(I)I"⟩
def wsX2_inEveryTank : List Cond := .code yX2_inEveryTank cX2_inEveryTank 1 (some .int) :: lw_g
set_option maxRecDepth 20000 in
theorem cmX2_inEveryTank : Cond.code yX2_inEveryTank cX2_inEveryTank 1 (some .int) ∈ lw_g := tg (List.mem_of_getElem? (i := 294) rfl) rfl
abbrev cX2_closeByLags : ByteArray := prog_4_method_8_code
def yX2_closeByLags : MethodName := ⟨RX2, "closeByLags", "()V"⟩
def wsX2_closeByLags : List Cond := .code yX2_closeByLags cX2_closeByLags 5 none :: lw_g
set_option maxRecDepth 20000 in
theorem cmX2_closeByLags : Cond.code yX2_closeByLags cX2_closeByLags 5 none ∈ lw_g := tg (List.mem_of_getElem? (i := 299) rfl) rfl
abbrev cX2_firstStart : ByteArray := prog_4_method_9_code
def yX2_firstStart : MethodName := ⟨RX2, "firstStart", "(I)I"⟩
def wsX2_firstStart : List Cond := .code yX2_firstStart cX2_firstStart 1 (some .int) :: lw_g
set_option maxRecDepth 20000 in
theorem cmX2_firstStart : Cond.code yX2_firstStart cX2_firstStart 1 (some .int) ∈ lw_g := tg (List.mem_of_getElem? (i := 302) rfl) rfl
abbrev cX2_startsIn : ByteArray := prog_4_method_11_code
def yX2_startsIn : MethodName := ⟨RX2, "startsIn", "(I)I"⟩
def wsX2_startsIn : List Cond := .code yX2_startsIn cX2_startsIn 1 (some .int) :: lw_g
set_option maxRecDepth 20000 in
theorem cmX2_startsIn : Cond.code yX2_startsIn cX2_startsIn 1 (some .int) ∈ lw_g := tg (List.mem_of_getElem? (i := 305) rfl) rfl
abbrev cJ6_numberOfTrailingZeros : ByteArray := prog_8_method_48_code
def yJ6_numberOfTrailingZeros : MethodName := ⟨RJ6, "numberOfTrailingZeros", "(I)I"⟩
def wsJ6_numberOfTrailingZeros : List Cond := .code yJ6_numberOfTrailingZeros cJ6_numberOfTrailingZeros 2 (some .int) :: lw_g
set_option maxRecDepth 20000 in
theorem cmJ6_numberOfTrailingZeros : Cond.code yJ6_numberOfTrailingZeros cJ6_numberOfTrailingZeros 2 (some .int) ∈ lw_g := tg (List.mem_of_getElem? (i := 308) rfl) rfl
abbrev cX2_lastStart : ByteArray := prog_4_method_10_code
def yX2_lastStart : MethodName := ⟨RX2, "lastStart", "(I)I"⟩
def wsX2_lastStart : List Cond := .code yX2_lastStart cX2_lastStart 1 (some .int) :: lw_g
set_option maxRecDepth 20000 in
theorem cmX2_lastStart : Cond.code yX2_lastStart cX2_lastStart 1 (some .int) ∈ lw_g := tg (List.mem_of_getElem? (i := 312) rfl) rfl
abbrev cJ6_numberOfLeadingZeros : ByteArray := prog_8_method_47_code
def yJ6_numberOfLeadingZeros : MethodName := ⟨RJ6, "numberOfLeadingZeros", "(I)I"⟩
def wsJ6_numberOfLeadingZeros : List Cond := .code yJ6_numberOfLeadingZeros cJ6_numberOfLeadingZeros 2 (some .int) :: lw_g
set_option maxRecDepth 20000 in
theorem cmJ6_numberOfLeadingZeros : Cond.code yJ6_numberOfLeadingZeros cJ6_numberOfLeadingZeros 2 (some .int) ∈ lw_g := tg (List.mem_of_getElem? (i := 315) rfl) rfl
abbrev cX2_findsAny : ByteArray := prog_4_method_12_code
def yX2_findsAny : MethodName := ⟨RX2, "findsAny", "()Z"⟩
def wsX2_findsAny : List Cond := .code yX2_findsAny cX2_findsAny 1 (some .boolean) :: lw_g
set_option maxRecDepth 20000 in
theorem cmX2_findsAny : Cond.code yX2_findsAny cX2_findsAny 1 (some .boolean) ∈ lw_g := tg (List.mem_of_getElem? (i := 319) rfl) rfl
abbrev cX2_canPutFrom : ByteArray := prog_4_method_14_code
def yX2_canPutFrom : MethodName := ⟨RX2, "canPutFrom", "(I)Z"⟩
def wsX2_canPutFrom : List Cond := .code yX2_canPutFrom cX2_canPutFrom 5 (some .boolean) :: lw_g
set_option maxRecDepth 20000 in
theorem cmX2_canPutFrom : Cond.code yX2_canPutFrom cX2_canPutFrom 5 (some .boolean) ∈ lw_g := tg (List.mem_of_getElem? (i := 323) rfl) rfl
abbrev cX2_leavesRoom : ByteArray := prog_4_method_18_code
def yX2_leavesRoom : MethodName := ⟨RX2, "leavesRoom", "(II)Z"⟩
def wsX2_leavesRoom : List Cond := .code yX2_leavesRoom cX2_leavesRoom 6 (some .boolean) :: lw_g
set_option maxRecDepth 20000 in
theorem cmX2_leavesRoom : Cond.code yX2_leavesRoom cX2_leavesRoom 6 (some .boolean) ∈ lw_g := tg (List.mem_of_getElem? (i := 327) rfl) rfl
abbrev cX2_openBeside : ByteArray := prog_4_method_19_code
def yX2_openBeside : MethodName := ⟨RX2, "openBeside", "(III)I"⟩
def wsX2_openBeside : List Cond := .code yX2_openBeside cX2_openBeside 10 (some .int) :: lw_g
set_option maxRecDepth 20000 in
theorem cmX2_openBeside : Cond.code yX2_openBeside cX2_openBeside 10 (some .int) ∈ lw_g := tg (List.mem_of_getElem? (i := 331) rfl) rfl
abbrev cX4_tankOfPlace : ByteArray := prog_1_method_23_code
def yX4_tankOfPlace : MethodName := ⟨RX4, "tankOfPlace", "(I)I"⟩
def wsX4_tankOfPlace : List Cond := .code yX4_tankOfPlace cX4_tankOfPlace 1 (some .int) :: lw_g
set_option maxRecDepth 20000 in
theorem cmX4_tankOfPlace : Cond.code yX4_tankOfPlace cX4_tankOfPlace 1 (some .int) ∈ lw_g := tg (List.mem_of_getElem? (i := 334) rfl) rfl
abbrev cX4_firstBar : ByteArray := prog_1_method_20_code
def yX4_firstBar : MethodName := ⟨RX4, "firstBar", "()I"⟩
def wsX4_firstBar : List Cond := .code yX4_firstBar cX4_firstBar 2 (some .int) :: lw_g
set_option maxRecDepth 20000 in
theorem cmX4_firstBar : Cond.code yX4_firstBar cX4_firstBar 2 (some .int) ∈ lw_g := tg (List.mem_of_getElem? (i := 338) rfl) rfl
abbrev cX2_findsBest : ByteArray := prog_4_method_13_code
def yX2_findsBest : MethodName := ⟨RX2, "findsBest", "(I)Z"⟩
def wsX2_findsBest : List Cond := .code yX2_findsBest cX2_findsBest 4 (some .boolean) :: lw_g
set_option maxRecDepth 20000 in
theorem cmX2_findsBest : Cond.code yX2_findsBest cX2_findsBest 4 (some .boolean) ∈ lw_g := tg (List.mem_of_getElem? (i := 342) rfl) rfl
abbrev cX2_putBetter : ByteArray := prog_4_method_15_code
def yX2_putBetter : MethodName := ⟨RX2, "putBetter", "(II)V"⟩
def wsX2_putBetter : List Cond := .code yX2_putBetter cX2_putBetter 6 none :: lw_g
set_option maxRecDepth 20000 in
theorem cmX2_putBetter : Cond.code yX2_putBetter cX2_putBetter 6 none ∈ lw_g := tg (List.mem_of_getElem? (i := 346) rfl) rfl
abbrev cX2_leastWeightFrom : ByteArray := prog_4_method_16_code
def yX2_leastWeightFrom : MethodName := ⟨RX2, "leastWeightFrom", "(I)I"⟩
def wsX2_leastWeightFrom : List Cond := .code yX2_leastWeightFrom cX2_leastWeightFrom 4 (some .int) :: lw_g
set_option maxRecDepth 20000 in
theorem cmX2_leastWeightFrom : Cond.code yX2_leastWeightFrom cX2_leastWeightFrom 4 (some .int) ∈ lw_g := tg (List.mem_of_getElem? (i := 350) rfl) rfl
abbrev cX2_weightAt : ByteArray := prog_4_method_17_code
def yX2_weightAt : MethodName := ⟨RX2, "weightAt", "(II)I"⟩
def wsX2_weightAt : List Cond := .code yX2_weightAt cX2_weightAt 5 (some .int) :: lw_g
set_option maxRecDepth 20000 in
theorem cmX2_weightAt : Cond.code yX2_weightAt cX2_weightAt 5 (some .int) ∈ lw_g := tg (List.mem_of_getElem? (i := 354) rfl) rfl
abbrev cJ9_abs : ByteArray := prog_9_method_59_code
def yJ9_abs : MethodName := ⟨RJ9, "abs", "(I)I"⟩
def wsJ9_abs : List Cond := .code yJ9_abs cJ9_abs 1 (some .int) :: lw_g
set_option maxRecDepth 20000 in
theorem cmJ9_abs : Cond.code yJ9_abs cJ9_abs 1 (some .int) ∈ lw_g := tg (List.mem_of_getElem? (i := 357) rfl) rfl
abbrev cX4_adoptFound : ByteArray := prog_1_method_21_code
def yX4_adoptFound : MethodName := ⟨RX4, "adoptFound", "()V"⟩
def wsX4_adoptFound : List Cond := .code yX4_adoptFound cX4_adoptFound 2 none :: lw_g
set_option maxRecDepth 20000 in
theorem cmX4_adoptFound : Cond.code yX4_adoptFound cX4_adoptFound 2 none ∈ lw_g := tg (List.mem_of_getElem? (i := 361) rfl) rfl
abbrev cX3_isFull : ByteArray := prog_5_method_3_code
def yX3_isFull : MethodName := ⟨RX3, "isFull", "()Z"⟩
def wsX3_isFull : List Cond := .code yX3_isFull cX3_isFull 1 (some .boolean) :: lw_g
set_option maxRecDepth 20000 in
theorem cmX3_isFull : Cond.code yX3_isFull cX3_isFull 1 (some .boolean) ∈ lw_g := tg (List.mem_of_getElem? (i := 365) rfl) rfl
abbrev cX3_dropOldest : ByteArray := prog_5_method_6_code
def yX3_dropOldest : MethodName := ⟨RX3, "dropOldest", "()V"⟩
def wsX3_dropOldest : List Cond := .code yX3_dropOldest cX3_dropOldest 1 none :: lw_g
set_option maxRecDepth 20000 in
theorem cmX3_dropOldest : Cond.code yX3_dropOldest cX3_dropOldest 1 none ∈ lw_g := tg (List.mem_of_getElem? (i := 369) rfl) rfl
abbrev cX3_put : ByteArray := prog_5_method_5_code
def yX3_put : MethodName := ⟨RX3, "put", "(LLeastChanges$Batches;)I"⟩
def wsX3_put : List Cond := .code yX3_put cX3_put 2 (some .int) :: lw_g
set_option maxRecDepth 20000 in
theorem cmX3_put : Cond.code yX3_put cX3_put 2 (some .int) ∈ lw_g := tg (List.mem_of_getElem? (i := 374) rfl) rfl
abbrev cX0_setPlaces : ByteArray := prog_2_method_5_code
def yX0_setPlaces : MethodName := ⟨RX0, "setPlaces", "([I)V"⟩
def wsX0_setPlaces : List Cond := .code yX0_setPlaces cX0_setPlaces 2 none :: lw_g
set_option maxRecDepth 20000 in
theorem cmX0_setPlaces : Cond.code yX0_setPlaces cX0_setPlaces 2 none ∈ lw_g := tg (List.mem_of_getElem? (i := 378) rfl) rfl
abbrev cX3_otherPlaces : ByteArray := prog_5_method_8_code
def yX3_otherPlaces : MethodName := ⟨RX3, "otherPlaces", "(ILLeastChanges$Batches;)I"⟩
def wsX3_otherPlaces : List Cond := .code yX3_otherPlaces cX3_otherPlaces 6 (some .int) :: lw_g
set_option maxRecDepth 20000 in
theorem cmX3_otherPlaces : Cond.code yX3_otherPlaces cX3_otherPlaces 6 (some .int) ∈ lw_g := tg (List.mem_of_getElem? (i := 383) rfl) rfl
abbrev cX2_bestChanges : ByteArray := prog_4_method_2_code
def yX2_bestChanges : MethodName := ⟨RX2, "bestChanges", "()I"⟩
def wsX2_bestChanges : List Cond := .code yX2_bestChanges cX2_bestChanges 1 (some .int) :: lw_g
set_option maxRecDepth 20000 in
theorem cmX2_bestChanges : Cond.code yX2_bestChanges cX2_bestChanges 1 (some .int) ∈ lw_g := tg (List.mem_of_getElem? (i := 387) rfl) rfl
abbrev cX2_bestCost : ByteArray := prog_4_method_3_code
def yX2_bestCost : MethodName := ⟨RX2, "bestCost", "()I"⟩
def wsX2_bestCost : List Cond := .code yX2_bestCost cX2_bestCost 1 (some .int) :: lw_g
set_option maxRecDepth 20000 in
theorem cmX2_bestCost : Cond.code yX2_bestCost cX2_bestCost 1 (some .int) ∈ lw_g := tg (List.mem_of_getElem? (i := 391) rfl) rfl
abbrev cX4_tankOf : ByteArray := prog_1_method_8_code
def yX4_tankOf : MethodName := ⟨RX4, "tankOf", "(I)I"⟩
def wsX4_tankOf : List Cond := .code yX4_tankOf cX4_tankOf 2 (some .int) :: lw_g
set_option maxRecDepth 20000 in
theorem cmX4_tankOf : Cond.code yX4_tankOf cX4_tankOf 2 (some .int) ∈ lw_g := tg (List.mem_of_getElem? (i := 395) rfl) rfl
abbrev cX4_start : ByteArray := prog_1_method_9_code
def yX4_start : MethodName := ⟨RX4, "start", "(I)I"⟩
def wsX4_start : List Cond := .code yX4_start cX4_start 2 (some .int) :: lw_g
set_option maxRecDepth 20000 in
theorem cmX4_start : Cond.code yX4_start cX4_start 2 (some .int) ∈ lw_g := tg (List.mem_of_getElem? (i := 400) rfl) rfl
abbrev cX4_changed : ByteArray := prog_1_method_10_code
def yX4_changed : MethodName := ⟨RX4, "changed", "(I)I"⟩
def wsX4_changed : List Cond := .code yX4_changed cX4_changed 2 (some .int) :: lw_g
set_option maxRecDepth 20000 in
theorem cmX4_changed : Cond.code yX4_changed cX4_changed 2 (some .int) ∈ lw_g := tg (List.mem_of_getElem? (i := 404) rfl) rfl
abbrev cX4_memberAt : ByteArray := prog_1_method_22_code
def yX4_memberAt : MethodName := ⟨RX4, "memberAt", "(II)I"⟩
def wsX4_memberAt : List Cond := .code yX4_memberAt cX4_memberAt 4 (some .int) :: lw_g
set_option maxRecDepth 20000 in
theorem cmX4_memberAt : Cond.code yX4_memberAt cX4_memberAt 4 (some .int) ∈ lw_g := tg (List.mem_of_getElem? (i := 407) rfl) rfl
abbrev cX4_bound : ByteArray := prog_1_method_11_code
def yX4_bound : MethodName := ⟨RX4, "bound", "()I"⟩
def wsX4_bound : List Cond := .code yX4_bound cX4_bound 1 (some .int) :: lw_g
set_option maxRecDepth 20000 in
theorem cmX4_bound : Cond.code yX4_bound cX4_bound 1 (some .int) ∈ lw_g := tg (List.mem_of_getElem? (i := 411) rfl) rfl
abbrev cX4_undo : ByteArray := prog_1_method_12_code
def yX4_undo : MethodName := ⟨RX4, "undo", "()Z"⟩
def wsX4_undo : List Cond := .code yX4_undo cX4_undo 1 (some .boolean) :: lw_g
set_option maxRecDepth 20000 in
theorem cmX4_undo : Cond.code yX4_undo cX4_undo 1 (some .boolean) ∈ lw_g := tg (List.mem_of_getElem? (i := 415) rfl) rfl
abbrev cX3_isEmpty : ByteArray := prog_5_method_2_code
def yX3_isEmpty : MethodName := ⟨RX3, "isEmpty", "()Z"⟩
def wsX3_isEmpty : List Cond := .code yX3_isEmpty cX3_isEmpty 1 (some .boolean) :: lw_g
set_option maxRecDepth 20000 in
theorem cmX3_isEmpty : Cond.code yX3_isEmpty cX3_isEmpty 1 (some .boolean) ∈ lw_g := tg (List.mem_of_getElem? (i := 419) rfl) rfl
abbrev cX3_takeNewestInto : ByteArray := prog_5_method_7_code
def yX3_takeNewestInto : MethodName := ⟨RX3, "takeNewestInto", "(LLeastChanges$Batches;)V"⟩
def wsX3_takeNewestInto : List Cond := .code yX3_takeNewestInto cX3_takeNewestInto 2 none :: lw_g
set_option maxRecDepth 20000 in
theorem cmX3_takeNewestInto : Cond.code yX3_takeNewestInto cX3_takeNewestInto 2 none ∈ lw_g := tg (List.mem_of_getElem? (i := 423) rfl) rfl
abbrev cX4_copy : ByteArray := prog_1_method_13_code
def yX4_copy : MethodName := ⟨RX4, "copy", "()I"⟩
def wsX4_copy : List Cond := .code yX4_copy cX4_copy 1 (some .int) :: lw_g
set_option maxRecDepth 20000 in
theorem cmX4_copy : Cond.code yX4_copy cX4_copy 1 (some .int) ∈ lw_g := tg (List.mem_of_getElem? (i := 427) rfl) rfl
abbrev cX4_compare : ByteArray := prog_1_method_14_code
def yX4_compare : MethodName := ⟨RX4, "compare", "(II)I"⟩
def wsX4_compare : List Cond := .code yX4_compare cX4_compare 3 (some .int) :: lw_g
set_option maxRecDepth 20000 in
theorem cmX4_compare : Cond.code yX4_compare cX4_compare 3 (some .int) ∈ lw_g := tg (List.mem_of_getElem? (i := 431) rfl) rfl
abbrev cX3_has : ByteArray := prog_5_method_4_code
def yX3_has : MethodName := ⟨RX3, "has", "(I)Z"⟩
def wsX3_has : List Cond := .code yX3_has cX3_has 2 (some .boolean) :: lw_g
set_option maxRecDepth 20000 in
theorem cmX3_has : Cond.code yX3_has cX3_has 2 (some .boolean) ∈ lw_g := tg (List.mem_of_getElem? (i := 435) rfl) rfl
abbrev cX4_cost : ByteArray := prog_1_method_15_code
def yX4_cost : MethodName := ⟨RX4, "cost", "()J"⟩
def wsX4_cost : List Cond := .code yX4_cost cX4_cost 1 (some .long) :: lw_g
set_option maxRecDepth 20000 in
theorem cmX4_cost : Cond.code yX4_cost cX4_cost 1 (some .long) ∈ lw_g := tg (List.mem_of_getElem? (i := 439) rfl) rfl
abbrev cL_cell : ByteArray := method_2_code
def yL_cell : MethodName := ⟨RL, "cell", "([II)I"⟩
def wsL_cell : List Cond := .code yL_cell cL_cell 2 (some .int) :: lw_g
set_option maxRecDepth 20000 in
theorem cmL_cell : Cond.code yL_cell cL_cell 2 (some .int) ∈ lw_g := tg (List.mem_of_getElem? (i := 442) rfl) rfl
abbrev cX5_init : ByteArray := prog_7_method_1_code
def yX5_init : MethodName := ⟨RX5, "<init>", "(II)V"⟩
def wsX5_init : List Cond := .code yX5_init cX5_init 3 none :: lw_g
set_option maxRecDepth 20000 in
theorem cmX5_init : Cond.code yX5_init cX5_init 3 none ∈ lw_g := tg (List.mem_of_getElem? (i := 447) rfl) rfl
abbrev cX5_batch : ByteArray := prog_7_method_3_code
def yX5_batch : MethodName := ⟨RX5, "batch", "(III)I"⟩
def wsX5_batch : List Cond := .code yX5_batch cX5_batch 4 (some .int) :: lw_g
set_option maxRecDepth 20000 in
theorem cmX5_batch : Cond.code yX5_batch cX5_batch 4 (some .int) ∈ lw_g := tg (List.mem_of_getElem? (i := 555) rfl) rfl
abbrev cX5_rule : ByteArray := prog_7_method_4_code
def yX5_rule : MethodName := ⟨RX5, "rule", "(IIII)Z"⟩
def wsX5_rule : List Cond := .code yX5_rule cX5_rule 6 (some .boolean) :: lw_g
set_option maxRecDepth 20000 in
theorem cmX5_rule : Cond.code yX5_rule cX5_rule 6 (some .boolean) ∈ lw_g := tg (List.mem_of_getElem? (i := 559) rfl) rfl
abbrev cX5_isBatch : ByteArray := prog_7_method_2_code
def yX5_isBatch : MethodName := ⟨RX5, "isBatch", "(I)Z"⟩
def wsX5_isBatch : List Cond := .code yX5_isBatch cX5_isBatch 2 (some .boolean) :: lw_g
set_option maxRecDepth 20000 in
theorem cmX5_isBatch : Cond.code yX5_isBatch cX5_isBatch 2 (some .boolean) ∈ lw_g := tg (List.mem_of_getElem? (i := 563) rfl) rfl
abbrev cX5_freeze : ByteArray := prog_7_method_5_code
def yX5_freeze : MethodName := ⟨RX5, "freeze", "(I)Z"⟩
def wsX5_freeze : List Cond := .code yX5_freeze cX5_freeze 2 (some .boolean) :: lw_g
set_option maxRecDepth 20000 in
theorem cmX5_freeze : Cond.code yX5_freeze cX5_freeze 2 (some .boolean) ∈ lw_g := tg (List.mem_of_getElem? (i := 567) rfl) rfl
abbrev cX5_out : ByteArray := prog_7_method_6_code
def yX5_out : MethodName := ⟨RX5, "out", "(III)Z"⟩
def wsX5_out : List Cond := .code yX5_out cX5_out 4 (some .boolean) :: lw_g
set_option maxRecDepth 20000 in
theorem cmX5_out : Cond.code yX5_out cX5_out 4 (some .boolean) ∈ lw_g := tg (List.mem_of_getElem? (i := 571) rfl) rfl
abbrev cX5_late : ByteArray := prog_7_method_7_code
def yX5_late : MethodName := ⟨RX5, "late", "(II)Z"⟩
def wsX5_late : List Cond := .code yX5_late cX5_late 3 (some .boolean) :: lw_g
set_option maxRecDepth 20000 in
theorem cmX5_late : Cond.code yX5_late cX5_late 3 (some .boolean) ∈ lw_g := tg (List.mem_of_getElem? (i := 575) rfl) rfl
abbrev cX5_run : ByteArray := prog_7_method_13_code
def yX5_run : MethodName := ⟨RX5, "run", "(J)I"⟩
def wsX5_run : List Cond := .code yX5_run cX5_run 4 (some .int) :: lw_g
set_option maxRecDepth 20000 in
theorem cmX5_run : Cond.code yX5_run cX5_run 4 (some .int) ∈ lw_g := tg (List.mem_of_getElem? (i := 579) rfl) rfl
abbrev cX5_search : ByteArray := prog_7_method_12_code
def yX5_search : MethodName := ⟨RX5, "search", "(I)Z"⟩
def wsX5_search : List Cond := .code yX5_search cX5_search 2 (some .boolean) :: lw_g
set_option maxRecDepth 20000 in
theorem cmX5_search : Cond.code yX5_search cX5_search 2 (some .boolean) ∈ lw_g := tg (List.mem_of_getElem? (i := 584) rfl) rfl
abbrev cX5_place : ByteArray := prog_7_method_11_code
def yX5_place : MethodName := ⟨RX5, "place", "(I)V"⟩
def wsX5_place : List Cond := .code yX5_place cX5_place 4 none :: lw_g
set_option maxRecDepth 20000 in
theorem cmX5_place : Cond.code yX5_place cX5_place 4 none ∈ lw_g := tg (List.mem_of_getElem? (i := 588) rfl) rfl
abbrev cX5_judge : ByteArray := prog_7_method_10_code
def yX5_judge : MethodName := ⟨RX5, "judge", "()V"⟩
def wsX5_judge : List Cond := .code yX5_judge cX5_judge 5 none :: lw_g
set_option maxRecDepth 20000 in
theorem cmX5_judge : Cond.code yX5_judge cX5_judge 5 none ∈ lw_g := tg (List.mem_of_getElem? (i := 592) rfl) rfl
abbrev cX5_fits : ByteArray := prog_7_method_8_code
def yX5_fits : MethodName := ⟨RX5, "fits", "(I)Z"⟩
def wsX5_fits : List Cond := .code yX5_fits cX5_fits 7 (some .boolean) :: lw_g
set_option maxRecDepth 20000 in
theorem cmX5_fits : Cond.code yX5_fits cX5_fits 7 (some .boolean) ∈ lw_g := tg (List.mem_of_getElem? (i := 596) rfl) rfl
abbrev cX5_keeps : ByteArray := prog_7_method_9_code
def yX5_keeps : MethodName := ⟨RX5, "keeps", "(II)Z"⟩
def wsX5_keeps : List Cond := .code yX5_keeps cX5_keeps 5 (some .boolean) :: lw_g
set_option maxRecDepth 20000 in
theorem cmX5_keeps : Cond.code yX5_keeps cX5_keeps 5 (some .boolean) ∈ lw_g := tg (List.mem_of_getElem? (i := 600) rfl) rfl
abbrev cX5_keep : ByteArray := prog_7_method_14_code
def yX5_keep : MethodName := ⟨RX5, "keep", "()V"⟩
def wsX5_keep : List Cond := .code yX5_keep cX5_keep 2 none :: lw_g
set_option maxRecDepth 20000 in
theorem cmX5_keep : Cond.code yX5_keep cX5_keep 2 none ∈ lw_g := tg (List.mem_of_getElem? (i := 604) rfl) rfl
abbrev cX5_tankOf : ByteArray := prog_7_method_15_code
def yX5_tankOf : MethodName := ⟨RX5, "tankOf", "(I)I"⟩
def wsX5_tankOf : List Cond := .code yX5_tankOf cX5_tankOf 2 (some .int) :: lw_g
set_option maxRecDepth 20000 in
theorem cmX5_tankOf : Cond.code yX5_tankOf cX5_tankOf 2 (some .int) ∈ lw_g := tg (List.mem_of_getElem? (i := 608) rfl) rfl
abbrev cX5_start : ByteArray := prog_7_method_16_code
def yX5_start : MethodName := ⟨RX5, "start", "(I)I"⟩
def wsX5_start : List Cond := .code yX5_start cX5_start 2 (some .int) :: lw_g
set_option maxRecDepth 20000 in
theorem cmX5_start : Cond.code yX5_start cX5_start 2 (some .int) ∈ lw_g := tg (List.mem_of_getElem? (i := 612) rfl) rfl
abbrev cX5_changed : ByteArray := prog_7_method_17_code
def yX5_changed : MethodName := ⟨RX5, "changed", "(I)I"⟩
def wsX5_changed : List Cond := .code yX5_changed cX5_changed 4 (some .int) :: lw_g
set_option maxRecDepth 20000 in
theorem cmX5_changed : Cond.code yX5_changed cX5_changed 4 (some .int) ∈ lw_g := tg (List.mem_of_getElem? (i := 616) rfl) rfl
abbrev cX5_bound : ByteArray := prog_7_method_18_code
def yX5_bound : MethodName := ⟨RX5, "bound", "()I"⟩
def wsX5_bound : List Cond := .code yX5_bound cX5_bound 1 (some .int) :: lw_g
set_option maxRecDepth 20000 in
theorem cmX5_bound : Cond.code yX5_bound cX5_bound 1 (some .int) ∈ lw_g := tg (List.mem_of_getElem? (i := 620) rfl) rfl
abbrev cX5_cost : ByteArray := prog_7_method_19_code
def yX5_cost : MethodName := ⟨RX5, "cost", "()J"⟩
def wsX5_cost : List Cond := .code yX5_cost cX5_cost 1 (some .long) :: lw_g
set_option maxRecDepth 20000 in
theorem cmX5_cost : Cond.code yX5_cost cX5_cost 1 (some .long) ∈ lw_g := tg (List.mem_of_getElem? (i := 624) rfl) rfl
abbrev cX5_undo : ByteArray := prog_7_method_20_code
def yX5_undo : MethodName := ⟨RX5, "undo", "()Z"⟩
def wsX5_undo : List Cond := .code yX5_undo cX5_undo 2 (some .boolean) :: lw_g
set_option maxRecDepth 20000 in
theorem cmX5_undo : Cond.code yX5_undo cX5_undo 2 (some .boolean) ∈ lw_g := tg (List.mem_of_getElem? (i := 628) rfl) rfl
abbrev cX5_copy : ByteArray := prog_7_method_21_code
def yX5_copy : MethodName := ⟨RX5, "copy", "()I"⟩
def wsX5_copy : List Cond := .code yX5_copy cX5_copy 2 (some .int) :: lw_g
set_option maxRecDepth 20000 in
theorem cmX5_copy : Cond.code yX5_copy cX5_copy 2 (some .int) ∈ lw_g := tg (List.mem_of_getElem? (i := 632) rfl) rfl
abbrev cX5_compare : ByteArray := prog_7_method_22_code
def yX5_compare : MethodName := ⟨RX5, "compare", "(II)I"⟩
def wsX5_compare : List Cond := .code yX5_compare cX5_compare 6 (some .int) :: lw_g
set_option maxRecDepth 20000 in
theorem cmX5_compare : Cond.code yX5_compare cX5_compare 6 (some .int) ∈ lw_g := tg (List.mem_of_getElem? (i := 636) rfl) rfl
abbrev cL_law : ByteArray := code
def yL_law : MethodName := ⟨RL, "law", "([I)Z"⟩
/-- a method's words are among any other's, and among the law's -/
theorem tbl_in {c d : Cond} (h : d ∈ lw_g) : GoodIn (c :: lw_g) (d :: lw_g) := fun w hw => (List.mem_cons.mp hw).elim (fun e => by subst e; exact ⟨List.mem_cons_of_mem _ h, good_of_word (List.mem_filter.mp h).2⟩) (fun q => ⟨List.mem_cons_of_mem _ q, good_of_word (List.mem_filter.mp q).2⟩)
theorem tbl_inL {d : Cond} (h : d ∈ lw_g) : GoodIn lw_g (d :: lw_g) := fun w hw => (List.mem_cons.mp hw).elim (fun e => by subst e; exact ⟨h, good_of_word (List.mem_filter.mp h).2⟩) (fun q => ⟨q, good_of_word (List.mem_filter.mp q).2⟩)
-- words, by their places
set_option maxRecDepth 20000 in
theorem tin_L : Cond.initialized RL ∈ lw_g := tg (List.mem_of_getElem? (i := 20) rfl) rfl
set_option maxRecDepth 20000 in
theorem tin_X4 : Cond.initialized RX4 ∈ lw_g := tg (List.mem_of_getElem? (i := 21) rfl) rfl
set_option maxRecDepth 20000 in
theorem tin_X0 : Cond.initialized RX0 ∈ lw_g := tg (List.mem_of_getElem? (i := 22) rfl) rfl
set_option maxRecDepth 20000 in
theorem tin_X1 : Cond.initialized RX1 ∈ lw_g := tg (List.mem_of_getElem? (i := 23) rfl) rfl
set_option maxRecDepth 20000 in
theorem tin_X2 : Cond.initialized RX2 ∈ lw_g := tg (List.mem_of_getElem? (i := 24) rfl) rfl
set_option maxRecDepth 20000 in
theorem tin_X3 : Cond.initialized RX3 ∈ lw_g := tg (List.mem_of_getElem? (i := 25) rfl) rfl
set_option maxRecDepth 20000 in
theorem tin_J9 : Cond.initialized RJ9 ∈ lw_g := tg (List.mem_of_getElem? (i := 26) rfl) rfl
set_option maxRecDepth 20000 in
theorem tin_X5 : Cond.initialized RX5 ∈ lw_g := tg (List.mem_of_getElem? (i := 27) rfl) rfl
set_option maxRecDepth 20000 in
theorem tin_J7 : Cond.initialized RJ7 ∈ lw_g := tg (List.mem_of_getElem? (i := 28) rfl) rfl
set_option maxRecDepth 20000 in
theorem tin_J10 : Cond.initialized RJ10 ∈ lw_g := tg (List.mem_of_getElem? (i := 29) rfl) rfl
set_option maxRecDepth 20000 in
theorem tin_J6 : Cond.initialized RJ6 ∈ lw_g := tg (List.mem_of_getElem? (i := 30) rfl) rfl
set_option maxRecDepth 20000 in
theorem tcl_L_7 : Cond.classLink RL 7 RX4 ∈ lw_g := tg (List.mem_of_getElem? (i := 31) rfl) rfl
set_option maxRecDepth 20000 in
theorem tinst_X4 : Cond.instantiable RX4 12 ∈ lw_g := tg (List.mem_of_getElem? (i := 32) rfl) rfl
set_option maxRecDepth 20000 in
theorem tm_L_15 : Cond.methodLink RL 15 yX4_init ∈ lw_g := tg (List.mem_of_getElem? (i := 33) rfl) rfl
set_option maxRecDepth 20000 in
theorem ti_X4_init : Cond.instanceMethod yX4_init ∈ lw_g := tg (List.mem_of_getElem? (i := 34) rfl) rfl
set_option maxRecDepth 20000 in
theorem tm_X4_3 : Cond.methodLink RX4 3 objectInit ∈ lw_g := tg (List.mem_of_getElem? (i := 36) rfl) rfl
set_option maxRecDepth 20000 in
theorem ti_obj : Cond.instanceMethod objectInit ∈ lw_g := tg (List.mem_of_getElem? (i := 37) rfl) rfl
set_option maxRecDepth 20000 in
theorem tcl_X4_9 : Cond.classLink RX4 9 RX0 ∈ lw_g := tg (List.mem_of_getElem? (i := 39) rfl) rfl
set_option maxRecDepth 20000 in
theorem tinst_X0 : Cond.instantiable RX0 5 ∈ lw_g := tg (List.mem_of_getElem? (i := 40) rfl) rfl
set_option maxRecDepth 20000 in
theorem tn_X4_11 : Cond.methodLinkNest RX4 11 yX0_init "LeastChanges" ∈ lw_tbl := List.mem_of_getElem? (i := 41) rfl
set_option maxRecDepth 20000 in
theorem ti_X0_init : Cond.instanceMethod yX0_init ∈ lw_g := tg (List.mem_of_getElem? (i := 42) rfl) rfl
set_option maxRecDepth 20000 in
theorem tm_X0_3 : Cond.methodLink RX0 3 objectInit ∈ lw_g := tg (List.mem_of_getElem? (i := 44) rfl) rfl
set_option maxRecDepth 20000 in
theorem tf_X0_9 : Cond.fieldLink RX0 9 "LeastChanges$Batches" "lengths" "[I" ∈ lw_g := tg (List.mem_of_getElem? (i := 45) rfl) rfl
set_option maxRecDepth 20000 in
theorem tf_X2_46 : Cond.fieldLink RX2 46 "LeastChanges$Batches" "lengths" "[I" ∈ lw_g := tg (List.mem_of_getElem? (i := 46) rfl) rfl
set_option maxRecDepth 20000 in
theorem tf_X0_15 : Cond.fieldLink RX0 15 "LeastChanges$Batches" "places" "[I" ∈ lw_g := tg (List.mem_of_getElem? (i := 47) rfl) rfl
set_option maxRecDepth 20000 in
theorem tf_X2_58 : Cond.fieldLink RX2 58 "LeastChanges$Batches" "places" "[I" ∈ lw_g := tg (List.mem_of_getElem? (i := 48) rfl) rfl
set_option maxRecDepth 20000 in
theorem tf_X3_34 : Cond.fieldLink RX3 34 "LeastChanges$Batches" "places" "[I" ∈ lw_g := tg (List.mem_of_getElem? (i := 49) rfl) rfl
set_option maxRecDepth 20000 in
theorem tf_X4_104 : Cond.fieldLink RX4 104 "LeastChanges$Batches" "places" "[I" ∈ lw_g := tg (List.mem_of_getElem? (i := 50) rfl) rfl
set_option maxRecDepth 20000 in
theorem tf_X0_18 : Cond.fieldLink RX0 18 "LeastChanges$Batches" "earliest" "[I" ∈ lw_g := tg (List.mem_of_getElem? (i := 51) rfl) rfl
set_option maxRecDepth 20000 in
theorem tf_X2_47 : Cond.fieldLink RX2 47 "LeastChanges$Batches" "earliest" "[I" ∈ lw_g := tg (List.mem_of_getElem? (i := 52) rfl) rfl
set_option maxRecDepth 20000 in
theorem tf_X4_100 : Cond.fieldLink RX4 100 "LeastChanges$Batches" "earliest" "[I" ∈ lw_g := tg (List.mem_of_getElem? (i := 53) rfl) rfl
set_option maxRecDepth 20000 in
theorem tf_X0_21 : Cond.fieldLink RX0 21 "LeastChanges$Batches" "frozen" "[Z" ∈ lw_g := tg (List.mem_of_getElem? (i := 54) rfl) rfl
set_option maxRecDepth 20000 in
theorem tf_X4_84 : Cond.fieldLink RX4 84 "LeastChanges$Batches" "frozen" "[Z" ∈ lw_g := tg (List.mem_of_getElem? (i := 55) rfl) rfl
set_option maxRecDepth 20000 in
theorem tf_X2_61 : Cond.fieldLink RX2 61 "LeastChanges$Batches" "frozen" "[Z" ∈ lw_g := tg (List.mem_of_getElem? (i := 56) rfl) rfl
set_option maxRecDepth 20000 in
theorem tf_X0_25 : Cond.fieldLink RX0 25 "LeastChanges$Batches" "count" "I" ∈ lw_g := tg (List.mem_of_getElem? (i := 57) rfl) rfl
set_option maxRecDepth 20000 in
theorem tf_X2_40 : Cond.fieldLink RX2 40 "LeastChanges$Batches" "count" "I" ∈ lw_g := tg (List.mem_of_getElem? (i := 58) rfl) rfl
set_option maxRecDepth 20000 in
theorem tf_X3_31 : Cond.fieldLink RX3 31 "LeastChanges$Batches" "count" "I" ∈ lw_g := tg (List.mem_of_getElem? (i := 59) rfl) rfl
set_option maxRecDepth 20000 in
theorem ta_int : Cond.arrayClass .int ∈ lw_g := tg (List.mem_of_getElem? (i := 71) rfl) rfl
set_option maxRecDepth 20000 in
theorem ta_boolean : Cond.arrayClass .boolean ∈ lw_g := tg (List.mem_of_getElem? (i := 72) rfl) rfl
set_option maxRecDepth 20000 in
theorem tcl_X4_16 : Cond.classLink RX4 16 RX1 ∈ lw_g := tg (List.mem_of_getElem? (i := 73) rfl) rfl
set_option maxRecDepth 20000 in
theorem tinst_X1 : Cond.instantiable RX1 5 ∈ lw_g := tg (List.mem_of_getElem? (i := 74) rfl) rfl
set_option maxRecDepth 20000 in
theorem tn_X4_18 : Cond.methodLinkNest RX4 18 yX1_init "LeastChanges" ∈ lw_tbl := List.mem_of_getElem? (i := 75) rfl
set_option maxRecDepth 20000 in
theorem ti_X1_init : Cond.instanceMethod yX1_init ∈ lw_g := tg (List.mem_of_getElem? (i := 76) rfl) rfl
set_option maxRecDepth 20000 in
theorem tm_X1_3 : Cond.methodLink RX1 3 objectInit ∈ lw_g := tg (List.mem_of_getElem? (i := 78) rfl) rfl
set_option maxRecDepth 20000 in
theorem tf_X1_9 : Cond.fieldLink RX1 9 "LeastChanges$Rules" "kinds" "[I" ∈ lw_g := tg (List.mem_of_getElem? (i := 79) rfl) rfl
set_option maxRecDepth 20000 in
theorem tf_X2_84 : Cond.fieldLink RX2 84 "LeastChanges$Rules" "kinds" "[I" ∈ lw_g := tg (List.mem_of_getElem? (i := 80) rfl) rfl
set_option maxRecDepth 20000 in
theorem tf_X1_15 : Cond.fieldLink RX1 15 "LeastChanges$Rules" "firsts" "[I" ∈ lw_g := tg (List.mem_of_getElem? (i := 81) rfl) rfl
set_option maxRecDepth 20000 in
theorem tf_X2_87 : Cond.fieldLink RX2 87 "LeastChanges$Rules" "firsts" "[I" ∈ lw_g := tg (List.mem_of_getElem? (i := 82) rfl) rfl
set_option maxRecDepth 20000 in
theorem tf_X1_18 : Cond.fieldLink RX1 18 "LeastChanges$Rules" "seconds" "[I" ∈ lw_g := tg (List.mem_of_getElem? (i := 83) rfl) rfl
set_option maxRecDepth 20000 in
theorem tf_X2_90 : Cond.fieldLink RX2 90 "LeastChanges$Rules" "seconds" "[I" ∈ lw_g := tg (List.mem_of_getElem? (i := 84) rfl) rfl
set_option maxRecDepth 20000 in
theorem tf_X1_21 : Cond.fieldLink RX1 21 "LeastChanges$Rules" "numbers" "[I" ∈ lw_g := tg (List.mem_of_getElem? (i := 85) rfl) rfl
set_option maxRecDepth 20000 in
theorem tf_X2_93 : Cond.fieldLink RX2 93 "LeastChanges$Rules" "numbers" "[I" ∈ lw_g := tg (List.mem_of_getElem? (i := 86) rfl) rfl
set_option maxRecDepth 20000 in
theorem tf_X1_24 : Cond.fieldLink RX1 24 "LeastChanges$Rules" "count" "I" ∈ lw_g := tg (List.mem_of_getElem? (i := 87) rfl) rfl
set_option maxRecDepth 20000 in
theorem tf_X2_81 : Cond.fieldLink RX2 81 "LeastChanges$Rules" "count" "I" ∈ lw_g := tg (List.mem_of_getElem? (i := 88) rfl) rfl
set_option maxRecDepth 20000 in
theorem tf_X4_167 : Cond.fieldLink RX4 167 "LeastChanges$Rules" "count" "I" ∈ lw_g := tg (List.mem_of_getElem? (i := 89) rfl) rfl
set_option maxRecDepth 20000 in
theorem tcl_X4_23 : Cond.classLink RX4 23 RX2 ∈ lw_g := tg (List.mem_of_getElem? (i := 101) rfl) rfl
set_option maxRecDepth 20000 in
theorem tinst_X2 : Cond.instantiable RX2 10 ∈ lw_g := tg (List.mem_of_getElem? (i := 102) rfl) rfl
set_option maxRecDepth 20000 in
theorem tn_X4_25 : Cond.methodLinkNest RX4 25 yX2_init "LeastChanges" ∈ lw_tbl := List.mem_of_getElem? (i := 103) rfl
set_option maxRecDepth 20000 in
theorem ti_X2_init : Cond.instanceMethod yX2_init ∈ lw_g := tg (List.mem_of_getElem? (i := 104) rfl) rfl
set_option maxRecDepth 20000 in
theorem tm_X2_3 : Cond.methodLink RX2 3 objectInit ∈ lw_g := tg (List.mem_of_getElem? (i := 106) rfl) rfl
set_option maxRecDepth 20000 in
theorem tf_X2_9 : Cond.fieldLink RX2 9 "LeastChanges$Search" "best" "[I" ∈ lw_g := tg (List.mem_of_getElem? (i := 107) rfl) rfl
set_option maxRecDepth 20000 in
theorem tf_X4_173 : Cond.fieldLink RX4 173 "LeastChanges$Search" "best" "[I" ∈ lw_g := tg (List.mem_of_getElem? (i := 108) rfl) rfl
set_option maxRecDepth 20000 in
theorem tf_X2_15 : Cond.fieldLink RX2 15 "LeastChanges$Search" "lengths" "[I" ∈ lw_g := tg (List.mem_of_getElem? (i := 109) rfl) rfl
set_option maxRecDepth 20000 in
theorem tf_X2_18 : Cond.fieldLink RX2 18 "LeastChanges$Search" "homes" "[I" ∈ lw_g := tg (List.mem_of_getElem? (i := 110) rfl) rfl
set_option maxRecDepth 20000 in
theorem tf_X2_21 : Cond.fieldLink RX2 21 "LeastChanges$Search" "free" "[I" ∈ lw_g := tg (List.mem_of_getElem? (i := 111) rfl) rfl
set_option maxRecDepth 20000 in
theorem tf_X2_24 : Cond.fieldLink RX2 24 "LeastChanges$Search" "lags" "[I" ∈ lw_g := tg (List.mem_of_getElem? (i := 112) rfl) rfl
set_option maxRecDepth 20000 in
theorem tf_X2_27 : Cond.fieldLink RX2 27 "LeastChanges$Search" "apart" "[I" ∈ lw_g := tg (List.mem_of_getElem? (i := 113) rfl) rfl
set_option maxRecDepth 20000 in
theorem tf_X2_30 : Cond.fieldLink RX2 30 "LeastChanges$Search" "open" "[I" ∈ lw_g := tg (List.mem_of_getElem? (i := 114) rfl) rfl
set_option maxRecDepth 20000 in
theorem tf_X2_33 : Cond.fieldLink RX2 33 "LeastChanges$Search" "tried" "[I" ∈ lw_g := tg (List.mem_of_getElem? (i := 115) rfl) rfl
set_option maxRecDepth 20000 in
theorem tf_X2_45 : Cond.fieldLink RX2 45 "LeastChanges$Search" "count" "I" ∈ lw_g := tg (List.mem_of_getElem? (i := 116) rfl) rfl
set_option maxRecDepth 20000 in
theorem tf_X2_36 : Cond.fieldLink RX2 36 "LeastChanges$Search" "bestWeight" "I" ∈ lw_g := tg (List.mem_of_getElem? (i := 117) rfl) rfl
set_option maxRecDepth 20000 in
theorem tcl_X4_30 : Cond.classLink RX4 30 RX3 ∈ lw_g := tg (List.mem_of_getElem? (i := 139) rfl) rfl
set_option maxRecDepth 20000 in
theorem tinst_X3 : Cond.instantiable RX3 4 ∈ lw_g := tg (List.mem_of_getElem? (i := 140) rfl) rfl
set_option maxRecDepth 20000 in
theorem tm_X4_32 : Cond.methodLink RX4 32 yX3_init ∈ lw_g := tg (List.mem_of_getElem? (i := 141) rfl) rfl
set_option maxRecDepth 20000 in
theorem ti_X3_init : Cond.instanceMethod yX3_init ∈ lw_g := tg (List.mem_of_getElem? (i := 142) rfl) rfl
set_option maxRecDepth 20000 in
theorem tm_X3_3 : Cond.methodLink RX3 3 objectInit ∈ lw_g := tg (List.mem_of_getElem? (i := 144) rfl) rfl
set_option maxRecDepth 20000 in
theorem tm_X3_9 : Cond.methodLink RX3 9 Lib.Math.max.name ∈ lw_g := tg (List.mem_of_getElem? (i := 145) rfl) rfl
set_option maxRecDepth 20000 in
theorem ts_J9_max : Cond.static Lib.Math.max.name ∈ lw_g := tg (List.mem_of_getElem? (i := 146) rfl) rfl
set_option maxRecDepth 20000 in
theorem tf_X3_15 : Cond.fieldLink RX3 15 "LeastChanges$Shelf" "room" "I" ∈ lw_g := tg (List.mem_of_getElem? (i := 148) rfl) rfl
set_option maxRecDepth 20000 in
theorem tf_X3_21 : Cond.fieldLink RX3 21 "LeastChanges$Shelf" "sizes" "[I" ∈ lw_g := tg (List.mem_of_getElem? (i := 149) rfl) rfl
set_option maxRecDepth 20000 in
theorem tf_X3_25 : Cond.fieldLink RX3 25 "LeastChanges$Shelf" "places" "[I" ∈ lw_g := tg (List.mem_of_getElem? (i := 150) rfl) rfl
set_option maxRecDepth 20000 in
theorem tf_X3_28 : Cond.fieldLink RX3 28 "LeastChanges$Shelf" "count" "I" ∈ lw_g := tg (List.mem_of_getElem? (i := 151) rfl) rfl
set_option maxRecDepth 20000 in
theorem tm_X4_42 : Cond.methodLink RX4 42 Lib.Math.min.name ∈ lw_g := tg (List.mem_of_getElem? (i := 161) rfl) rfl
set_option maxRecDepth 20000 in
theorem ts_J9_min : Cond.static Lib.Math.min.name ∈ lw_g := tg (List.mem_of_getElem? (i := 162) rfl) rfl
set_option maxRecDepth 20000 in
theorem tm_X4_48 : Cond.methodLink RX4 48 Lib.Math.max.name ∈ lw_g := tg (List.mem_of_getElem? (i := 164) rfl) rfl
set_option maxRecDepth 20000 in
theorem tf_X4_51 : Cond.fieldLink RX4 51 "LeastChanges" "tanks" "I" ∈ lw_g := tg (List.mem_of_getElem? (i := 165) rfl) rfl
set_option maxRecDepth 20000 in
theorem tf_X4_55 : Cond.fieldLink RX4 55 "LeastChanges" "days" "I" ∈ lw_g := tg (List.mem_of_getElem? (i := 166) rfl) rfl
set_option maxRecDepth 20000 in
theorem tf_X4_12 : Cond.fieldLink RX4 12 "LeastChanges" "batches" "LLeastChanges$Batches;" ∈ lw_g := tg (List.mem_of_getElem? (i := 167) rfl) rfl
set_option maxRecDepth 20000 in
theorem tf_X4_19 : Cond.fieldLink RX4 19 "LeastChanges" "rules" "LLeastChanges$Rules;" ∈ lw_g := tg (List.mem_of_getElem? (i := 168) rfl) rfl
set_option maxRecDepth 20000 in
theorem tf_X4_26 : Cond.fieldLink RX4 26 "LeastChanges" "search" "LLeastChanges$Search;" ∈ lw_g := tg (List.mem_of_getElem? (i := 169) rfl) rfl
set_option maxRecDepth 20000 in
theorem tf_X4_35 : Cond.fieldLink RX4 35 "LeastChanges" "before" "LLeastChanges$Shelf;" ∈ lw_g := tg (List.mem_of_getElem? (i := 170) rfl) rfl
set_option maxRecDepth 20000 in
theorem tf_X4_39 : Cond.fieldLink RX4 39 "LeastChanges" "copies" "LLeastChanges$Shelf;" ∈ lw_g := tg (List.mem_of_getElem? (i := 171) rfl) rfl
set_option maxRecDepth 20000 in
theorem tf_X4_88 : Cond.fieldLink RX4 88 "LeastChanges" "outs" "I" ∈ lw_g := tg (List.mem_of_getElem? (i := 172) rfl) rfl
set_option maxRecDepth 20000 in
theorem tf_X4_91 : Cond.fieldLink RX4 91 "LeastChanges" "shutDays" "I" ∈ lw_g := tg (List.mem_of_getElem? (i := 173) rfl) rfl
set_option maxRecDepth 20000 in
theorem tf_X4_140 : Cond.fieldLink RX4 140 "LeastChanges" "changedSet" "I" ∈ lw_g := tg (List.mem_of_getElem? (i := 174) rfl) rfl
set_option maxRecDepth 20000 in
theorem tf_X4_124 : Cond.fieldLink RX4 124 "LeastChanges" "leastChanged" "I" ∈ lw_g := tg (List.mem_of_getElem? (i := 175) rfl) rfl
set_option maxRecDepth 20000 in
theorem tf_X4_163 : Cond.fieldLink RX4 163 "LeastChanges" "lastCost" "J" ∈ lw_g := tg (List.mem_of_getElem? (i := 176) rfl) rfl
set_option maxRecDepth 20000 in
theorem tm_L_21 : Cond.methodLink RL 21 yX4_batch ∈ lw_g := tg (List.mem_of_getElem? (i := 202) rfl) rfl
set_option maxRecDepth 20000 in
theorem ti_X4_batch : Cond.instanceMethod yX4_batch ∈ lw_g := tg (List.mem_of_getElem? (i := 203) rfl) rfl
set_option maxRecDepth 20000 in
theorem tse_X4_batch : Cond.selects RX4 yX4_batch yX4_batch ∈ lw_g := tg (List.mem_of_getElem? (i := 204) rfl) rfl
set_option maxRecDepth 20000 in
theorem tm_X4_58 : Cond.methodLink RX4 58 yX4_isTank ∈ lw_g := tg (List.mem_of_getElem? (i := 206) rfl) rfl
set_option maxRecDepth 20000 in
theorem ti_X4_isTank : Cond.instanceMethod yX4_isTank ∈ lw_g := tg (List.mem_of_getElem? (i := 208) rfl) rfl
set_option maxRecDepth 20000 in
theorem tm_X4_62 : Cond.methodLink RX4 62 yX4_isWithinDays ∈ lw_g := tg (List.mem_of_getElem? (i := 210) rfl) rfl
set_option maxRecDepth 20000 in
theorem ti_X4_isWithinDays : Cond.instanceMethod yX4_isWithinDays ∈ lw_g := tg (List.mem_of_getElem? (i := 212) rfl) rfl
set_option maxRecDepth 20000 in
theorem tm_X4_66 : Cond.methodLink RX4 66 yX0_isFull ∈ lw_g := tg (List.mem_of_getElem? (i := 214) rfl) rfl
set_option maxRecDepth 20000 in
theorem ti_X0_isFull : Cond.instanceMethod yX0_isFull ∈ lw_g := tg (List.mem_of_getElem? (i := 215) rfl) rfl
set_option maxRecDepth 20000 in
theorem tse_X0_isFull : Cond.selects RX0 yX0_isFull yX0_isFull ∈ lw_g := tg (List.mem_of_getElem? (i := 216) rfl) rfl
set_option maxRecDepth 20000 in
theorem tm_X4_70 : Cond.methodLink RX4 70 yX0_add ∈ lw_g := tg (List.mem_of_getElem? (i := 218) rfl) rfl
set_option maxRecDepth 20000 in
theorem ti_X0_add : Cond.instanceMethod yX0_add ∈ lw_g := tg (List.mem_of_getElem? (i := 219) rfl) rfl
set_option maxRecDepth 20000 in
theorem tse_X0_add : Cond.selects RX0 yX0_add yX0_add ∈ lw_g := tg (List.mem_of_getElem? (i := 220) rfl) rfl
set_option maxRecDepth 20000 in
theorem tm_L_26 : Cond.methodLink RL 26 yX4_rule ∈ lw_g := tg (List.mem_of_getElem? (i := 222) rfl) rfl
set_option maxRecDepth 20000 in
theorem ti_X4_rule : Cond.instanceMethod yX4_rule ∈ lw_g := tg (List.mem_of_getElem? (i := 223) rfl) rfl
set_option maxRecDepth 20000 in
theorem tse_X4_rule : Cond.selects RX4 yX4_rule yX4_rule ∈ lw_g := tg (List.mem_of_getElem? (i := 224) rfl) rfl
set_option maxRecDepth 20000 in
theorem tm_X4_73 : Cond.methodLink RX4 73 yX4_isRule ∈ lw_g := tg (List.mem_of_getElem? (i := 226) rfl) rfl
set_option maxRecDepth 20000 in
theorem ti_X4_isRule : Cond.instanceMethod yX4_isRule ∈ lw_g := tg (List.mem_of_getElem? (i := 228) rfl) rfl
set_option maxRecDepth 20000 in
theorem tm_X4_81 : Cond.methodLink RX4 81 yX0_has ∈ lw_g := tg (List.mem_of_getElem? (i := 230) rfl) rfl
set_option maxRecDepth 20000 in
theorem ti_X0_has : Cond.instanceMethod yX0_has ∈ lw_g := tg (List.mem_of_getElem? (i := 231) rfl) rfl
set_option maxRecDepth 20000 in
theorem tse_X0_has : Cond.selects RX0 yX0_has yX0_has ∈ lw_g := tg (List.mem_of_getElem? (i := 232) rfl) rfl
set_option maxRecDepth 20000 in
theorem tm_X4_97 : Cond.methodLink RX4 97 yX4_isNumber ∈ lw_g := tg (List.mem_of_getElem? (i := 234) rfl) rfl
set_option maxRecDepth 20000 in
theorem ts_X4_isNumber : Cond.static yX4_isNumber ∈ lw_g := tg (List.mem_of_getElem? (i := 235) rfl) rfl
set_option maxRecDepth 20000 in
theorem tm_X4_77 : Cond.methodLink RX4 77 yX1_isFull ∈ lw_g := tg (List.mem_of_getElem? (i := 237) rfl) rfl
set_option maxRecDepth 20000 in
theorem ti_X1_isFull : Cond.instanceMethod yX1_isFull ∈ lw_g := tg (List.mem_of_getElem? (i := 238) rfl) rfl
set_option maxRecDepth 20000 in
theorem tse_X1_isFull : Cond.selects RX1 yX1_isFull yX1_isFull ∈ lw_g := tg (List.mem_of_getElem? (i := 239) rfl) rfl
set_option maxRecDepth 20000 in
theorem tm_X4_78 : Cond.methodLink RX4 78 yX1_add ∈ lw_g := tg (List.mem_of_getElem? (i := 241) rfl) rfl
set_option maxRecDepth 20000 in
theorem ti_X1_add : Cond.instanceMethod yX1_add ∈ lw_g := tg (List.mem_of_getElem? (i := 242) rfl) rfl
set_option maxRecDepth 20000 in
theorem tse_X1_add : Cond.selects RX1 yX1_add yX1_add ∈ lw_g := tg (List.mem_of_getElem? (i := 243) rfl) rfl
set_option maxRecDepth 20000 in
theorem tm_L_31 : Cond.methodLink RL 31 yX4_freeze ∈ lw_g := tg (List.mem_of_getElem? (i := 245) rfl) rfl
set_option maxRecDepth 20000 in
theorem ti_X4_freeze : Cond.instanceMethod yX4_freeze ∈ lw_g := tg (List.mem_of_getElem? (i := 246) rfl) rfl
set_option maxRecDepth 20000 in
theorem tse_X4_freeze : Cond.selects RX4 yX4_freeze yX4_freeze ∈ lw_g := tg (List.mem_of_getElem? (i := 247) rfl) rfl
set_option maxRecDepth 20000 in
theorem tm_L_36 : Cond.methodLink RL 36 yX4_out ∈ lw_g := tg (List.mem_of_getElem? (i := 249) rfl) rfl
set_option maxRecDepth 20000 in
theorem ti_X4_out : Cond.instanceMethod yX4_out ∈ lw_g := tg (List.mem_of_getElem? (i := 250) rfl) rfl
set_option maxRecDepth 20000 in
theorem tse_X4_out : Cond.selects RX4 yX4_out yX4_out ∈ lw_g := tg (List.mem_of_getElem? (i := 251) rfl) rfl
set_option maxRecDepth 20000 in
theorem tm_X4_94 : Cond.methodLink RX4 94 yX4_daysFromTo ∈ lw_g := tg (List.mem_of_getElem? (i := 253) rfl) rfl
set_option maxRecDepth 20000 in
theorem ts_X4_daysFromTo : Cond.static yX4_daysFromTo ∈ lw_g := tg (List.mem_of_getElem? (i := 254) rfl) rfl
set_option maxRecDepth 20000 in
theorem tm_L_41 : Cond.methodLink RL 41 yX4_late ∈ lw_g := tg (List.mem_of_getElem? (i := 256) rfl) rfl
set_option maxRecDepth 20000 in
theorem ti_X4_late : Cond.instanceMethod yX4_late ∈ lw_g := tg (List.mem_of_getElem? (i := 257) rfl) rfl
set_option maxRecDepth 20000 in
theorem tse_X4_late : Cond.selects RX4 yX4_late yX4_late ∈ lw_g := tg (List.mem_of_getElem? (i := 258) rfl) rfl
set_option maxRecDepth 20000 in
theorem tm_X4_107 : Cond.methodLink RX4 107 yX4_startOfPlace ∈ lw_g := tg (List.mem_of_getElem? (i := 260) rfl) rfl
set_option maxRecDepth 20000 in
theorem ts_X4_startOfPlace : Cond.static yX4_startOfPlace ∈ lw_g := tg (List.mem_of_getElem? (i := 261) rfl) rfl
set_option maxRecDepth 20000 in
theorem tm_L_48 : Cond.methodLink RL 48 yX4_run ∈ lw_g := tg (List.mem_of_getElem? (i := 263) rfl) rfl
set_option maxRecDepth 20000 in
theorem ti_X4_run : Cond.instanceMethod yX4_run ∈ lw_g := tg (List.mem_of_getElem? (i := 264) rfl) rfl
set_option maxRecDepth 20000 in
theorem tse_X4_run : Cond.selects RX4 yX4_run yX4_run ∈ lw_g := tg (List.mem_of_getElem? (i := 265) rfl) rfl
set_option maxRecDepth 20000 in
theorem tcl64_X4_111 : Cond.constantLong RX4 111 4 ∈ lw_g := tg (List.mem_of_getElem? (i := 267) rfl) rfl
set_option maxRecDepth 20000 in
theorem tm_X4_113 : Cond.methodLink RX4 113 yX2_load ∈ lw_g := tg (List.mem_of_getElem? (i := 268) rfl) rfl
set_option maxRecDepth 20000 in
theorem ti_X2_load : Cond.instanceMethod yX2_load ∈ lw_g := tg (List.mem_of_getElem? (i := 269) rfl) rfl
set_option maxRecDepth 20000 in
theorem tse_X2_load : Cond.selects RX2 yX2_load yX2_load ∈ lw_g := tg (List.mem_of_getElem? (i := 270) rfl) rfl
set_option maxRecDepth 20000 in
theorem tn_X2_50 : Cond.methodLinkNest RX2 50 yX4_daysFromTo "LeastChanges" ∈ lw_tbl := List.mem_of_getElem? (i := 272) rfl
set_option maxRecDepth 20000 in
theorem tm_X2_54 : Cond.methodLink RX2 54 yX2_freePlaces ∈ lw_g := tg (List.mem_of_getElem? (i := 273) rfl) rfl
set_option maxRecDepth 20000 in
theorem ts_X2_freePlaces : Cond.static yX2_freePlaces ∈ lw_g := tg (List.mem_of_getElem? (i := 274) rfl) rfl
set_option maxRecDepth 20000 in
theorem tn_X2_65 : Cond.methodLinkNest RX2 65 yX4_startOfPlace "LeastChanges" ∈ lw_tbl := List.mem_of_getElem? (i := 276) rfl
set_option maxRecDepth 20000 in
theorem tm_X4_117 : Cond.methodLink RX4 117 yX2_take ∈ lw_g := tg (List.mem_of_getElem? (i := 277) rfl) rfl
set_option maxRecDepth 20000 in
theorem ti_X2_take : Cond.instanceMethod yX2_take ∈ lw_g := tg (List.mem_of_getElem? (i := 278) rfl) rfl
set_option maxRecDepth 20000 in
theorem tse_X2_take : Cond.selects RX2 yX2_take yX2_take ∈ lw_g := tg (List.mem_of_getElem? (i := 279) rfl) rfl
set_option maxRecDepth 20000 in
theorem tm_X2_69 : Cond.methodLink RX2 69 yJ7_fill ∈ lw_g := tg (List.mem_of_getElem? (i := 281) rfl) rfl
set_option maxRecDepth 20000 in
theorem ts_J7_fill : Cond.static yJ7_fill ∈ lw_g := tg (List.mem_of_getElem? (i := 282) rfl) rfl
set_option maxRecDepth 20000 in
theorem tm_X2_75 : Cond.methodLink RX2 75 arraycopyName ∈ lw_g := tg (List.mem_of_getElem? (i := 284) rfl) rfl
set_option maxRecDepth 20000 in
theorem ts_J10_arraycopy : Cond.static arraycopyName ∈ lw_g := tg (List.mem_of_getElem? (i := 285) rfl) rfl
set_option maxRecDepth 20000 in
theorem tnat_J10_arraycopy : Cond.native arraycopyName ∈ lw_g := tg (List.mem_of_getElem? (i := 286) rfl) rfl
set_option maxRecDepth 20000 in
theorem tm_X2_96 : Cond.methodLink RX2 96 yX2_takeOne ∈ lw_g := tg (List.mem_of_getElem? (i := 287) rfl) rfl
set_option maxRecDepth 20000 in
theorem ti_X2_takeOne : Cond.instanceMethod yX2_takeOne ∈ lw_g := tg (List.mem_of_getElem? (i := 289) rfl) rfl
set_option maxRecDepth 20000 in
theorem tm_X2_103 : Cond.methodLink RX2 103 Lib.Math.max.name ∈ lw_g := tg (List.mem_of_getElem? (i := 291) rfl) rfl
set_option maxRecDepth 20000 in
theorem tm_X2_108 : Cond.methodLink RX2 108 yX2_inEveryTank ∈ lw_g := tg (List.mem_of_getElem? (i := 292) rfl) rfl
set_option maxRecDepth 20000 in
theorem ts_X2_inEveryTank : Cond.static yX2_inEveryTank ∈ lw_g := tg (List.mem_of_getElem? (i := 293) rfl) rfl
set_option maxRecDepth 20000 in
theorem tc_X2_156 : Cond.constant RX2 156 1049601 ∈ lw_g := tg (List.mem_of_getElem? (i := 295) rfl) rfl
set_option maxRecDepth 20000 in
theorem tm_X2_100 : Cond.methodLink RX2 100 yX2_closeByLags ∈ lw_g := tg (List.mem_of_getElem? (i := 296) rfl) rfl
set_option maxRecDepth 20000 in
theorem ti_X2_closeByLags : Cond.instanceMethod yX2_closeByLags ∈ lw_g := tg (List.mem_of_getElem? (i := 298) rfl) rfl
set_option maxRecDepth 20000 in
theorem tm_X2_111 : Cond.methodLink RX2 111 yX2_firstStart ∈ lw_g := tg (List.mem_of_getElem? (i := 300) rfl) rfl
set_option maxRecDepth 20000 in
theorem ts_X2_firstStart : Cond.static yX2_firstStart ∈ lw_g := tg (List.mem_of_getElem? (i := 301) rfl) rfl
set_option maxRecDepth 20000 in
theorem tm_X2_117 : Cond.methodLink RX2 117 yX2_startsIn ∈ lw_g := tg (List.mem_of_getElem? (i := 303) rfl) rfl
set_option maxRecDepth 20000 in
theorem ts_X2_startsIn : Cond.static yX2_startsIn ∈ lw_g := tg (List.mem_of_getElem? (i := 304) rfl) rfl
set_option maxRecDepth 20000 in
theorem tm_X2_120 : Cond.methodLink RX2 120 yJ6_numberOfTrailingZeros ∈ lw_g := tg (List.mem_of_getElem? (i := 306) rfl) rfl
set_option maxRecDepth 20000 in
theorem ts_J6_numberOfTrailingZeros : Cond.static yJ6_numberOfTrailingZeros ∈ lw_g := tg (List.mem_of_getElem? (i := 307) rfl) rfl
set_option maxRecDepth 20000 in
theorem tc_J6_264 : Cond.constant RJ6 264 65536 ∈ lw_g := tg (List.mem_of_getElem? (i := 309) rfl) rfl
set_option maxRecDepth 20000 in
theorem tm_X2_114 : Cond.methodLink RX2 114 yX2_lastStart ∈ lw_g := tg (List.mem_of_getElem? (i := 310) rfl) rfl
set_option maxRecDepth 20000 in
theorem ts_X2_lastStart : Cond.static yX2_lastStart ∈ lw_g := tg (List.mem_of_getElem? (i := 311) rfl) rfl
set_option maxRecDepth 20000 in
theorem tm_X2_125 : Cond.methodLink RX2 125 yJ6_numberOfLeadingZeros ∈ lw_g := tg (List.mem_of_getElem? (i := 313) rfl) rfl
set_option maxRecDepth 20000 in
theorem ts_J6_numberOfLeadingZeros : Cond.static yJ6_numberOfLeadingZeros ∈ lw_g := tg (List.mem_of_getElem? (i := 314) rfl) rfl
set_option maxRecDepth 20000 in
theorem tm_X4_121 : Cond.methodLink RX4 121 yX2_findsAny ∈ lw_g := tg (List.mem_of_getElem? (i := 316) rfl) rfl
set_option maxRecDepth 20000 in
theorem ti_X2_findsAny : Cond.instanceMethod yX2_findsAny ∈ lw_g := tg (List.mem_of_getElem? (i := 317) rfl) rfl
set_option maxRecDepth 20000 in
theorem tse_X2_findsAny : Cond.selects RX2 yX2_findsAny yX2_findsAny ∈ lw_g := tg (List.mem_of_getElem? (i := 318) rfl) rfl
set_option maxRecDepth 20000 in
theorem tm_X2_128 : Cond.methodLink RX2 128 yX2_canPutFrom ∈ lw_g := tg (List.mem_of_getElem? (i := 320) rfl) rfl
set_option maxRecDepth 20000 in
theorem ti_X2_canPutFrom : Cond.instanceMethod yX2_canPutFrom ∈ lw_g := tg (List.mem_of_getElem? (i := 322) rfl) rfl
set_option maxRecDepth 20000 in
theorem tm_X2_136 : Cond.methodLink RX2 136 yX2_leavesRoom ∈ lw_g := tg (List.mem_of_getElem? (i := 324) rfl) rfl
set_option maxRecDepth 20000 in
theorem ti_X2_leavesRoom : Cond.instanceMethod yX2_leavesRoom ∈ lw_g := tg (List.mem_of_getElem? (i := 326) rfl) rfl
set_option maxRecDepth 20000 in
theorem tm_X2_152 : Cond.methodLink RX2 152 yX2_openBeside ∈ lw_g := tg (List.mem_of_getElem? (i := 328) rfl) rfl
set_option maxRecDepth 20000 in
theorem ti_X2_openBeside : Cond.instanceMethod yX2_openBeside ∈ lw_g := tg (List.mem_of_getElem? (i := 330) rfl) rfl
set_option maxRecDepth 20000 in
theorem tn_X2_149 : Cond.methodLinkNest RX2 149 yX4_tankOfPlace "LeastChanges" ∈ lw_tbl := List.mem_of_getElem? (i := 332) rfl
set_option maxRecDepth 20000 in
theorem ts_X4_tankOfPlace : Cond.static yX4_tankOfPlace ∈ lw_g := tg (List.mem_of_getElem? (i := 333) rfl) rfl
set_option maxRecDepth 20000 in
theorem tm_X4_127 : Cond.methodLink RX4 127 yX4_firstBar ∈ lw_g := tg (List.mem_of_getElem? (i := 335) rfl) rfl
set_option maxRecDepth 20000 in
theorem ti_X4_firstBar : Cond.instanceMethod yX4_firstBar ∈ lw_g := tg (List.mem_of_getElem? (i := 337) rfl) rfl
set_option maxRecDepth 20000 in
theorem tm_X4_131 : Cond.methodLink RX4 131 yX2_findsBest ∈ lw_g := tg (List.mem_of_getElem? (i := 339) rfl) rfl
set_option maxRecDepth 20000 in
theorem ti_X2_findsBest : Cond.instanceMethod yX2_findsBest ∈ lw_g := tg (List.mem_of_getElem? (i := 340) rfl) rfl
set_option maxRecDepth 20000 in
theorem tse_X2_findsBest : Cond.selects RX2 yX2_findsBest yX2_findsBest ∈ lw_g := tg (List.mem_of_getElem? (i := 341) rfl) rfl
set_option maxRecDepth 20000 in
theorem tm_X2_132 : Cond.methodLink RX2 132 yX2_putBetter ∈ lw_g := tg (List.mem_of_getElem? (i := 343) rfl) rfl
set_option maxRecDepth 20000 in
theorem ti_X2_putBetter : Cond.instanceMethod yX2_putBetter ∈ lw_g := tg (List.mem_of_getElem? (i := 345) rfl) rfl
set_option maxRecDepth 20000 in
theorem tm_X2_140 : Cond.methodLink RX2 140 yX2_leastWeightFrom ∈ lw_g := tg (List.mem_of_getElem? (i := 347) rfl) rfl
set_option maxRecDepth 20000 in
theorem ti_X2_leastWeightFrom : Cond.instanceMethod yX2_leastWeightFrom ∈ lw_g := tg (List.mem_of_getElem? (i := 349) rfl) rfl
set_option maxRecDepth 20000 in
theorem tm_X2_143 : Cond.methodLink RX2 143 yX2_weightAt ∈ lw_g := tg (List.mem_of_getElem? (i := 351) rfl) rfl
set_option maxRecDepth 20000 in
theorem ti_X2_weightAt : Cond.instanceMethod yX2_weightAt ∈ lw_g := tg (List.mem_of_getElem? (i := 353) rfl) rfl
set_option maxRecDepth 20000 in
theorem tm_X2_146 : Cond.methodLink RX2 146 Lib.Math.abs.name ∈ lw_g := tg (List.mem_of_getElem? (i := 355) rfl) rfl
set_option maxRecDepth 20000 in
theorem ts_J9_abs : Cond.static Lib.Math.abs.name ∈ lw_g := tg (List.mem_of_getElem? (i := 356) rfl) rfl
set_option maxRecDepth 20000 in
theorem tm_X4_134 : Cond.methodLink RX4 134 yX4_adoptFound ∈ lw_g := tg (List.mem_of_getElem? (i := 358) rfl) rfl
set_option maxRecDepth 20000 in
theorem ti_X4_adoptFound : Cond.instanceMethod yX4_adoptFound ∈ lw_g := tg (List.mem_of_getElem? (i := 360) rfl) rfl
set_option maxRecDepth 20000 in
theorem tm_X4_153 : Cond.methodLink RX4 153 yX3_isFull ∈ lw_g := tg (List.mem_of_getElem? (i := 362) rfl) rfl
set_option maxRecDepth 20000 in
theorem ti_X3_isFull : Cond.instanceMethod yX3_isFull ∈ lw_g := tg (List.mem_of_getElem? (i := 363) rfl) rfl
set_option maxRecDepth 20000 in
theorem tse_X3_isFull : Cond.selects RX3 yX3_isFull yX3_isFull ∈ lw_g := tg (List.mem_of_getElem? (i := 364) rfl) rfl
set_option maxRecDepth 20000 in
theorem tm_X4_170 : Cond.methodLink RX4 170 yX3_dropOldest ∈ lw_g := tg (List.mem_of_getElem? (i := 366) rfl) rfl
set_option maxRecDepth 20000 in
theorem ti_X3_dropOldest : Cond.instanceMethod yX3_dropOldest ∈ lw_g := tg (List.mem_of_getElem? (i := 367) rfl) rfl
set_option maxRecDepth 20000 in
theorem tse_X3_dropOldest : Cond.selects RX3 yX3_dropOldest yX3_dropOldest ∈ lw_g := tg (List.mem_of_getElem? (i := 368) rfl) rfl
set_option maxRecDepth 20000 in
theorem tm_X3_35 : Cond.methodLink RX3 35 arraycopyName ∈ lw_g := tg (List.mem_of_getElem? (i := 370) rfl) rfl
set_option maxRecDepth 20000 in
theorem tm_X4_154 : Cond.methodLink RX4 154 yX3_put ∈ lw_g := tg (List.mem_of_getElem? (i := 371) rfl) rfl
set_option maxRecDepth 20000 in
theorem ti_X3_put : Cond.instanceMethod yX3_put ∈ lw_g := tg (List.mem_of_getElem? (i := 372) rfl) rfl
set_option maxRecDepth 20000 in
theorem tse_X3_put : Cond.selects RX3 yX3_put yX3_put ∈ lw_g := tg (List.mem_of_getElem? (i := 373) rfl) rfl
set_option maxRecDepth 20000 in
theorem tm_X4_176 : Cond.methodLink RX4 176 yX0_setPlaces ∈ lw_g := tg (List.mem_of_getElem? (i := 375) rfl) rfl
set_option maxRecDepth 20000 in
theorem ti_X0_setPlaces : Cond.instanceMethod yX0_setPlaces ∈ lw_g := tg (List.mem_of_getElem? (i := 376) rfl) rfl
set_option maxRecDepth 20000 in
theorem tse_X0_setPlaces : Cond.selects RX0 yX0_setPlaces yX0_setPlaces ∈ lw_g := tg (List.mem_of_getElem? (i := 377) rfl) rfl
set_option maxRecDepth 20000 in
theorem tm_X0_29 : Cond.methodLink RX0 29 arraycopyName ∈ lw_g := tg (List.mem_of_getElem? (i := 379) rfl) rfl
set_option maxRecDepth 20000 in
theorem tm_X4_159 : Cond.methodLink RX4 159 yX3_otherPlaces ∈ lw_g := tg (List.mem_of_getElem? (i := 380) rfl) rfl
set_option maxRecDepth 20000 in
theorem ti_X3_otherPlaces : Cond.instanceMethod yX3_otherPlaces ∈ lw_g := tg (List.mem_of_getElem? (i := 381) rfl) rfl
set_option maxRecDepth 20000 in
theorem tse_X3_otherPlaces : Cond.selects RX3 yX3_otherPlaces yX3_otherPlaces ∈ lw_g := tg (List.mem_of_getElem? (i := 382) rfl) rfl
set_option maxRecDepth 20000 in
theorem tm_X4_180 : Cond.methodLink RX4 180 yX2_bestChanges ∈ lw_g := tg (List.mem_of_getElem? (i := 384) rfl) rfl
set_option maxRecDepth 20000 in
theorem ti_X2_bestChanges : Cond.instanceMethod yX2_bestChanges ∈ lw_g := tg (List.mem_of_getElem? (i := 385) rfl) rfl
set_option maxRecDepth 20000 in
theorem tse_X2_bestChanges : Cond.selects RX2 yX2_bestChanges yX2_bestChanges ∈ lw_g := tg (List.mem_of_getElem? (i := 386) rfl) rfl
set_option maxRecDepth 20000 in
theorem tm_X4_183 : Cond.methodLink RX4 183 yX2_bestCost ∈ lw_g := tg (List.mem_of_getElem? (i := 388) rfl) rfl
set_option maxRecDepth 20000 in
theorem ti_X2_bestCost : Cond.instanceMethod yX2_bestCost ∈ lw_g := tg (List.mem_of_getElem? (i := 389) rfl) rfl
set_option maxRecDepth 20000 in
theorem tse_X2_bestCost : Cond.selects RX2 yX2_bestCost yX2_bestCost ∈ lw_g := tg (List.mem_of_getElem? (i := 390) rfl) rfl
set_option maxRecDepth 20000 in
theorem tm_L_53 : Cond.methodLink RL 53 yX4_tankOf ∈ lw_g := tg (List.mem_of_getElem? (i := 392) rfl) rfl
set_option maxRecDepth 20000 in
theorem ti_X4_tankOf : Cond.instanceMethod yX4_tankOf ∈ lw_g := tg (List.mem_of_getElem? (i := 393) rfl) rfl
set_option maxRecDepth 20000 in
theorem tse_X4_tankOf : Cond.selects RX4 yX4_tankOf yX4_tankOf ∈ lw_g := tg (List.mem_of_getElem? (i := 394) rfl) rfl
set_option maxRecDepth 20000 in
theorem tm_X4_137 : Cond.methodLink RX4 137 yX4_tankOfPlace ∈ lw_g := tg (List.mem_of_getElem? (i := 396) rfl) rfl
set_option maxRecDepth 20000 in
theorem tm_L_58 : Cond.methodLink RL 58 yX4_start ∈ lw_g := tg (List.mem_of_getElem? (i := 397) rfl) rfl
set_option maxRecDepth 20000 in
theorem ti_X4_start : Cond.instanceMethod yX4_start ∈ lw_g := tg (List.mem_of_getElem? (i := 398) rfl) rfl
set_option maxRecDepth 20000 in
theorem tse_X4_start : Cond.selects RX4 yX4_start yX4_start ∈ lw_g := tg (List.mem_of_getElem? (i := 399) rfl) rfl
set_option maxRecDepth 20000 in
theorem tm_L_62 : Cond.methodLink RL 62 yX4_changed ∈ lw_g := tg (List.mem_of_getElem? (i := 401) rfl) rfl
set_option maxRecDepth 20000 in
theorem ti_X4_changed : Cond.instanceMethod yX4_changed ∈ lw_g := tg (List.mem_of_getElem? (i := 402) rfl) rfl
set_option maxRecDepth 20000 in
theorem tse_X4_changed : Cond.selects RX4 yX4_changed yX4_changed ∈ lw_g := tg (List.mem_of_getElem? (i := 403) rfl) rfl
set_option maxRecDepth 20000 in
theorem tm_X4_143 : Cond.methodLink RX4 143 yX4_memberAt ∈ lw_g := tg (List.mem_of_getElem? (i := 405) rfl) rfl
set_option maxRecDepth 20000 in
theorem ts_X4_memberAt : Cond.static yX4_memberAt ∈ lw_g := tg (List.mem_of_getElem? (i := 406) rfl) rfl
set_option maxRecDepth 20000 in
theorem tm_L_66 : Cond.methodLink RL 66 yX4_bound ∈ lw_g := tg (List.mem_of_getElem? (i := 408) rfl) rfl
set_option maxRecDepth 20000 in
theorem ti_X4_bound : Cond.instanceMethod yX4_bound ∈ lw_g := tg (List.mem_of_getElem? (i := 409) rfl) rfl
set_option maxRecDepth 20000 in
theorem tse_X4_bound : Cond.selects RX4 yX4_bound yX4_bound ∈ lw_g := tg (List.mem_of_getElem? (i := 410) rfl) rfl
set_option maxRecDepth 20000 in
theorem tm_L_71 : Cond.methodLink RL 71 yX4_undo ∈ lw_g := tg (List.mem_of_getElem? (i := 412) rfl) rfl
set_option maxRecDepth 20000 in
theorem ti_X4_undo : Cond.instanceMethod yX4_undo ∈ lw_g := tg (List.mem_of_getElem? (i := 413) rfl) rfl
set_option maxRecDepth 20000 in
theorem tse_X4_undo : Cond.selects RX4 yX4_undo yX4_undo ∈ lw_g := tg (List.mem_of_getElem? (i := 414) rfl) rfl
set_option maxRecDepth 20000 in
theorem tm_X4_146 : Cond.methodLink RX4 146 yX3_isEmpty ∈ lw_g := tg (List.mem_of_getElem? (i := 416) rfl) rfl
set_option maxRecDepth 20000 in
theorem ti_X3_isEmpty : Cond.instanceMethod yX3_isEmpty ∈ lw_g := tg (List.mem_of_getElem? (i := 417) rfl) rfl
set_option maxRecDepth 20000 in
theorem tse_X3_isEmpty : Cond.selects RX3 yX3_isEmpty yX3_isEmpty ∈ lw_g := tg (List.mem_of_getElem? (i := 418) rfl) rfl
set_option maxRecDepth 20000 in
theorem tm_X4_149 : Cond.methodLink RX4 149 yX3_takeNewestInto ∈ lw_g := tg (List.mem_of_getElem? (i := 420) rfl) rfl
set_option maxRecDepth 20000 in
theorem ti_X3_takeNewestInto : Cond.instanceMethod yX3_takeNewestInto ∈ lw_g := tg (List.mem_of_getElem? (i := 421) rfl) rfl
set_option maxRecDepth 20000 in
theorem tse_X3_takeNewestInto : Cond.selects RX3 yX3_takeNewestInto yX3_takeNewestInto ∈ lw_g := tg (List.mem_of_getElem? (i := 422) rfl) rfl
set_option maxRecDepth 20000 in
theorem tm_L_76 : Cond.methodLink RL 76 yX4_copy ∈ lw_g := tg (List.mem_of_getElem? (i := 424) rfl) rfl
set_option maxRecDepth 20000 in
theorem ti_X4_copy : Cond.instanceMethod yX4_copy ∈ lw_g := tg (List.mem_of_getElem? (i := 425) rfl) rfl
set_option maxRecDepth 20000 in
theorem tse_X4_copy : Cond.selects RX4 yX4_copy yX4_copy ∈ lw_g := tg (List.mem_of_getElem? (i := 426) rfl) rfl
set_option maxRecDepth 20000 in
theorem tm_L_80 : Cond.methodLink RL 80 yX4_compare ∈ lw_g := tg (List.mem_of_getElem? (i := 428) rfl) rfl
set_option maxRecDepth 20000 in
theorem ti_X4_compare : Cond.instanceMethod yX4_compare ∈ lw_g := tg (List.mem_of_getElem? (i := 429) rfl) rfl
set_option maxRecDepth 20000 in
theorem tse_X4_compare : Cond.selects RX4 yX4_compare yX4_compare ∈ lw_g := tg (List.mem_of_getElem? (i := 430) rfl) rfl
set_option maxRecDepth 20000 in
theorem tm_X4_158 : Cond.methodLink RX4 158 yX3_has ∈ lw_g := tg (List.mem_of_getElem? (i := 432) rfl) rfl
set_option maxRecDepth 20000 in
theorem ti_X3_has : Cond.instanceMethod yX3_has ∈ lw_g := tg (List.mem_of_getElem? (i := 433) rfl) rfl
set_option maxRecDepth 20000 in
theorem tse_X3_has : Cond.selects RX3 yX3_has yX3_has ∈ lw_g := tg (List.mem_of_getElem? (i := 434) rfl) rfl
set_option maxRecDepth 20000 in
theorem tm_L_85 : Cond.methodLink RL 85 yX4_cost ∈ lw_g := tg (List.mem_of_getElem? (i := 436) rfl) rfl
set_option maxRecDepth 20000 in
theorem ti_X4_cost : Cond.instanceMethod yX4_cost ∈ lw_g := tg (List.mem_of_getElem? (i := 437) rfl) rfl
set_option maxRecDepth 20000 in
theorem tse_X4_cost : Cond.selects RX4 yX4_cost yX4_cost ∈ lw_g := tg (List.mem_of_getElem? (i := 438) rfl) rfl
set_option maxRecDepth 20000 in
theorem tm_L_9 : Cond.methodLink RL 9 yL_cell ∈ lw_g := tg (List.mem_of_getElem? (i := 440) rfl) rfl
set_option maxRecDepth 20000 in
theorem ts_L_cell : Cond.static yL_cell ∈ lw_g := tg (List.mem_of_getElem? (i := 441) rfl) rfl
set_option maxRecDepth 20000 in
theorem tcl_L_18 : Cond.classLink RL 18 RX5 ∈ lw_g := tg (List.mem_of_getElem? (i := 443) rfl) rfl
set_option maxRecDepth 20000 in
theorem tinst_X5 : Cond.instantiable RX5 34 ∈ lw_g := tg (List.mem_of_getElem? (i := 444) rfl) rfl
set_option maxRecDepth 20000 in
theorem tm_L_20 : Cond.methodLink RL 20 yX5_init ∈ lw_g := tg (List.mem_of_getElem? (i := 445) rfl) rfl
set_option maxRecDepth 20000 in
theorem ti_X5_init : Cond.instanceMethod yX5_init ∈ lw_g := tg (List.mem_of_getElem? (i := 446) rfl) rfl
set_option maxRecDepth 20000 in
theorem tm_X5_1 : Cond.methodLink RX5 1 objectInit ∈ lw_g := tg (List.mem_of_getElem? (i := 448) rfl) rfl
set_option maxRecDepth 20000 in
theorem tf_X5_74 : Cond.fieldLink RX5 74 "LeastChangesModel" "tanks" "I" ∈ lw_g := tg (List.mem_of_getElem? (i := 449) rfl) rfl
set_option maxRecDepth 20000 in
theorem tf_X5_78 : Cond.fieldLink RX5 78 "LeastChangesModel" "days" "I" ∈ lw_g := tg (List.mem_of_getElem? (i := 450) rfl) rfl
set_option maxRecDepth 20000 in
theorem tf_X5_7 : Cond.fieldLink RX5 7 "LeastChangesModel" "length" "[I" ∈ lw_g := tg (List.mem_of_getElem? (i := 451) rfl) rfl
set_option maxRecDepth 20000 in
theorem tf_X5_13 : Cond.fieldLink RX5 13 "LeastChangesModel" "tank" "[I" ∈ lw_g := tg (List.mem_of_getElem? (i := 452) rfl) rfl
set_option maxRecDepth 20000 in
theorem tf_X5_16 : Cond.fieldLink RX5 16 "LeastChangesModel" "start" "[I" ∈ lw_g := tg (List.mem_of_getElem? (i := 453) rfl) rfl
set_option maxRecDepth 20000 in
theorem tf_X5_19 : Cond.fieldLink RX5 19 "LeastChangesModel" "earliest" "[I" ∈ lw_g := tg (List.mem_of_getElem? (i := 454) rfl) rfl
set_option maxRecDepth 20000 in
theorem tf_X5_22 : Cond.fieldLink RX5 22 "LeastChangesModel" "frozen" "[Z" ∈ lw_g := tg (List.mem_of_getElem? (i := 455) rfl) rfl
set_option maxRecDepth 20000 in
theorem tf_X5_81 : Cond.fieldLink RX5 81 "LeastChangesModel" "batches" "I" ∈ lw_g := tg (List.mem_of_getElem? (i := 456) rfl) rfl
set_option maxRecDepth 20000 in
theorem tf_X5_26 : Cond.fieldLink RX5 26 "LeastChangesModel" "ruleKind" "[I" ∈ lw_g := tg (List.mem_of_getElem? (i := 457) rfl) rfl
set_option maxRecDepth 20000 in
theorem tf_X5_29 : Cond.fieldLink RX5 29 "LeastChangesModel" "ruleA" "[I" ∈ lw_g := tg (List.mem_of_getElem? (i := 458) rfl) rfl
set_option maxRecDepth 20000 in
theorem tf_X5_32 : Cond.fieldLink RX5 32 "LeastChangesModel" "ruleB" "[I" ∈ lw_g := tg (List.mem_of_getElem? (i := 459) rfl) rfl
set_option maxRecDepth 20000 in
theorem tf_X5_35 : Cond.fieldLink RX5 35 "LeastChangesModel" "ruleDays" "[I" ∈ lw_g := tg (List.mem_of_getElem? (i := 460) rfl) rfl
set_option maxRecDepth 20000 in
theorem tf_X5_88 : Cond.fieldLink RX5 88 "LeastChangesModel" "rules" "I" ∈ lw_g := tg (List.mem_of_getElem? (i := 461) rfl) rfl
set_option maxRecDepth 20000 in
theorem tf_X5_38 : Cond.fieldLink RX5 38 "LeastChangesModel" "outTank" "[I" ∈ lw_g := tg (List.mem_of_getElem? (i := 462) rfl) rfl
set_option maxRecDepth 20000 in
theorem tf_X5_41 : Cond.fieldLink RX5 41 "LeastChangesModel" "outFrom" "[I" ∈ lw_g := tg (List.mem_of_getElem? (i := 463) rfl) rfl
set_option maxRecDepth 20000 in
theorem tf_X5_44 : Cond.fieldLink RX5 44 "LeastChangesModel" "outTo" "[I" ∈ lw_g := tg (List.mem_of_getElem? (i := 464) rfl) rfl
set_option maxRecDepth 20000 in
theorem tf_X5_91 : Cond.fieldLink RX5 91 "LeastChangesModel" "outs" "I" ∈ lw_g := tg (List.mem_of_getElem? (i := 465) rfl) rfl
set_option maxRecDepth 20000 in
theorem tf_X5_47 : Cond.fieldLink RX5 47 "LeastChangesModel" "undoSize" "[I" ∈ lw_g := tg (List.mem_of_getElem? (i := 466) rfl) rfl
set_option maxRecDepth 20000 in
theorem tf_X5_50 : Cond.fieldLink RX5 50 "LeastChangesModel" "undoPlan" "[I" ∈ lw_g := tg (List.mem_of_getElem? (i := 467) rfl) rfl
set_option maxRecDepth 20000 in
theorem tf_X5_136 : Cond.fieldLink RX5 136 "LeastChangesModel" "undos" "I" ∈ lw_g := tg (List.mem_of_getElem? (i := 468) rfl) rfl
set_option maxRecDepth 20000 in
theorem tf_X5_53 : Cond.fieldLink RX5 53 "LeastChangesModel" "copySize" "[I" ∈ lw_g := tg (List.mem_of_getElem? (i := 469) rfl) rfl
set_option maxRecDepth 20000 in
theorem tf_X5_56 : Cond.fieldLink RX5 56 "LeastChangesModel" "copyPlan" "[I" ∈ lw_g := tg (List.mem_of_getElem? (i := 470) rfl) rfl
set_option maxRecDepth 20000 in
theorem tf_X5_139 : Cond.fieldLink RX5 139 "LeastChangesModel" "copies" "I" ∈ lw_g := tg (List.mem_of_getElem? (i := 471) rfl) rfl
set_option maxRecDepth 20000 in
theorem tf_X5_59 : Cond.fieldLink RX5 59 "LeastChangesModel" "tryTank" "[I" ∈ lw_g := tg (List.mem_of_getElem? (i := 472) rfl) rfl
set_option maxRecDepth 20000 in
theorem tf_X5_62 : Cond.fieldLink RX5 62 "LeastChangesModel" "tryStart" "[I" ∈ lw_g := tg (List.mem_of_getElem? (i := 473) rfl) rfl
set_option maxRecDepth 20000 in
theorem tf_X5_65 : Cond.fieldLink RX5 65 "LeastChangesModel" "bestTank" "[I" ∈ lw_g := tg (List.mem_of_getElem? (i := 474) rfl) rfl
set_option maxRecDepth 20000 in
theorem tf_X5_68 : Cond.fieldLink RX5 68 "LeastChangesModel" "bestStart" "[I" ∈ lw_g := tg (List.mem_of_getElem? (i := 475) rfl) rfl
set_option maxRecDepth 20000 in
theorem tf_X5_105 : Cond.fieldLink RX5 105 "LeastChangesModel" "bestChanged" "I" ∈ lw_g := tg (List.mem_of_getElem? (i := 476) rfl) rfl
set_option maxRecDepth 20000 in
theorem tf_X5_108 : Cond.fieldLink RX5 108 "LeastChangesModel" "bestCost" "I" ∈ lw_g := tg (List.mem_of_getElem? (i := 477) rfl) rfl
set_option maxRecDepth 20000 in
theorem tf_X5_101 : Cond.fieldLink RX5 101 "LeastChangesModel" "there" "Z" ∈ lw_g := tg (List.mem_of_getElem? (i := 478) rfl) rfl
set_option maxRecDepth 20000 in
theorem tf_X5_94 : Cond.fieldLink RX5 94 "LeastChangesModel" "without" "I" ∈ lw_g := tg (List.mem_of_getElem? (i := 479) rfl) rfl
set_option maxRecDepth 20000 in
theorem tf_X5_71 : Cond.fieldLink RX5 71 "LeastChangesModel" "wasChanged" "[Z" ∈ lw_g := tg (List.mem_of_getElem? (i := 480) rfl) rfl
set_option maxRecDepth 20000 in
theorem tf_X5_126 : Cond.fieldLink RX5 126 "LeastChangesModel" "bound" "I" ∈ lw_g := tg (List.mem_of_getElem? (i := 481) rfl) rfl
set_option maxRecDepth 20000 in
theorem tf_X5_132 : Cond.fieldLink RX5 132 "LeastChangesModel" "cost" "J" ∈ lw_g := tg (List.mem_of_getElem? (i := 482) rfl) rfl
set_option maxRecDepth 20000 in
theorem tm_L_25 : Cond.methodLink RL 25 yX5_batch ∈ lw_g := tg (List.mem_of_getElem? (i := 552) rfl) rfl
set_option maxRecDepth 20000 in
theorem ti_X5_batch : Cond.instanceMethod yX5_batch ∈ lw_g := tg (List.mem_of_getElem? (i := 553) rfl) rfl
set_option maxRecDepth 20000 in
theorem tse_X5_batch : Cond.selects RX5 yX5_batch yX5_batch ∈ lw_g := tg (List.mem_of_getElem? (i := 554) rfl) rfl
set_option maxRecDepth 20000 in
theorem tm_L_30 : Cond.methodLink RL 30 yX5_rule ∈ lw_g := tg (List.mem_of_getElem? (i := 556) rfl) rfl
set_option maxRecDepth 20000 in
theorem ti_X5_rule : Cond.instanceMethod yX5_rule ∈ lw_g := tg (List.mem_of_getElem? (i := 557) rfl) rfl
set_option maxRecDepth 20000 in
theorem tse_X5_rule : Cond.selects RX5 yX5_rule yX5_rule ∈ lw_g := tg (List.mem_of_getElem? (i := 558) rfl) rfl
set_option maxRecDepth 20000 in
theorem tm_X5_84 : Cond.methodLink RX5 84 yX5_isBatch ∈ lw_g := tg (List.mem_of_getElem? (i := 560) rfl) rfl
set_option maxRecDepth 20000 in
theorem ti_X5_isBatch : Cond.instanceMethod yX5_isBatch ∈ lw_g := tg (List.mem_of_getElem? (i := 562) rfl) rfl
set_option maxRecDepth 20000 in
theorem tm_L_35 : Cond.methodLink RL 35 yX5_freeze ∈ lw_g := tg (List.mem_of_getElem? (i := 564) rfl) rfl
set_option maxRecDepth 20000 in
theorem ti_X5_freeze : Cond.instanceMethod yX5_freeze ∈ lw_g := tg (List.mem_of_getElem? (i := 565) rfl) rfl
set_option maxRecDepth 20000 in
theorem tse_X5_freeze : Cond.selects RX5 yX5_freeze yX5_freeze ∈ lw_g := tg (List.mem_of_getElem? (i := 566) rfl) rfl
set_option maxRecDepth 20000 in
theorem tm_L_40 : Cond.methodLink RL 40 yX5_out ∈ lw_g := tg (List.mem_of_getElem? (i := 568) rfl) rfl
set_option maxRecDepth 20000 in
theorem ti_X5_out : Cond.instanceMethod yX5_out ∈ lw_g := tg (List.mem_of_getElem? (i := 569) rfl) rfl
set_option maxRecDepth 20000 in
theorem tse_X5_out : Cond.selects RX5 yX5_out yX5_out ∈ lw_g := tg (List.mem_of_getElem? (i := 570) rfl) rfl
set_option maxRecDepth 20000 in
theorem tm_L_45 : Cond.methodLink RL 45 yX5_late ∈ lw_g := tg (List.mem_of_getElem? (i := 572) rfl) rfl
set_option maxRecDepth 20000 in
theorem ti_X5_late : Cond.instanceMethod yX5_late ∈ lw_g := tg (List.mem_of_getElem? (i := 573) rfl) rfl
set_option maxRecDepth 20000 in
theorem tse_X5_late : Cond.selects RX5 yX5_late yX5_late ∈ lw_g := tg (List.mem_of_getElem? (i := 574) rfl) rfl
set_option maxRecDepth 20000 in
theorem tm_L_52 : Cond.methodLink RL 52 yX5_run ∈ lw_g := tg (List.mem_of_getElem? (i := 576) rfl) rfl
set_option maxRecDepth 20000 in
theorem ti_X5_run : Cond.instanceMethod yX5_run ∈ lw_g := tg (List.mem_of_getElem? (i := 577) rfl) rfl
set_option maxRecDepth 20000 in
theorem tse_X5_run : Cond.selects RX5 yX5_run yX5_run ∈ lw_g := tg (List.mem_of_getElem? (i := 578) rfl) rfl
set_option maxRecDepth 20000 in
theorem tcl64_X5_121 : Cond.constantLong RX5 121 4 ∈ lw_g := tg (List.mem_of_getElem? (i := 580) rfl) rfl
set_option maxRecDepth 20000 in
theorem tm_X5_123 : Cond.methodLink RX5 123 yX5_search ∈ lw_g := tg (List.mem_of_getElem? (i := 581) rfl) rfl
set_option maxRecDepth 20000 in
theorem ti_X5_search : Cond.instanceMethod yX5_search ∈ lw_g := tg (List.mem_of_getElem? (i := 583) rfl) rfl
set_option maxRecDepth 20000 in
theorem tm_X5_117 : Cond.methodLink RX5 117 yX5_place ∈ lw_g := tg (List.mem_of_getElem? (i := 585) rfl) rfl
set_option maxRecDepth 20000 in
theorem ti_X5_place : Cond.instanceMethod yX5_place ∈ lw_g := tg (List.mem_of_getElem? (i := 587) rfl) rfl
set_option maxRecDepth 20000 in
theorem tm_X5_111 : Cond.methodLink RX5 111 yX5_judge ∈ lw_g := tg (List.mem_of_getElem? (i := 589) rfl) rfl
set_option maxRecDepth 20000 in
theorem ti_X5_judge : Cond.instanceMethod yX5_judge ∈ lw_g := tg (List.mem_of_getElem? (i := 591) rfl) rfl
set_option maxRecDepth 20000 in
theorem tm_X5_114 : Cond.methodLink RX5 114 yX5_fits ∈ lw_g := tg (List.mem_of_getElem? (i := 593) rfl) rfl
set_option maxRecDepth 20000 in
theorem ti_X5_fits : Cond.instanceMethod yX5_fits ∈ lw_g := tg (List.mem_of_getElem? (i := 595) rfl) rfl
set_option maxRecDepth 20000 in
theorem tm_X5_97 : Cond.methodLink RX5 97 yX5_keeps ∈ lw_g := tg (List.mem_of_getElem? (i := 597) rfl) rfl
set_option maxRecDepth 20000 in
theorem ti_X5_keeps : Cond.instanceMethod yX5_keeps ∈ lw_g := tg (List.mem_of_getElem? (i := 599) rfl) rfl
set_option maxRecDepth 20000 in
theorem tm_X5_129 : Cond.methodLink RX5 129 yX5_keep ∈ lw_g := tg (List.mem_of_getElem? (i := 601) rfl) rfl
set_option maxRecDepth 20000 in
theorem ti_X5_keep : Cond.instanceMethod yX5_keep ∈ lw_g := tg (List.mem_of_getElem? (i := 603) rfl) rfl
set_option maxRecDepth 20000 in
theorem tm_L_57 : Cond.methodLink RL 57 yX5_tankOf ∈ lw_g := tg (List.mem_of_getElem? (i := 605) rfl) rfl
set_option maxRecDepth 20000 in
theorem ti_X5_tankOf : Cond.instanceMethod yX5_tankOf ∈ lw_g := tg (List.mem_of_getElem? (i := 606) rfl) rfl
set_option maxRecDepth 20000 in
theorem tse_X5_tankOf : Cond.selects RX5 yX5_tankOf yX5_tankOf ∈ lw_g := tg (List.mem_of_getElem? (i := 607) rfl) rfl
set_option maxRecDepth 20000 in
theorem tm_L_61 : Cond.methodLink RL 61 yX5_start ∈ lw_g := tg (List.mem_of_getElem? (i := 609) rfl) rfl
set_option maxRecDepth 20000 in
theorem ti_X5_start : Cond.instanceMethod yX5_start ∈ lw_g := tg (List.mem_of_getElem? (i := 610) rfl) rfl
set_option maxRecDepth 20000 in
theorem tse_X5_start : Cond.selects RX5 yX5_start yX5_start ∈ lw_g := tg (List.mem_of_getElem? (i := 611) rfl) rfl
set_option maxRecDepth 20000 in
theorem tm_L_65 : Cond.methodLink RL 65 yX5_changed ∈ lw_g := tg (List.mem_of_getElem? (i := 613) rfl) rfl
set_option maxRecDepth 20000 in
theorem ti_X5_changed : Cond.instanceMethod yX5_changed ∈ lw_g := tg (List.mem_of_getElem? (i := 614) rfl) rfl
set_option maxRecDepth 20000 in
theorem tse_X5_changed : Cond.selects RX5 yX5_changed yX5_changed ∈ lw_g := tg (List.mem_of_getElem? (i := 615) rfl) rfl
set_option maxRecDepth 20000 in
theorem tm_L_70 : Cond.methodLink RL 70 yX5_bound ∈ lw_g := tg (List.mem_of_getElem? (i := 617) rfl) rfl
set_option maxRecDepth 20000 in
theorem ti_X5_bound : Cond.instanceMethod yX5_bound ∈ lw_g := tg (List.mem_of_getElem? (i := 618) rfl) rfl
set_option maxRecDepth 20000 in
theorem tse_X5_bound : Cond.selects RX5 yX5_bound yX5_bound ∈ lw_g := tg (List.mem_of_getElem? (i := 619) rfl) rfl
set_option maxRecDepth 20000 in
theorem tm_L_89 : Cond.methodLink RL 89 yX5_cost ∈ lw_g := tg (List.mem_of_getElem? (i := 621) rfl) rfl
set_option maxRecDepth 20000 in
theorem ti_X5_cost : Cond.instanceMethod yX5_cost ∈ lw_g := tg (List.mem_of_getElem? (i := 622) rfl) rfl
set_option maxRecDepth 20000 in
theorem tse_X5_cost : Cond.selects RX5 yX5_cost yX5_cost ∈ lw_g := tg (List.mem_of_getElem? (i := 623) rfl) rfl
set_option maxRecDepth 20000 in
theorem tm_L_75 : Cond.methodLink RL 75 yX5_undo ∈ lw_g := tg (List.mem_of_getElem? (i := 625) rfl) rfl
set_option maxRecDepth 20000 in
theorem ti_X5_undo : Cond.instanceMethod yX5_undo ∈ lw_g := tg (List.mem_of_getElem? (i := 626) rfl) rfl
set_option maxRecDepth 20000 in
theorem tse_X5_undo : Cond.selects RX5 yX5_undo yX5_undo ∈ lw_g := tg (List.mem_of_getElem? (i := 627) rfl) rfl
set_option maxRecDepth 20000 in
theorem tm_L_79 : Cond.methodLink RL 79 yX5_copy ∈ lw_g := tg (List.mem_of_getElem? (i := 629) rfl) rfl
set_option maxRecDepth 20000 in
theorem ti_X5_copy : Cond.instanceMethod yX5_copy ∈ lw_g := tg (List.mem_of_getElem? (i := 630) rfl) rfl
set_option maxRecDepth 20000 in
theorem tse_X5_copy : Cond.selects RX5 yX5_copy yX5_copy ∈ lw_g := tg (List.mem_of_getElem? (i := 631) rfl) rfl
set_option maxRecDepth 20000 in
theorem tm_L_84 : Cond.methodLink RL 84 yX5_compare ∈ lw_g := tg (List.mem_of_getElem? (i := 633) rfl) rfl
set_option maxRecDepth 20000 in
theorem ti_X5_compare : Cond.instanceMethod yX5_compare ∈ lw_g := tg (List.mem_of_getElem? (i := 634) rfl) rfl
set_option maxRecDepth 20000 in
theorem tse_X5_compare : Cond.selects RX5 yX5_compare yX5_compare ∈ lw_g := tg (List.mem_of_getElem? (i := 635) rfl) rfl
set_option maxRecDepth 20000 in
theorem tcl64_L_46 : Cond.constantLong RL 46 4294967295 ∈ lw_g := tg (List.mem_of_getElem? (i := 637) rfl) rfl
set_option maxRecDepth 20000 in
theorem tse_X4_isTank : Cond.selects RX4 yX4_isTank yX4_isTank ∈ lw_g := tg (List.mem_of_getElem? (i := 0) rfl) rfl
set_option maxRecDepth 20000 in
theorem tse_X4_isWithinDays : Cond.selects RX4 yX4_isWithinDays yX4_isWithinDays ∈ lw_g := tg (List.mem_of_getElem? (i := 1) rfl) rfl
set_option maxRecDepth 20000 in
theorem tse_X4_isRule : Cond.selects RX4 yX4_isRule yX4_isRule ∈ lw_g := tg (List.mem_of_getElem? (i := 2) rfl) rfl
set_option maxRecDepth 20000 in
theorem tse_X2_takeOne : Cond.selects RX2 yX2_takeOne yX2_takeOne ∈ lw_g := tg (List.mem_of_getElem? (i := 3) rfl) rfl
set_option maxRecDepth 20000 in
theorem tse_X2_closeByLags : Cond.selects RX2 yX2_closeByLags yX2_closeByLags ∈ lw_g := tg (List.mem_of_getElem? (i := 4) rfl) rfl
set_option maxRecDepth 20000 in
theorem tse_X2_canPutFrom : Cond.selects RX2 yX2_canPutFrom yX2_canPutFrom ∈ lw_g := tg (List.mem_of_getElem? (i := 5) rfl) rfl
set_option maxRecDepth 20000 in
theorem tse_X2_leavesRoom : Cond.selects RX2 yX2_leavesRoom yX2_leavesRoom ∈ lw_g := tg (List.mem_of_getElem? (i := 6) rfl) rfl
set_option maxRecDepth 20000 in
theorem tse_X2_openBeside : Cond.selects RX2 yX2_openBeside yX2_openBeside ∈ lw_g := tg (List.mem_of_getElem? (i := 7) rfl) rfl
set_option maxRecDepth 20000 in
theorem tse_X4_firstBar : Cond.selects RX4 yX4_firstBar yX4_firstBar ∈ lw_g := tg (List.mem_of_getElem? (i := 8) rfl) rfl
set_option maxRecDepth 20000 in
theorem tse_X2_putBetter : Cond.selects RX2 yX2_putBetter yX2_putBetter ∈ lw_g := tg (List.mem_of_getElem? (i := 9) rfl) rfl
set_option maxRecDepth 20000 in
theorem tse_X2_leastWeightFrom : Cond.selects RX2 yX2_leastWeightFrom yX2_leastWeightFrom ∈ lw_g := tg (List.mem_of_getElem? (i := 10) rfl) rfl
set_option maxRecDepth 20000 in
theorem tse_X2_weightAt : Cond.selects RX2 yX2_weightAt yX2_weightAt ∈ lw_g := tg (List.mem_of_getElem? (i := 11) rfl) rfl
set_option maxRecDepth 20000 in
theorem tse_X4_adoptFound : Cond.selects RX4 yX4_adoptFound yX4_adoptFound ∈ lw_g := tg (List.mem_of_getElem? (i := 12) rfl) rfl
set_option maxRecDepth 20000 in
theorem tse_X5_isBatch : Cond.selects RX5 yX5_isBatch yX5_isBatch ∈ lw_g := tg (List.mem_of_getElem? (i := 13) rfl) rfl
set_option maxRecDepth 20000 in
theorem tse_X5_search : Cond.selects RX5 yX5_search yX5_search ∈ lw_g := tg (List.mem_of_getElem? (i := 14) rfl) rfl
set_option maxRecDepth 20000 in
theorem tse_X5_place : Cond.selects RX5 yX5_place yX5_place ∈ lw_g := tg (List.mem_of_getElem? (i := 15) rfl) rfl
set_option maxRecDepth 20000 in
theorem tse_X5_judge : Cond.selects RX5 yX5_judge yX5_judge ∈ lw_g := tg (List.mem_of_getElem? (i := 16) rfl) rfl
set_option maxRecDepth 20000 in
theorem tse_X5_fits : Cond.selects RX5 yX5_fits yX5_fits ∈ lw_g := tg (List.mem_of_getElem? (i := 17) rfl) rfl
set_option maxRecDepth 20000 in
theorem tse_X5_keeps : Cond.selects RX5 yX5_keeps yX5_keeps ∈ lw_g := tg (List.mem_of_getElem? (i := 18) rfl) rfl
set_option maxRecDepth 20000 in
theorem tse_X5_keep : Cond.selects RX5 yX5_keep yX5_keep ∈ lw_g := tg (List.mem_of_getElem? (i := 19) rfl) rfl
set_option maxRecDepth 20000 in
theorem tcode_max : Cond.code Lib.Math.max.name Lib.Math.max.code 2 (some .int) ∈ lw_g := tg (List.mem_of_getElem? (i := 147) rfl) rfl
set_option maxRecDepth 20000 in
theorem tcode_min : Cond.code Lib.Math.min.name Lib.Math.min.code 2 (some .int) ∈ lw_g := tg (List.mem_of_getElem? (i := 163) rfl) rfl
set_option maxRecDepth 20000 in
theorem tcode_abs : Cond.code Lib.Math.abs.name Lib.Math.abs.code 1 (some .int) ∈ lw_g := tg (List.mem_of_getElem? (i := 357) rfl) rfl
set_option maxRecDepth 20000 in
theorem tcode_obj : Cond.code objectInit ⟨#[0xb1]⟩ 1 none ∈ lw_g := tg (List.mem_of_getElem? (i := 38) rfl) rfl
/-- the links to nest mates: they stand in a contract's start, as the classes do -/
def nK (U : State) : Prop := va_Nw (.methodLinkNest RX4 11 yX0_init "LeastChanges") U ∧ va_Nw (.methodLinkNest RX4 18 yX1_init "LeastChanges") U ∧ va_Nw (.methodLinkNest RX4 25 yX2_init "LeastChanges") U ∧ va_Nw (.methodLinkNest RX2 50 yX4_daysFromTo "LeastChanges") U ∧ va_Nw (.methodLinkNest RX2 65 yX4_startOfPlace "LeastChanges") U ∧ va_Nw (.methodLinkNest RX2 149 yX4_tankOfPlace "LeastChanges") U
theorem nK_warm {s U : State} (hW : s.WarmedH U.vm) (h : nK s) : nK U := ⟨va_Nw.warmM hW h.1, va_Nw.warmM hW h.2.1, va_Nw.warmM hW h.2.2.1, va_Nw.warmM hW h.2.2.2.1, va_Nw.warmM hW h.2.2.2.2.1, va_Nw.warmM hW h.2.2.2.2.2⟩
theorem nK_same {s U : State} (e : s.vm = U.vm) (h : nK s) : nK U := ⟨va_Nw.same rfl e h.1, va_Nw.same rfl e h.2.1, va_Nw.same rfl e h.2.2.1, va_Nw.same rfl e h.2.2.2.1, va_Nw.same rfl e h.2.2.2.2.1, va_Nw.same rfl e h.2.2.2.2.2⟩
theorem nK_law {s : State} {A : Array Value} (h : ∀ w ∈ lw_tbl, w.before A s = true) : nK s := ⟨va_Nw.of rfl (h _ tn_X4_11), va_Nw.of rfl (h _ tn_X4_18), va_Nw.of rfl (h _ tn_X4_25), va_Nw.of rfl (h _ tn_X2_50), va_Nw.of rfl (h _ tn_X2_65), va_Nw.of rfl (h _ tn_X2_149)⟩
theorem nK_X4_11 {s : State} (h : nK s) : va_Nw (.methodLinkNest RX4 11 yX0_init "LeastChanges") s := h.1
theorem nK_X4_18 {s : State} (h : nK s) : va_Nw (.methodLinkNest RX4 18 yX1_init "LeastChanges") s := h.2.1
theorem nK_X4_25 {s : State} (h : nK s) : va_Nw (.methodLinkNest RX4 25 yX2_init "LeastChanges") s := h.2.2.1
theorem nK_X2_50 {s : State} (h : nK s) : va_Nw (.methodLinkNest RX2 50 yX4_daysFromTo "LeastChanges") s := h.2.2.2.1
theorem nK_X2_65 {s : State} (h : nK s) : va_Nw (.methodLinkNest RX2 65 yX4_startOfPlace "LeastChanges") s := h.2.2.2.2.1
theorem nK_X2_149 {s : State} (h : nK s) : va_Nw (.methodLinkNest RX2 149 yX4_tankOfPlace "LeastChanges") s := h.2.2.2.2.2
end
section
/-! ints as integers: iI z is the Int32 of the integer z; rows of the machine over them -/
def iI (z : Int) : Int32 := Int32.ofInt z
def b2z (b : Bool) : Int := if b then 1 else 0
theorem b2z_t {P : Prop} {h : Decidable P} (hp : P) : b2z (@decide P h) = 1 := by simp [b2z, hp]
theorem b2z_f {P : Prop} {h : Decidable P} (hp : ¬ P) : b2z (@decide P h) = 0 := by simp [b2z, hp]
theorem b2z_tr : b2z true = 1 := rfl
theorem b2z_fa : b2z false = 0 := rfl
theorem b2z_01 (b : Bool) : b2z b = 0 ∨ b2z b = 1 := by cases b <;> decide
theorem b2z_r (b : Bool) : 0 ≤ b2z b ∧ b2z b ≤ 1 := by cases b <;> decide
theorem iI_T {z : Int} (h : -2147483648 ≤ z ∧ z < 2147483648) : (iI z).toInt = z := Int32.toInt_ofInt_of_le (by omega) (by omega)
theorem iI_of (x : Int32) : ∃ z : Int, x = iI z ∧ -2147483648 ≤ z ∧ z < 2147483648 := ⟨x.toInt, (Int32.ofInt_toInt x).symm, by have := x.le_toInt; omega, by have := x.toInt_lt; omega⟩
theorem iI_lt {a b : Int} (ha : -2147483648 ≤ a ∧ a < 2147483648) (hb : -2147483648 ≤ b ∧ b < 2147483648) : iI a < iI b ↔ a < b := by rw [Int32.lt_iff_toInt_lt, iI_T ha, iI_T hb]
theorem iI_le {a b : Int} (ha : -2147483648 ≤ a ∧ a < 2147483648) (hb : -2147483648 ≤ b ∧ b < 2147483648) : iI a ≤ iI b ↔ a ≤ b := by rw [Int32.le_iff_toInt_le, iI_T ha, iI_T hb]
theorem iI_eq {a b : Int} (ha : -2147483648 ≤ a ∧ a < 2147483648) (hb : -2147483648 ≤ b ∧ b < 2147483648) : iI a = iI b ↔ a = b := by rw [← Int32.toInt_inj, iI_T ha, iI_T hb]
theorem iI_0 : iI 0 = 0 := by decide
theorem iI_add (a b : Int) : iI a + iI b = iI (a + b) := (Int32.ofInt_add a b).symm
theorem iI_sub (a b : Int) : iI a - iI b = iI (a - b) := (Int32.ofInt_sub a b).symm
theorem iI_mul (a b : Int) : iI a * iI b = iI (a * b) := (Int32.ofInt_mul a b).symm
theorem iI_n (n : Nat) : iI (n : Int) = nI n := Int32.ofInt_eq_ofNat
theorem iI_cl {z : Int} (h : 0 ≤ z ∧ z < 2147483648) : (iI z).toNatClampNeg = z.toNat := Int32.toNatClampNeg_ofInt_of_le (by omega) (by omega)
theorem iI_in {z : Int} {n : Nat} (h : 0 ≤ z ∧ z < (n : Int)) (hn : n < 2147483648) : vp_in (iI z) n := by
  rw [vp_in_iff, iI_T (by omega)]; exact h
theorem iI_and (a b : Nat) : iI (a : Int) &&& iI (b : Int) = iI ((a &&& b : Nat) : Int) := by
  rw [iI_n, iI_n, iI_n]
  apply Int32.toBitVec.inj
  show BitVec.ofNat 32 a &&& BitVec.ofNat 32 b = BitVec.ofNat 32 (a &&& b)
  exact (BitVec.ofNat_and).symm
theorem iI_or (a b : Nat) : iI (a : Int) ||| iI (b : Int) = iI ((a ||| b : Nat) : Int) := by
  rw [iI_n, iI_n, iI_n]
  apply Int32.toBitVec.inj
  show BitVec.ofNat 32 a ||| BitVec.ofNat 32 b = BitVec.ofNat 32 (a ||| b)
  exact (BitVec.ofNat_or).symm
/-- an array of ints, of integers -/
def zA (g : Nat → Int) : Nat → Int32 := fun j => iI (g j)
def uZ (g : Nat → Int) (k : Nat) (v : Int) : Nat → Int := fun j => if j = k then v else g j
theorem uZ_s (g : Nat → Int) (k : Nat) (v : Int) : uZ g k v k = v := by simp [uZ]
theorem uZ_n (g : Nat → Int) {k j : Nat} (v : Int) (h : j ≠ k) : uZ g k v j = g j := by simp [uZ, h]
theorem zA_u (g : Nat → Int) (k : Nat) (v : Int) : upd (zA g) k (iI v) = zA (uZ g k v) := by
  funext j; simp only [upd, zA, uZ]; split <;> rfl
theorem uZ_all {P : Int → Prop} {g : Nat → Int} (h : ∀ j, P (g j)) (k : Nat) {v : Int} (hv : P v) : ∀ j, P (uZ g k v j) := by
  intro j; simp only [uZ]; split
  · exact hv
  · exact h j
section RZ
variable {p : Program} {l : Launch} {e : Env} {R : Room} {s : State} {m : MethodId} {args : Array Value} {below : List Frame} {meth : Method} {c : Code} {H H0 : Heap} {locs : List Loc} {cells slots : Nat} {Q : State → Prop} {cc : ByteArray} {pc tgt : Nat} {ls : Array Slot} {rest : List Value} {off : Int} {a b : Int}
theorem rz_add (hx : p.tables.exec = Jvm.exec) (hb : c.code = cc) (hd : decode cc pc = .ok (.iadd, 1)) (k : W p l e R s m args below meth c H locs cells slots Q (F0 m (pc + 1) ls (.int (iI (a + b)) :: rest))) : W p l e R s m args below meth c H locs cells slots Q (F0 m pc ls (.int (iI b) :: .int (iI a) :: rest)) := lv_iadd hx hb hd (by rw [iI_add]; exact k)
theorem rz_sub (hx : p.tables.exec = Jvm.exec) (hb : c.code = cc) (hd : decode cc pc = .ok (.isub, 1)) (k : W p l e R s m args below meth c H locs cells slots Q (F0 m (pc + 1) ls (.int (iI (a - b)) :: rest))) : W p l e R s m args below meth c H locs cells slots Q (F0 m pc ls (.int (iI b) :: .int (iI a) :: rest)) := lv_isub hx hb hd (by rw [iI_sub]; exact k)
theorem rz_mul (hx : p.tables.exec = Jvm.exec) (hb : c.code = cc) (hd : decode cc pc = .ok (.imul, 1)) (k : W p l e R s m args below meth c H locs cells slots Q (F0 m (pc + 1) ls (.int (iI (a * b)) :: rest))) : W p l e R s m args below meth c H locs cells slots Q (F0 m pc ls (.int (iI b) :: .int (iI a) :: rest)) := lv_imul hx hb hd (by rw [iI_mul]; exact k)
theorem rz_div (hx : p.tables.exec = Jvm.exec) (hb : c.code = cc) (hd : decode cc pc = .ok (.idiv, 1)) (ha : 0 ≤ a ∧ a < 2147483648) (hq : 0 < b ∧ b < 2147483648) (k : W p l e R s m args below meth c H locs cells slots Q (F0 m (pc + 1) ls (.int (iI (a / b)) :: rest))) : W p l e R s m args below meth c H locs cells slots Q (F0 m pc ls (.int (iI b) :: .int (iI a) :: rest)) := by
  obtain ⟨x, rfl⟩ := Int.eq_ofNat_of_zero_le ha.1
  obtain ⟨y, rfl⟩ := Int.eq_ofNat_of_zero_le (Int.le_of_lt hq.1)
  have e1 : iI (x : Int) / iI (y : Int) = iI ((x : Int) / (y : Int)) := by
    rw [← Int.natCast_ediv, iI_n, iI_n, iI_n]; exact pk_div (by omega) (by omega) (by omega)
  refine lv_idiv hx hb hd ?_ (by rw [e1]; exact k)
  rw [← iI_0, iI_eq (by omega) (by omega)]; omega
theorem rz_rem (hx : p.tables.exec = Jvm.exec) (hb : c.code = cc) (hd : decode cc pc = .ok (.irem, 1)) (ha : 0 ≤ a ∧ a < 2147483648) (hq : 0 < b ∧ b < 2147483648) (k : W p l e R s m args below meth c H locs cells slots Q (F0 m (pc + 1) ls (.int (iI (a % b)) :: rest))) : W p l e R s m args below meth c H locs cells slots Q (F0 m pc ls (.int (iI b) :: .int (iI a) :: rest)) := by
  obtain ⟨x, rfl⟩ := Int.eq_ofNat_of_zero_le ha.1
  obtain ⟨y, rfl⟩ := Int.eq_ofNat_of_zero_le (Int.le_of_lt hq.1)
  have e1 : iI (x : Int) - iI (x : Int) / iI (y : Int) * iI (y : Int) = iI ((x : Int) % (y : Int)) := by
    rw [← Int.natCast_emod, iI_n, iI_n, iI_n]; exact pk_rem (by omega) (by omega) (by omega)
  refine lv_irem hx hb hd ?_ (by rw [e1]; exact k)
  rw [← iI_0, iI_eq (by omega) (by omega)]; omega
theorem rz_and {x y : Nat} (hx : p.tables.exec = Jvm.exec) (hb : c.code = cc) (hd : decode cc pc = .ok (.iand, 1)) (k : W p l e R s m args below meth c H locs cells slots Q (F0 m (pc + 1) ls (.int (iI ((x &&& y : Nat) : Int)) :: rest))) : W p l e R s m args below meth c H locs cells slots Q (F0 m pc ls (.int (iI (y : Int)) :: .int (iI (x : Int)) :: rest)) := lv_iand hx hb hd (by rw [iI_and]; exact k)
theorem rz_or {x y : Nat} (hx : p.tables.exec = Jvm.exec) (hb : c.code = cc) (hd : decode cc pc = .ok (.ior, 1)) (k : W p l e R s m args below meth c H locs cells slots Q (F0 m (pc + 1) ls (.int (iI ((x ||| y : Nat) : Int)) :: rest))) : W p l e R s m args below meth c H locs cells slots Q (F0 m pc ls (.int (iI (y : Int)) :: .int (iI (x : Int)) :: rest)) := lv_ior hx hb hd (by rw [iI_or]; exact k)
theorem sh_sm : ∀ n, n < 32 → ((nI n &&& 31).toBitVec.smod 32).toNat = n := by decide +kernel
theorem iI_shl {x n : Nat} (hn : n < 32) (h : x * 2 ^ n < 4294967296) : iI (x : Int) <<< (iI (n : Int) &&& 31) = iI ((x * 2 ^ n : Nat) : Int) := by
  rw [iI_n, iI_n, iI_n]; exact pk_shlN _ n (sh_sm n hn) h
theorem iI_shr {x n : Nat} (hn : n < 32) (h : x < 2147483648) : iI (x : Int) >>> (iI (n : Int) &&& 31) = iI ((x / 2 ^ n : Nat) : Int) := by
  rw [iI_n, iI_n, iI_n]; exact pk_shrN h _ n (sh_sm n hn)
theorem rz_shl {x n : Nat} (hx : p.tables.exec = Jvm.exec) (hb : c.code = cc) (hd : decode cc pc = .ok (.ishl, 1)) (hn : n < 32) (h : x * 2 ^ n < 4294967296) (k : W p l e R s m args below meth c H locs cells slots Q (F0 m (pc + 1) ls (.int (iI ((x * 2 ^ n : Nat) : Int)) :: rest))) : W p l e R s m args below meth c H locs cells slots Q (F0 m pc ls (.int (iI (n : Int)) :: .int (iI (x : Int)) :: rest)) := lv_ishl hx hb hd (by rw [iI_shl hn h]; exact k)
theorem rz_shr {x n : Nat} (hx : p.tables.exec = Jvm.exec) (hb : c.code = cc) (hd : decode cc pc = .ok (.ishr, 1)) (hn : n < 32) (h : x < 2147483648) (k : W p l e R s m args below meth c H locs cells slots Q (F0 m (pc + 1) ls (.int (iI ((x / 2 ^ n : Nat) : Int)) :: rest))) : W p l e R s m args below meth c H locs cells slots Q (F0 m pc ls (.int (iI (n : Int)) :: .int (iI (x : Int)) :: rest)) := lv_ishr hx hb hd (by rw [iI_shr hn h]; exact k)
-- compares and branches
theorem rz_clt (hx : p.tables.exec = Jvm.exec) (hb : c.code = cc) (hd : decode cc pc = .ok (.if_icmp .lt off, 3)) (ht : (pc : Int) + off = (tgt : Int)) (ha : -2147483648 ≤ a ∧ a < 2147483648) (hq : -2147483648 ≤ b ∧ b < 2147483648) (kt : a < b → W p l e R s m args below meth c H locs cells slots Q (F0 m tgt ls rest)) (kf : b ≤ a → W p l e R s m args below meth c H locs cells slots Q (F0 m (pc + 3) ls rest)) : W p l e R s m args below meth c H locs cells slots Q (F0 m pc ls (.int (iI b) :: .int (iI a) :: rest)) :=
  lv_icmp_lt hx hb hd ht (fun h => kt ((iI_lt ha hq).mp h)) (fun h => kf (Int.not_lt.mp (fun q => h ((iI_lt ha hq).mpr q))))
theorem rz_cge (hx : p.tables.exec = Jvm.exec) (hb : c.code = cc) (hd : decode cc pc = .ok (.if_icmp .ge off, 3)) (ht : (pc : Int) + off = (tgt : Int)) (ha : -2147483648 ≤ a ∧ a < 2147483648) (hq : -2147483648 ≤ b ∧ b < 2147483648) (kt : b ≤ a → W p l e R s m args below meth c H locs cells slots Q (F0 m tgt ls rest)) (kf : a < b → W p l e R s m args below meth c H locs cells slots Q (F0 m (pc + 3) ls rest)) : W p l e R s m args below meth c H locs cells slots Q (F0 m pc ls (.int (iI b) :: .int (iI a) :: rest)) :=
  lv_icmp_ge hx hb hd ht (fun h => kt ((iI_le hq ha).mp h)) (fun h => kf (Int.not_le.mp (fun q => h ((iI_le hq ha).mpr q))))
theorem rz_cgt (hx : p.tables.exec = Jvm.exec) (hb : c.code = cc) (hd : decode cc pc = .ok (.if_icmp .gt off, 3)) (ht : (pc : Int) + off = (tgt : Int)) (ha : -2147483648 ≤ a ∧ a < 2147483648) (hq : -2147483648 ≤ b ∧ b < 2147483648) (kt : b < a → W p l e R s m args below meth c H locs cells slots Q (F0 m tgt ls rest)) (kf : a ≤ b → W p l e R s m args below meth c H locs cells slots Q (F0 m (pc + 3) ls rest)) : W p l e R s m args below meth c H locs cells slots Q (F0 m pc ls (.int (iI b) :: .int (iI a) :: rest)) :=
  lv_icmp_gt hx hb hd ht (fun h => kt ((iI_lt hq ha).mp h)) (fun h => kf (Int.not_lt.mp (fun q => h ((iI_lt hq ha).mpr q))))
theorem rz_cle (hx : p.tables.exec = Jvm.exec) (hb : c.code = cc) (hd : decode cc pc = .ok (.if_icmp .le off, 3)) (ht : (pc : Int) + off = (tgt : Int)) (ha : -2147483648 ≤ a ∧ a < 2147483648) (hq : -2147483648 ≤ b ∧ b < 2147483648) (kt : a ≤ b → W p l e R s m args below meth c H locs cells slots Q (F0 m tgt ls rest)) (kf : b < a → W p l e R s m args below meth c H locs cells slots Q (F0 m (pc + 3) ls rest)) : W p l e R s m args below meth c H locs cells slots Q (F0 m pc ls (.int (iI b) :: .int (iI a) :: rest)) :=
  lv_icmp_le hx hb hd ht (fun h => kt ((iI_le ha hq).mp h)) (fun h => kf (Int.not_le.mp (fun q => h ((iI_le ha hq).mpr q))))
theorem rz_ceq (hx : p.tables.exec = Jvm.exec) (hb : c.code = cc) (hd : decode cc pc = .ok (.if_icmp .eq off, 3)) (ht : (pc : Int) + off = (tgt : Int)) (ha : -2147483648 ≤ a ∧ a < 2147483648) (hq : -2147483648 ≤ b ∧ b < 2147483648) (kt : a = b → W p l e R s m args below meth c H locs cells slots Q (F0 m tgt ls rest)) (kf : a ≠ b → W p l e R s m args below meth c H locs cells slots Q (F0 m (pc + 3) ls rest)) : W p l e R s m args below meth c H locs cells slots Q (F0 m pc ls (.int (iI b) :: .int (iI a) :: rest)) :=
  lv_icmp_eq hx hb hd ht (fun h => kt ((iI_eq ha hq).mp h)) (fun h => kf (fun q => h ((iI_eq ha hq).mpr q)))
theorem rz_cne (hx : p.tables.exec = Jvm.exec) (hb : c.code = cc) (hd : decode cc pc = .ok (.if_icmp .ne off, 3)) (ht : (pc : Int) + off = (tgt : Int)) (ha : -2147483648 ≤ a ∧ a < 2147483648) (hq : -2147483648 ≤ b ∧ b < 2147483648) (kt : a ≠ b → W p l e R s m args below meth c H locs cells slots Q (F0 m tgt ls rest)) (kf : a = b → W p l e R s m args below meth c H locs cells slots Q (F0 m (pc + 3) ls rest)) : W p l e R s m args below meth c H locs cells slots Q (F0 m pc ls (.int (iI b) :: .int (iI a) :: rest)) :=
  lv_icmp_ne hx hb hd ht (fun h => kt (fun q => h ((iI_eq ha hq).mpr q))) (fun h => kf ((iI_eq ha hq).mp h))
theorem rz_ilt (hx : p.tables.exec = Jvm.exec) (hb : c.code = cc) (hd : decode cc pc = .ok (.ifCond .lt off, 3)) (ht : (pc : Int) + off = (tgt : Int)) (ha : -2147483648 ≤ a ∧ a < 2147483648) (kt : a < 0 → W p l e R s m args below meth c H locs cells slots Q (F0 m tgt ls rest)) (kf : 0 ≤ a → W p l e R s m args below meth c H locs cells slots Q (F0 m (pc + 3) ls rest)) : W p l e R s m args below meth c H locs cells slots Q (F0 m pc ls (.int (iI a) :: rest)) :=
  lv_if_lt hx hb hd ht (fun h => kt ((iI_lt ha (by omega)).mp (by rw [iI_0]; exact h))) (fun h => kf (Int.not_lt.mp (fun q => h (by rw [← iI_0]; exact (iI_lt ha (by omega)).mpr q))))
theorem rz_ige (hx : p.tables.exec = Jvm.exec) (hb : c.code = cc) (hd : decode cc pc = .ok (.ifCond .ge off, 3)) (ht : (pc : Int) + off = (tgt : Int)) (ha : -2147483648 ≤ a ∧ a < 2147483648) (kt : 0 ≤ a → W p l e R s m args below meth c H locs cells slots Q (F0 m tgt ls rest)) (kf : a < 0 → W p l e R s m args below meth c H locs cells slots Q (F0 m (pc + 3) ls rest)) : W p l e R s m args below meth c H locs cells slots Q (F0 m pc ls (.int (iI a) :: rest)) :=
  lv_if_ge hx hb hd ht (fun h => kt ((iI_le (by omega) ha).mp (by rw [iI_0]; exact h))) (fun h => kf (Int.not_le.mp (fun q => h (by rw [← iI_0]; exact (iI_le (by omega) ha).mpr q))))
theorem rz_igt (hx : p.tables.exec = Jvm.exec) (hb : c.code = cc) (hd : decode cc pc = .ok (.ifCond .gt off, 3)) (ht : (pc : Int) + off = (tgt : Int)) (ha : -2147483648 ≤ a ∧ a < 2147483648) (kt : 0 < a → W p l e R s m args below meth c H locs cells slots Q (F0 m tgt ls rest)) (kf : a ≤ 0 → W p l e R s m args below meth c H locs cells slots Q (F0 m (pc + 3) ls rest)) : W p l e R s m args below meth c H locs cells slots Q (F0 m pc ls (.int (iI a) :: rest)) :=
  lv_if_gt hx hb hd ht (fun h => kt ((iI_lt (by omega) ha).mp (by rw [iI_0]; exact h))) (fun h => kf (Int.not_lt.mp (fun q => h (by rw [← iI_0]; exact (iI_lt (by omega) ha).mpr q))))
theorem rz_ile (hx : p.tables.exec = Jvm.exec) (hb : c.code = cc) (hd : decode cc pc = .ok (.ifCond .le off, 3)) (ht : (pc : Int) + off = (tgt : Int)) (ha : -2147483648 ≤ a ∧ a < 2147483648) (kt : a ≤ 0 → W p l e R s m args below meth c H locs cells slots Q (F0 m tgt ls rest)) (kf : 0 < a → W p l e R s m args below meth c H locs cells slots Q (F0 m (pc + 3) ls rest)) : W p l e R s m args below meth c H locs cells slots Q (F0 m pc ls (.int (iI a) :: rest)) :=
  lv_if_le hx hb hd ht (fun h => kt ((iI_le ha (by omega)).mp (by rw [iI_0]; exact h))) (fun h => kf (Int.not_le.mp (fun q => h (by rw [← iI_0]; exact (iI_le ha (by omega)).mpr q))))
theorem rz_ieq (hx : p.tables.exec = Jvm.exec) (hb : c.code = cc) (hd : decode cc pc = .ok (.ifCond .eq off, 3)) (ht : (pc : Int) + off = (tgt : Int)) (ha : -2147483648 ≤ a ∧ a < 2147483648) (kt : a = 0 → W p l e R s m args below meth c H locs cells slots Q (F0 m tgt ls rest)) (kf : a ≠ 0 → W p l e R s m args below meth c H locs cells slots Q (F0 m (pc + 3) ls rest)) : W p l e R s m args below meth c H locs cells slots Q (F0 m pc ls (.int (iI a) :: rest)) :=
  lv_if_eq hx hb hd ht (fun h => kt ((iI_eq ha (by omega)).mp (by rw [iI_0]; exact h))) (fun h => kf (fun q => h (by rw [← iI_0]; exact (iI_eq ha (by omega)).mpr q)))
theorem rz_ine (hx : p.tables.exec = Jvm.exec) (hb : c.code = cc) (hd : decode cc pc = .ok (.ifCond .ne off, 3)) (ht : (pc : Int) + off = (tgt : Int)) (ha : -2147483648 ≤ a ∧ a < 2147483648) (kt : a ≠ 0 → W p l e R s m args below meth c H locs cells slots Q (F0 m tgt ls rest)) (kf : a = 0 → W p l e R s m args below meth c H locs cells slots Q (F0 m (pc + 3) ls rest)) : W p l e R s m args below meth c H locs cells slots Q (F0 m pc ls (.int (iI a) :: rest)) :=
  lv_if_ne hx hb hd ht (fun h => kt (fun q => h (by rw [← iI_0]; exact (iI_eq ha (by omega)).mpr q))) (fun h => kf ((iI_eq ha (by omega)).mp (by rw [iI_0]; exact h)))
/-- a boolean on the stack -/
theorem rz_beq {z : Bool} (hx : p.tables.exec = Jvm.exec) (hb : c.code = cc) (hd : decode cc pc = .ok (.ifCond .eq off, 3)) (ht : (pc : Int) + off = (tgt : Int)) (kt : z = false → W p l e R s m args below meth c H locs cells slots Q (F0 m tgt ls rest)) (kf : z = true → W p l e R s m args below meth c H locs cells slots Q (F0 m (pc + 3) ls rest)) : W p l e R s m args below meth c H locs cells slots Q (F0 m pc ls (.int (iI (b2z z)) :: rest)) := by
  have := b2z_r z
  refine rz_ieq hx hb hd ht (by omega) (fun h => kt ?_) (fun h => kf ?_)
  · cases z
    · rfl
    · exact absurd h (by decide)
  · cases z
    · exact absurd rfl h
    · rfl
theorem rz_bne {z : Bool} (hx : p.tables.exec = Jvm.exec) (hb : c.code = cc) (hd : decode cc pc = .ok (.ifCond .ne off, 3)) (ht : (pc : Int) + off = (tgt : Int)) (kt : z = true → W p l e R s m args below meth c H locs cells slots Q (F0 m tgt ls rest)) (kf : z = false → W p l e R s m args below meth c H locs cells slots Q (F0 m (pc + 3) ls rest)) : W p l e R s m args below meth c H locs cells slots Q (F0 m pc ls (.int (iI (b2z z)) :: rest)) := by
  have := b2z_r z
  refine rz_ine hx hb hd ht (by omega) (fun h => kt ?_) (fun h => kf ?_)
  · cases z
    · exact absurd rfl h
    · rfl
  · cases z
    · rfl
    · exact absurd h (by decide)
/-- a value under another name -/
theorem rz_as {x y : Int} (he : x = y) (k : W p l e R s m args below meth c H locs cells slots Q (F0 m pc ls (.int (iI y) :: rest))) : W p l e R s m args below meth c H locs cells slots Q (F0 m pc ls (.int (iI x) :: rest)) := by rw [he]; exact k
theorem rz_top {x : Int} (k : ∀ y : Int, y = x → W p l e R s m args below meth c H locs cells slots Q (F0 m pc ls (.int (iI y) :: rest))) : W p l e R s m args below meth c H locs cells slots Q (F0 m pc ls (.int (iI x) :: rest)) := k x rfl
-- arrays
variable {D : va_G} {cl : List vw_C} {tys : List (ClassId × FieldType)} {ws : va_W} {A : Nat → Prop} {cA : ClassId} {n ad : Nat} {g : Nat → Int}
theorem rz_ald (hx : p.tables.exec = Jvm.exec) (hb : c.code = cc) (hK : va_K D cl tys s) (hP : va_P D cl ws H) (q0 t0 : Nat) (ha : ws[q0]? = some (ad, .inl (cA, n, .inl (zA g)))) (ht : tys[t0]? = some (cA, .int)) (hi : 0 ≤ a ∧ a < (n : Int)) (hn : n < 2147483648) (hd : decode cc pc = .ok (.iaload, 1))
    (k : W p l e R s m args below meth c H locs cells slots Q (F0 m (pc + 1) ls (.int (iI (g a.toNat)) :: rest))) : W p l e R s m args below meth c H locs cells slots Q (F0 m pc ls (.int (iI a) :: .ref ad :: rest)) := by
  refine va_iald hx hb hK hP q0 t0 ha ht (iI_in hi hn) hd ?_
  rw [iI_cl (by omega)]; exact k
theorem rz_zld (hx : p.tables.exec = Jvm.exec) (hb : c.code = cc) (hK : va_K D cl tys s) (hP : va_P D cl ws H) (q0 t0 : Nat) (ha : ws[q0]? = some (ad, .inl (cA, n, .inl (zA g)))) (ht : tys[t0]? = some (cA, .boolean)) (hi : 0 ≤ a ∧ a < (n : Int)) (hn : n < 2147483648) (hd : decode cc pc = .ok (.baload, 1))
    (k : W p l e R s m args below meth c H locs cells slots Q (F0 m (pc + 1) ls (.int (iI (g a.toNat)) :: rest))) : W p l e R s m args below meth c H locs cells slots Q (F0 m pc ls (.int (iI a) :: .ref ad :: rest)) := by
  refine va_zald hx hb hK hP q0 t0 ha ht (iI_in hi hn) hd ?_
  rw [iI_cl (by omega)]; exact k
theorem rz_ast (hx : p.tables.exec = Jvm.exec) (hb : c.code = cc) (hK : va_K D cl tys s) (hP : va_P D cl ws H) (hD : va_D A ws) (hS : va_S A H0 H locs) (q0 t0 : Nat) (ha : ws[q0]? = some (ad, .inl (cA, n, .inl (zA g)))) (ht : tys[t0]? = some (cA, .int)) (hi : 0 ≤ a ∧ a < (n : Int)) (hn : n < 2147483648) (hd : decode cc pc = .ok (.iastore, 1))
    (k : ∀ (H1 : Heap) (locs1 : List Loc), va_P D cl (ws.set q0 (ad, .inl (cA, n, .inl (zA (uZ g a.toNat b))))) H1 → va_D A (ws.set q0 (ad, .inl (cA, n, .inl (zA (uZ g a.toNat b))))) → va_S A H0 H1 locs1 → W p l e R s m args below meth c H1 locs1 cells slots Q (F0 m (pc + 1) ls rest)) : W p l e R s m args below meth c H locs cells slots Q (F0 m pc ls (.int (iI b) :: .int (iI a) :: .ref ad :: rest)) := by
  refine va_iast hx hb hK hP hD hS q0 t0 ha ht (iI_in hi hn) hd (fun H1 locs1 h1 h2 h3 => ?_)
  rw [iI_cl (by omega), zA_u] at h1 h2
  exact k H1 locs1 h1 h2 h3
end RZ

-- the same over Nat: what is never below zero
theorem iI_inc (i : Nat) : iI (i : Int) + Int32.ofInt 1 = iI ((i + 1 : Nat) : Int) := by
  show iI (i : Int) + iI 1 = _
  rw [iI_add]; congr 1
/-- an array of masks; of truths -/
def nZ (o : Nat → Nat) : Nat → Int := fun j => ((o j : Nat) : Int)
def bZ (o : Nat → Bool) : Nat → Int := fun j => b2z (o j)
def uN (o : Nat → Nat) (k v : Nat) : Nat → Nat := fun j => if j = k then v else o j
def uB (o : Nat → Bool) (k : Nat) (v : Bool) : Nat → Bool := fun j => if j = k then v else o j
theorem uN_s (g : Nat → Nat) (k v : Nat) : uN g k v k = v := by simp [uN]
theorem uN_n (g : Nat → Nat) {k j : Nat} (v : Nat) (h : j ≠ k) : uN g k v j = g j := by simp [uN, h]
theorem nZ_u (o : Nat → Nat) (k v : Nat) : uZ (nZ o) k ((v : Nat) : Int) = nZ (uN o k v) := by
  funext j; simp only [uZ, nZ, uN]; split <;> rfl
theorem bZ_u (o : Nat → Bool) (k : Nat) (v : Bool) : uZ (bZ o) k (b2z v) = bZ (uB o k v) := by
  funext j; simp only [uZ, bZ, uB]; split <;> rfl
theorem uN_all {P : Nat → Prop} {g : Nat → Nat} (h : ∀ j, P (g j)) (k : Nat) {v : Nat} (hv : P v) : ∀ j, P (uN g k v j) := by
  intro j; simp only [uN]; split
  · exact hv
  · exact h j
theorem b2z_vn (b : Bool) : vp_nar .boolean (iI (b2z b)) = iI (b2z b) := by cases b <;> decide +kernel
section RN
variable {p : Program} {l : Launch} {e : Env} {R : Room} {s : State} {m : MethodId} {args : Array Value} {below : List Frame} {meth : Method} {c : Code} {H H0 : Heap} {locs : List Loc} {cells slots : Nat} {Q : State → Prop} {cc : ByteArray} {pc tgt : Nat} {ls : Array Slot} {rest : List Value} {x y : Nat}
theorem rn_add (hx : p.tables.exec = Jvm.exec) (hb : c.code = cc) (hd : decode cc pc = .ok (.iadd, 1)) (k : W p l e R s m args below meth c H locs cells slots Q (F0 m (pc + 1) ls (.int (iI ((x + y : Nat) : Int)) :: rest))) : W p l e R s m args below meth c H locs cells slots Q (F0 m pc ls (.int (iI (y : Int)) :: .int (iI (x : Int)) :: rest)) := rz_add hx hb hd (rz_as (by omega) k)
theorem rn_mul (hx : p.tables.exec = Jvm.exec) (hb : c.code = cc) (hd : decode cc pc = .ok (.imul, 1)) (k : W p l e R s m args below meth c H locs cells slots Q (F0 m (pc + 1) ls (.int (iI ((x * y : Nat) : Int)) :: rest))) : W p l e R s m args below meth c H locs cells slots Q (F0 m pc ls (.int (iI (y : Int)) :: .int (iI (x : Int)) :: rest)) := rz_mul hx hb hd (rz_as (Int.natCast_mul x y).symm k)
theorem rn_sub (hx : p.tables.exec = Jvm.exec) (hb : c.code = cc) (hd : decode cc pc = .ok (.isub, 1)) (h : y ≤ x) (k : W p l e R s m args below meth c H locs cells slots Q (F0 m (pc + 1) ls (.int (iI ((x - y : Nat) : Int)) :: rest))) : W p l e R s m args below meth c H locs cells slots Q (F0 m pc ls (.int (iI (y : Int)) :: .int (iI (x : Int)) :: rest)) := rz_sub hx hb hd (rz_as (by omega) k)
theorem rn_div (hx : p.tables.exec = Jvm.exec) (hb : c.code = cc) (hd : decode cc pc = .ok (.idiv, 1)) (ha : x < 2147483648) (hq : 0 < y ∧ y < 2147483648) (k : W p l e R s m args below meth c H locs cells slots Q (F0 m (pc + 1) ls (.int (iI ((x / y : Nat) : Int)) :: rest))) : W p l e R s m args below meth c H locs cells slots Q (F0 m pc ls (.int (iI (y : Int)) :: .int (iI (x : Int)) :: rest)) := rz_div hx hb hd (by omega) (by omega) (rz_as (Int.natCast_ediv x y).symm k)
theorem rn_rem (hx : p.tables.exec = Jvm.exec) (hb : c.code = cc) (hd : decode cc pc = .ok (.irem, 1)) (ha : x < 2147483648) (hq : 0 < y ∧ y < 2147483648) (k : W p l e R s m args below meth c H locs cells slots Q (F0 m (pc + 1) ls (.int (iI ((x % y : Nat) : Int)) :: rest))) : W p l e R s m args below meth c H locs cells slots Q (F0 m pc ls (.int (iI (y : Int)) :: .int (iI (x : Int)) :: rest)) := rz_rem hx hb hd (by omega) (by omega) (rz_as (Int.natCast_emod x y).symm k)
variable {D : va_G} {cl : List vw_C} {tys : List (ClassId × FieldType)} {ws : va_W} {A : Nat → Prop} {cA : ClassId} {n ad : Nat} {g : Nat → Int} {o : Nat → Nat} {fb : Nat → Bool} {v : Int}
theorem rn_ald (hx : p.tables.exec = Jvm.exec) (hb : c.code = cc) (hK : va_K D cl tys s) (hP : va_P D cl ws H) (q0 t0 : Nat) (ha : ws[q0]? = some (ad, .inl (cA, n, .inl (zA g)))) (ht : tys[t0]? = some (cA, .int)) (hi : x < n) (hn : n < 2147483648) (hd : decode cc pc = .ok (.iaload, 1))
    (k : W p l e R s m args below meth c H locs cells slots Q (F0 m (pc + 1) ls (.int (iI (g x)) :: rest))) : W p l e R s m args below meth c H locs cells slots Q (F0 m pc ls (.int (iI (x : Int)) :: .ref ad :: rest)) := rz_ald hx hb hK hP q0 t0 ha ht (by omega) hn hd (by rw [Int.toNat_natCast]; exact k)
theorem rn_aldM (hx : p.tables.exec = Jvm.exec) (hb : c.code = cc) (hK : va_K D cl tys s) (hP : va_P D cl ws H) (q0 t0 : Nat) (ha : ws[q0]? = some (ad, .inl (cA, n, .inl (zA (nZ o))))) (ht : tys[t0]? = some (cA, .int)) (hi : x < n) (hn : n < 2147483648) (hd : decode cc pc = .ok (.iaload, 1))
    (k : W p l e R s m args below meth c H locs cells slots Q (F0 m (pc + 1) ls (.int (iI ((o x : Nat) : Int)) :: rest))) : W p l e R s m args below meth c H locs cells slots Q (F0 m pc ls (.int (iI (x : Int)) :: .ref ad :: rest)) := rn_ald hx hb hK hP q0 t0 ha ht hi hn hd k
theorem rn_zld (hx : p.tables.exec = Jvm.exec) (hb : c.code = cc) (hK : va_K D cl tys s) (hP : va_P D cl ws H) (q0 t0 : Nat) (ha : ws[q0]? = some (ad, .inl (cA, n, .inl (zA (bZ fb))))) (ht : tys[t0]? = some (cA, .boolean)) (hi : x < n) (hn : n < 2147483648) (hd : decode cc pc = .ok (.baload, 1))
    (k : W p l e R s m args below meth c H locs cells slots Q (F0 m (pc + 1) ls (.int (iI (b2z (fb x))) :: rest))) : W p l e R s m args below meth c H locs cells slots Q (F0 m pc ls (.int (iI (x : Int)) :: .ref ad :: rest)) := rz_zld hx hb hK hP q0 t0 ha ht (by omega) hn hd (by rw [Int.toNat_natCast]; exact k)
theorem rn_ast (hx : p.tables.exec = Jvm.exec) (hb : c.code = cc) (hK : va_K D cl tys s) (hP : va_P D cl ws H) (hD : va_D A ws) (hS : va_S A H0 H locs) (q0 t0 : Nat) (ha : ws[q0]? = some (ad, .inl (cA, n, .inl (zA g)))) (ht : tys[t0]? = some (cA, .int)) (hi : x < n) (hn : n < 2147483648) (hd : decode cc pc = .ok (.iastore, 1))
    (k : ∀ (H1 : Heap) (locs1 : List Loc), va_P D cl (ws.set q0 (ad, .inl (cA, n, .inl (zA (uZ g x v))))) H1 → va_D A (ws.set q0 (ad, .inl (cA, n, .inl (zA (uZ g x v))))) → va_S A H0 H1 locs1 → W p l e R s m args below meth c H1 locs1 cells slots Q (F0 m (pc + 1) ls rest)) : W p l e R s m args below meth c H locs cells slots Q (F0 m pc ls (.int (iI v) :: .int (iI (x : Int)) :: .ref ad :: rest)) :=
  rz_ast hx hb hK hP hD hS q0 t0 ha ht (by omega) hn hd (fun H1 locs1 h1 h2 h3 => k H1 locs1 (by rw [Int.toNat_natCast] at h1; exact h1) (by rw [Int.toNat_natCast] at h2; exact h2) h3)
theorem rn_astM (hx : p.tables.exec = Jvm.exec) (hb : c.code = cc) (hK : va_K D cl tys s) (hP : va_P D cl ws H) (hD : va_D A ws) (hS : va_S A H0 H locs) (q0 t0 : Nat) (ha : ws[q0]? = some (ad, .inl (cA, n, .inl (zA (nZ o))))) (ht : tys[t0]? = some (cA, .int)) (hi : x < n) (hn : n < 2147483648) (hd : decode cc pc = .ok (.iastore, 1))
    (k : ∀ (H1 : Heap) (locs1 : List Loc), va_P D cl (ws.set q0 (ad, .inl (cA, n, .inl (zA (nZ (uN o x y)))))) H1 → va_D A (ws.set q0 (ad, .inl (cA, n, .inl (zA (nZ (uN o x y)))))) → va_S A H0 H1 locs1 → W p l e R s m args below meth c H1 locs1 cells slots Q (F0 m (pc + 1) ls rest)) : W p l e R s m args below meth c H locs cells slots Q (F0 m pc ls (.int (iI (y : Int)) :: .int (iI (x : Int)) :: .ref ad :: rest)) :=
  rn_ast hx hb hK hP hD hS q0 t0 ha ht hi hn hd (fun H1 locs1 h1 h2 h3 => k H1 locs1 (by rw [nZ_u] at h1; exact h1) (by rw [nZ_u] at h2; exact h2) h3)
theorem rn_zst {z : Bool} (hx : p.tables.exec = Jvm.exec) (hb : c.code = cc) (hK : va_K D cl tys s) (hP : va_P D cl ws H) (hD : va_D A ws) (hS : va_S A H0 H locs) (q0 t0 : Nat) (ha : ws[q0]? = some (ad, .inl (cA, n, .inl (zA (bZ fb))))) (ht : tys[t0]? = some (cA, .boolean)) (hi : x < n) (hn : n < 2147483648) (hd : decode cc pc = .ok (.bastore, 1))
    (k : ∀ (H1 : Heap) (locs1 : List Loc), va_P D cl (ws.set q0 (ad, .inl (cA, n, .inl (zA (bZ (uB fb x z)))))) H1 → va_D A (ws.set q0 (ad, .inl (cA, n, .inl (zA (bZ (uB fb x z)))))) → va_S A H0 H1 locs1 → W p l e R s m args below meth c H1 locs1 cells slots Q (F0 m (pc + 1) ls rest)) : W p l e R s m args below meth c H locs cells slots Q (F0 m pc ls (.int (iI (b2z z)) :: .int (iI (x : Int)) :: .ref ad :: rest)) := by
  refine va_zast hx hb hK hP hD hS q0 t0 ha ht (iI_in (by omega) hn) hd (fun H1 locs1 h1 h2 h3 => ?_)
  rw [iI_cl (by omega), b2z_vn, Int.toNat_natCast, zA_u, bZ_u] at h1 h2
  exact k H1 locs1 h1 h2 h3
end RN
end
section
/-! shapes of contracts: cP what holds before, cB behind; and calls over them -/
abbrev ce_i (q : Nat) (cA : ClassId) (n : Nat) (g : Nat → Int) : Nat × va_E := (q, .inl (cA, n, .inl (zA g)))
def cP (D : va_G) (cl : List vw_C) (tys : List (ClassId × FieldType)) (ws : va_W) (sz : Nat) (U : State) : Prop := U.heap.size = sz ∧ va_P D cl ws U.heap ∧ va_K D cl tys U ∧ nK U ∧ va_D (fun _ => True) ws
def cB (D : va_G) (cl : List vw_C) (tys : List (ClassId × FieldType)) (A : Nat → Prop) (w : va_W) (t : State) : Prop := va_P D cl w t.heap ∧ va_K D cl tys t ∧ va_D A w
/-- a method that answers an int: 'post answer, its cells behind it' -/
def Ci (l : Launch) (y : MethodName) (wd : List Cond) (rm : Room) (D : va_G) (cl : List vw_C) (tys : List (ClassId × FieldType)) (av : List Value) (ws : va_W) (sz : Nat) (post : Int → va_W → Prop) (mc ms : Nat) : Prop :=
  Met l y wd rm (va_Pc av (cP D cl tys ws sz)) (va_Qi (fun r w => ∃ z : Int, r = iI z ∧ post z w) (cB D cl tys (va_A ws sz)) (va_A ws sz)) mc ms (va_A ws sz)
def Cv (l : Launch) (y : MethodName) (wd : List Cond) (rm : Room) (D : va_G) (cl : List vw_C) (tys : List (ClassId × FieldType)) (av : List Value) (ws : va_W) (sz : Nat) (post : va_W → Prop) (mc ms : Nat) : Prop :=
  Met l y wd rm (va_Pc av (cP D cl tys ws sz)) (va_Qv post (cB D cl tys (va_A ws sz)) (va_A ws sz)) mc ms (va_A ws sz)
def Cl (l : Launch) (y : MethodName) (wd : List Cond) (rm : Room) (D : va_G) (cl : List vw_C) (tys : List (ClassId × FieldType)) (av : List Value) (ws : va_W) (sz : Nat) (post : Int64 → va_W → Prop) (mc ms : Nat) : Prop :=
  Met l y wd rm (va_Pc av (cP D cl tys ws sz)) (va_Ql post (cB D cl tys (va_A ws sz)) (va_A ws sz)) mc ms (va_A ws sz)
theorem cP_blind {D : va_G} {cl : List vw_C} {tys : List (ClassId × FieldType)} {ws : va_W} {sz : Nat} {av : List Value} : FrameBlind (va_Pc av (cP D cl tys ws sz)) := fun a U g mk q => by
  obtain ⟨q0, q1, qP, qK, qN, qD⟩ := q
  exact ⟨q0, q1, qP, va_K.moved (u := U) (U := U.calling g mk a) (Vm.Alike.refl U.vm) qK, nK_same (s := U) (U := U.calling g mk a) rfl qN, qD⟩
theorem cP_pre {s : State} {H : Heap} {D : va_G} {cl : List vw_C} {tys : List (ClassId × FieldType)} {wc : va_W} {av : List Value} {A : Nat → Prop} (hP : va_P D cl wc H) (hK : va_K D cl tys s) (hN : nK s) (hD : va_D A wc) : ∀ U : State, U.heap = H → s.WarmedH U.vm → va_Pc av (cP D cl tys wc H.size) av.toArray U :=
  fun U hU hW => ⟨rfl, by rw [hU], by rw [hU]; exact hP, va_K.moved hW.alike hK, nK_warm hW hN, hD.weaken (fun _ _ _ _ => trivial)⟩
/-- what a call leaves: the callee's cells as it says, the rest as it was, at the old places -/
theorem va_keep {A0 : Nat → Prop} {D : va_G} {cl : List vw_C} {ws wc : va_W} {H H1 : Heap} (hP : va_P D cl ws H) (hD : va_D A0 ws) (isC : List Nat) (hC : isC.map (fun i => ws[i]?) = wc.map some)
    (hk : ∀ q : Nat, q < H.size → ¬ va_A wc H.size q → H1[q]? = H[q]?) (hP1 : va_P D cl wc H1) : va_P D cl ws H1 := by
  intro k q hq
  by_cases h : ∃ j : Nat, wc[j]? = some q
  · obtain ⟨j, hj⟩ := h
    exact hP1 j q hj
  · have hlt : q.1 < H.size := (hP k q hq).lt
    have hn : ¬ va_A wc H.size q.1 := by
      rintro (⟨j, e, hj⟩ | hge)
      · have h1 : (isC.map (fun i => ws[i]?))[j]? = some (some (q.1, e)) := by rw [hC, List.getElem?_map, hj]; rfl
        rw [List.getElem?_map] at h1
        cases hi : isC[j]? with
        | none => rw [hi] at h1; cases h1
        | some i =>
          rw [hi] at h1
          have h2 : ws[i]? = some (q.1, e) := Option.some.inj h1
          have h3 : k = i := hD.1 k i q (q.1, e) hq h2 rfl
          subst h3
          rw [hq] at h2
          exact h ⟨j, by rw [hj]; exact h2.symm ▸ rfl⟩
      · omega
    exact (hP k q hq).kept (hk q.1 hlt hn)
section RC
variable {p : Program} {l : Launch} {e : Env} {R : Room} {s : State} {m : MethodId} {args : Array Value} {below : List Frame} {meth : Method} {c : Code} {H H0 : Heap} {locs : List Loc} {cells slots mc ms : Nat} {Q : State → Prop} {pc : Nat} {ls : Array Slot} {rest st0 : List Value} {av : Array Value}
  {D : va_G} {cl : List vw_C} {tys : List (ClassId × FieldType)} {ws wc wr : va_W} {A : Nat → Prop}
theorem rz_calli {post : Int → va_W → Prop} (hr : va_Run p l e R s m args below meth c H locs cells slots 0 0 (F0 m pc ls st0) rest (va_Qi (fun r w => ∃ z : Int, r = iI z ∧ post z w) (cB D cl tys (va_A wc H.size)) (va_A wc H.size) av) (va_A wc H.size))
    (hP : va_P D cl ws H) (hD : va_D A ws) (hS : va_S A H0 H locs) (hA : ∀ q, H0.size ≤ q → A q) (isC isR : List Nat) (hC : isC.map (fun i => ws[i]?) = wc.map some) (hR : isR.map (fun i => ws[i]?) = wr.map some) (hn : va_nd isR = true) (hdis : ∀ i ∈ isR, i ∉ isC)
    (k : ∀ (z : Int) (w : va_W) (H1 : Heap) (locs1 : List Loc), post z w → va_P D cl (wr ++ w) H1 → va_D A (wr ++ w) → va_S A H0 H1 locs1 → W p l e R s m args below meth c H1 locs1 cells slots Q (F0 m (pc + 3) ls (.int (iI z) :: rest))) : W p l e R s m args below meth c H locs cells slots Q (F0 m pc ls st0) := by
  have hF := va_free (wc := wc) hD hS hA isC hC
  refine va_calli hr hS (fun q _ h => hF q h) hF (fun r w t H1 locs1 ht hvm hw hB hz1 hk1 hS1 => ?_)
  obtain ⟨z, rfl, hp⟩ := hw
  obtain ⟨hP1, hK1, hD1⟩ := hB
  rw [ht] at hP1
  obtain ⟨hP2, hD2⟩ := va_join (wr := wr) (w1 := w) hP hD isC isR hC hR hn hdis hk1 hF hP1 hD1
  exact k z w H1 locs1 hp hP2 hD2 hS1
/-- the callee leaves its cells as they were -/
theorem rz_calliR {post : Int → Prop} (hr : va_Run p l e R s m args below meth c H locs cells slots 0 0 (F0 m pc ls st0) rest (va_Qi (fun r w => ∃ z : Int, r = iI z ∧ (w = wc ∧ post z)) (cB D cl tys (va_A wc H.size)) (va_A wc H.size) av) (va_A wc H.size))
    (hP : va_P D cl ws H) (hD : va_D A ws) (hS : va_S A H0 H locs) (hA : ∀ q, H0.size ≤ q → A q) (isC : List Nat) (hC : isC.map (fun i => ws[i]?) = wc.map some)
    (k : ∀ (z : Int) (H1 : Heap) (locs1 : List Loc), post z → va_P D cl ws H1 → va_S A H0 H1 locs1 → W p l e R s m args below meth c H1 locs1 cells slots Q (F0 m (pc + 3) ls (.int (iI z) :: rest))) : W p l e R s m args below meth c H locs cells slots Q (F0 m pc ls st0) := by
  have hF := va_free (wc := wc) hD hS hA isC hC
  refine va_calli hr hS (fun q _ h => hF q h) hF (fun r w t H1 locs1 ht hvm hw hB hz1 hk1 hS1 => ?_)
  obtain ⟨z, rfl, rfl, hp⟩ := hw
  obtain ⟨hP1, hK1, hD1⟩ := hB
  rw [ht] at hP1
  exact k z H1 locs1 hp (va_keep hP hD isC hC hk1 hP1) hS1
theorem rz_callv {post : va_W → Prop} (hr : va_Run p l e R s m args below meth c H locs cells slots 0 0 (F0 m pc ls st0) rest (va_Qv post (cB D cl tys (va_A wc H.size)) (va_A wc H.size) av) (va_A wc H.size))
    (hP : va_P D cl ws H) (hD : va_D A ws) (hS : va_S A H0 H locs) (hA : ∀ q, H0.size ≤ q → A q) (isC isR : List Nat) (hC : isC.map (fun i => ws[i]?) = wc.map some) (hR : isR.map (fun i => ws[i]?) = wr.map some) (hn : va_nd isR = true) (hdis : ∀ i ∈ isR, i ∉ isC)
    (k : ∀ (w : va_W) (H1 : Heap) (locs1 : List Loc), post w → va_P D cl (wr ++ w) H1 → va_D A (wr ++ w) → va_S A H0 H1 locs1 → W p l e R s m args below meth c H1 locs1 cells slots Q (F0 m (pc + 3) ls rest)) : W p l e R s m args below meth c H locs cells slots Q (F0 m pc ls st0) := by
  have hF := va_free (wc := wc) hD hS hA isC hC
  refine va_callv hr hS (fun q _ h => hF q h) hF (fun w t H1 locs1 ht hvm hw hB hz1 hk1 hS1 => ?_)
  obtain ⟨hP1, hK1, hD1⟩ := hB
  rw [ht] at hP1
  obtain ⟨hP2, hD2⟩ := va_join (wr := wr) (w1 := w) hP hD isC isR hC hR hn hdis hk1 hF hP1 hD1
  exact k w H1 locs1 hw hP2 hD2 hS1
end RC
/-! a method by its walk: all that is the same for every method stands here once; the end 'hret' is handed to the walk, the machine's aim Q stays shut -/
theorem Ci_of {l : Launch} {y : MethodName} {wd wd' : List Cond} {rm : Room} {D : va_G} {cl : List vw_C} {tys : List (ClassId × FieldType)} {av : List Value} {ws : va_W} {sz : Nat} {post : Int → va_W → Prop} {mc ms : Nat} {cc : ByteArray} {nL : Nat} (hy : plainName y.cls = true) (hw : wd = Cond.code y cc nL (some .int) :: wd') (hl0 : (lg_sl av).length ≤ nL)
    (body : ∀ (p : Program) (e : Env) (s : State) (m : MethodId) (below : List Frame) (meth : Method) (c : Code) (A : Nat → Prop) (Q : State → Prop), s.heap.size = sz → CallFix p m c cc nL s av.toArray wd y.cls → va_K D cl tys s → nK s → (∀ q : Nat, s.heap.size ≤ q → A q) → va_P D cl ws s.heap → va_D A ws → va_S A s.heap s.heap [] →
      (∀ (z : Int) (w : va_W) (H : Heap) (locs : List Loc) (ls : Array Slot) (pc : Nat), decode cc pc = .ok (.ireturn, 1) → post z w → va_P D cl w H → va_D A w → va_S A s.heap H locs → W p l e rm s m av.toArray below meth c H locs mc ms Q (F0 m pc ls [.int (iI z)])) →
      ∀ (ls : Array Slot), lv_has ls nL (lv_args 0 av) → W p l e rm s m av.toArray below meth c s.heap [] 0 0 Q (F0 m 0 ls [])) : Ci l y wd rm D cl tys av ws sz post mc ms := by
  refine Met.ofW (cc := cc) (maxL := nL) (ret := some .int) hy hw ?_
  intro p e s m args below meth c s₁ B hml hv
  obtain ⟨rfl, hsz, hP, hK, hN, hD0⟩ := hv
  have hx := B.exec
  have hb := B.bytes
  have hr := B.returns
  have hts := atoms_spec (ws := wd) B.pre
  have hown : s.vm.findClass y.cls = some m.cls := findClass_of_methodNamed B.named
  have hlocks := B.notSynchronized
  have hD := hD0.self (sz := sz)
  rw [lg_entry_eq]
  refine body p e s m below meth c (va_A ws sz) _ hsz ⟨hx, hb, hml, hown, hts⟩ hK hN (fun q h => Or.inr (by omega)) hP hD va_S.rf ?_ _ (lv_entry av hl0)
  intro z w H locs ls pc hd hp h1 h2 h3
  exact W.iret hx hb hr (fun t ht hW => ⟨⟨iI z, w, rfl, ⟨z, rfl, hp⟩, by rw [ht]; exact h1, va_K.moved hW.alike hK, h2⟩, h3.F ht⟩) h3.2.2 hd
theorem b2z_nar (b : Bool) : narrow .boolean (.int (iI (b2z b))) = .int (iI (b2z b)) := by cases b <;> decide +kernel
theorem Cz_of {l : Launch} {y : MethodName} {wd wd' : List Cond} {rm : Room} {D : va_G} {cl : List vw_C} {tys : List (ClassId × FieldType)} {av : List Value} {ws : va_W} {sz : Nat} {post : Int → va_W → Prop} {mc ms : Nat} {cc : ByteArray} {nL : Nat} (hy : plainName y.cls = true) (hw : wd = Cond.code y cc nL (some .boolean) :: wd') (hl0 : (lg_sl av).length ≤ nL)
    (body : ∀ (p : Program) (e : Env) (s : State) (m : MethodId) (below : List Frame) (meth : Method) (c : Code) (A : Nat → Prop) (Q : State → Prop), s.heap.size = sz → CallFix p m c cc nL s av.toArray wd y.cls → va_K D cl tys s → nK s → (∀ q : Nat, s.heap.size ≤ q → A q) → va_P D cl ws s.heap → va_D A ws → va_S A s.heap s.heap [] →
      (∀ (z : Int) (w : va_W) (H : Heap) (locs : List Loc) (ls : Array Slot) (pc : Nat), decode cc pc = .ok (.ireturn, 1) → (z = 0 ∨ z = 1) → post z w → va_P D cl w H → va_D A w → va_S A s.heap H locs → W p l e rm s m av.toArray below meth c H locs mc ms Q (F0 m pc ls [.int (iI z)])) →
      ∀ (ls : Array Slot), lv_has ls nL (lv_args 0 av) → W p l e rm s m av.toArray below meth c s.heap [] 0 0 Q (F0 m 0 ls [])) : Ci l y wd rm D cl tys av ws sz post mc ms := by
  refine Met.ofW (cc := cc) (maxL := nL) (ret := some .boolean) hy hw ?_
  intro p e s m args below meth c s₁ B hml hv
  obtain ⟨rfl, hsz, hP, hK, hN, hD0⟩ := hv
  have hx := B.exec
  have hb := B.bytes
  have hr := B.returns
  have hts := atoms_spec (ws := wd) B.pre
  have hown : s.vm.findClass y.cls = some m.cls := findClass_of_methodNamed B.named
  have hlocks := B.notSynchronized
  have hD := hD0.self (sz := sz)
  rw [lg_entry_eq]
  refine body p e s m below meth c (va_A ws sz) _ hsz ⟨hx, hb, hml, hown, hts⟩ hK hN (fun q h => Or.inr (by omega)) hP hD va_S.rf ?_ _ (lv_entry av hl0)
  intro z w H locs ls pc hd hz hp h1 h2 h3
  exact W.zret hx hb hr (by rcases hz with rfl | rfl <;> decide +kernel) (fun t ht hW => ⟨⟨iI z, w, rfl, ⟨z, rfl, hp⟩, by rw [ht]; exact h1, va_K.moved hW.alike hK, h2⟩, h3.F ht⟩) h3.2.2 hd
theorem Cv_of {l : Launch} {y : MethodName} {wd wd' : List Cond} {rm : Room} {D : va_G} {cl : List vw_C} {tys : List (ClassId × FieldType)} {av : List Value} {ws : va_W} {sz : Nat} {post : va_W → Prop} {mc ms : Nat} {cc : ByteArray} {nL : Nat} (hy : plainName y.cls = true) (hw : wd = Cond.code y cc nL none :: wd') (hl0 : (lg_sl av).length ≤ nL)
    (body : ∀ (p : Program) (e : Env) (s : State) (m : MethodId) (below : List Frame) (meth : Method) (c : Code) (A : Nat → Prop) (Q : State → Prop), s.heap.size = sz → CallFix p m c cc nL s av.toArray wd y.cls → va_K D cl tys s → nK s → (∀ q : Nat, s.heap.size ≤ q → A q) → va_P D cl ws s.heap → va_D A ws → va_S A s.heap s.heap [] → meth.name = y.name →
      (∀ (w : va_W) (H : Heap) (locs : List Loc) (ls : Array Slot) (pc : Nat), decode cc pc = .ok (.return_, 1) → post w → va_P D cl w H → va_D A w → va_S A s.heap H locs → W p l e rm s m av.toArray below meth c H locs mc ms Q (F0 m pc ls [])) →
      ∀ (ls : Array Slot), lv_has ls nL (lv_args 0 av) → W p l e rm s m av.toArray below meth c s.heap [] 0 0 Q (F0 m 0 ls [])) : Cv l y wd rm D cl tys av ws sz post mc ms := by
  refine Met.ofW (cc := cc) (maxL := nL) (ret := none) hy hw ?_
  intro p e s m args below meth c s₁ B hml hv
  obtain ⟨rfl, hsz, hP, hK, hN, hD0⟩ := hv
  have hx := B.exec
  have hb := B.bytes
  have hr := B.returns
  have hts := atoms_spec (ws := wd) B.pre
  have hown : s.vm.findClass y.cls = some m.cls := findClass_of_methodNamed B.named
  have hlocks := B.notSynchronized
  have hin : meth.name = y.name := (name_of_methodNamed B.named B.method).1
  have hD := hD0.self (sz := sz)
  rw [lg_entry_eq]
  refine body p e s m below meth c (va_A ws sz) _ hsz ⟨hx, hb, hml, hown, hts⟩ hK hN (fun q h => Or.inr (by omega)) hP hD va_S.rf hin ?_ _ (lv_entry av hl0)
  intro w H locs ls pc hd hp h1 h2 h3
  exact W.vret hx hb hr (fun t ht hW => ⟨⟨w, rfl, hp, by rw [ht]; exact h1, va_K.moved hW.alike hK, h2⟩, h3.F ht⟩) h3.2.2 hd
theorem Cl_of {l : Launch} {y : MethodName} {wd wd' : List Cond} {rm : Room} {D : va_G} {cl : List vw_C} {tys : List (ClassId × FieldType)} {av : List Value} {ws : va_W} {sz : Nat} {post : Int64 → va_W → Prop} {mc ms : Nat} {cc : ByteArray} {nL : Nat} (hy : plainName y.cls = true) (hw : wd = Cond.code y cc nL (some .long) :: wd') (hl0 : (lg_sl av).length ≤ nL)
    (body : ∀ (p : Program) (e : Env) (s : State) (m : MethodId) (below : List Frame) (meth : Method) (c : Code) (A : Nat → Prop) (Q : State → Prop), s.heap.size = sz → CallFix p m c cc nL s av.toArray wd y.cls → va_K D cl tys s → nK s → (∀ q : Nat, s.heap.size ≤ q → A q) → va_P D cl ws s.heap → va_D A ws → va_S A s.heap s.heap [] →
      (∀ (z : Int64) (w : va_W) (H : Heap) (locs : List Loc) (ls : Array Slot) (pc : Nat), decode cc pc = .ok (.lreturn, 1) → post z w → va_P D cl w H → va_D A w → va_S A s.heap H locs → W p l e rm s m av.toArray below meth c H locs mc ms Q (F0 m pc ls [.long z])) →
      ∀ (ls : Array Slot), lv_has ls nL (lv_args 0 av) → W p l e rm s m av.toArray below meth c s.heap [] 0 0 Q (F0 m 0 ls [])) : Cl l y wd rm D cl tys av ws sz post mc ms := by
  refine Met.ofW (cc := cc) (maxL := nL) (ret := some .long) hy hw ?_
  intro p e s m args below meth c s₁ B hml hv
  obtain ⟨rfl, hsz, hP, hK, hN, hD0⟩ := hv
  have hx := B.exec
  have hb := B.bytes
  have hr := B.returns
  have hts := atoms_spec (ws := wd) B.pre
  have hown : s.vm.findClass y.cls = some m.cls := findClass_of_methodNamed B.named
  have hlocks := B.notSynchronized
  have hD := hD0.self (sz := sz)
  rw [lg_entry_eq]
  refine body p e s m below meth c (va_A ws sz) _ hsz ⟨hx, hb, hml, hown, hts⟩ hK hN (fun q h => Or.inr (by omega)) hP hD va_S.rf ?_ _ (lv_entry av hl0)
  intro z w H locs ls pc hd hp h1 h2 h3
  exact W.lret hx hb hr (fun t ht hW => ⟨⟨z, w, rfl, hp, by rw [ht]; exact h1, va_K.moved hW.alike hK, h2⟩, h3.F ht⟩) h3.2.2 hd
end
