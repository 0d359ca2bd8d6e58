section
-- ===== PART A: goes FIRST, ahead of the names: the tables' words, and 'selects' of the private methods out of them =====
/-- a private method of a class that the tables say can be made, by its rows of tables_1 -/
def lw_okq (q : MethodName × Nat) : Prop := (q.1.cls ≠ "java/lang/invoke/MethodHandle" ∧ q.1.cls ≠ "java/lang/invoke/VarHandle") ∧ Cond.instantiable q.1.cls q.2 ∈ tables_1 ∧ Cond.privateMethod q.1 ∈ tables_1 ∧ Cond.instanceMethod q.1 ∈ tables_1
theorem lw_p0 : lw_okq (⟨"LeastChanges", "isTank", "(I)Z"⟩, 12) := ⟨⟨by decide +kernel, by decide +kernel⟩, List.mem_of_getElem? (i := 12) (by decide +kernel), List.mem_of_getElem? (i := 187) (by decide +kernel), List.mem_of_getElem? (i := 188) (by decide +kernel)⟩
theorem lw_p1 : lw_okq (⟨"LeastChanges", "isWithinDays", "(II)Z"⟩, 12) := ⟨⟨by decide +kernel, by decide +kernel⟩, List.mem_of_getElem? (i := 12) (by decide +kernel), List.mem_of_getElem? (i := 191) (by decide +kernel), List.mem_of_getElem? (i := 192) (by decide +kernel)⟩
theorem lw_p2 : lw_okq (⟨"LeastChanges", "isRule", "(IIII)Z"⟩, 12) := ⟨⟨by decide +kernel, by decide +kernel⟩, List.mem_of_getElem? (i := 12) (by decide +kernel), List.mem_of_getElem? (i := 207) (by decide +kernel), List.mem_of_getElem? (i := 208) (by decide +kernel)⟩
theorem lw_p3 : lw_okq (⟨"LeastChanges$Search", "takeOne", "(IIII)V"⟩, 10) := ⟨⟨by decide +kernel, by decide +kernel⟩, List.mem_of_getElem? (i := 82) (by decide +kernel), List.mem_of_getElem? (i := 268) (by decide +kernel), List.mem_of_getElem? (i := 269) (by decide +kernel)⟩
theorem lw_p4 : lw_okq (⟨"LeastChanges$Search", "closeByLags", "()V"⟩, 10) := ⟨⟨by decide +kernel, by decide +kernel⟩, List.mem_of_getElem? (i := 82) (by decide +kernel), List.mem_of_getElem? (i := 277) (by decide +kernel), List.mem_of_getElem? (i := 278) (by decide +kernel)⟩
theorem lw_p5 : lw_okq (⟨"LeastChanges$Search", "canPutFrom", "(I)Z"⟩, 10) := ⟨⟨by decide +kernel, by decide +kernel⟩, List.mem_of_getElem? (i := 82) (by decide +kernel), List.mem_of_getElem? (i := 301) (by decide +kernel), List.mem_of_getElem? (i := 302) (by decide +kernel)⟩
theorem lw_p6 : lw_okq (⟨"LeastChanges$Search", "leavesRoom", "(II)Z"⟩, 10) := ⟨⟨by decide +kernel, by decide +kernel⟩, List.mem_of_getElem? (i := 82) (by decide +kernel), List.mem_of_getElem? (i := 305) (by decide +kernel), List.mem_of_getElem? (i := 306) (by decide +kernel)⟩
theorem lw_p7 : lw_okq (⟨"LeastChanges$Search", "openBeside", "(III)I"⟩, 10) := ⟨⟨by decide +kernel, by decide +kernel⟩, List.mem_of_getElem? (i := 82) (by decide +kernel), List.mem_of_getElem? (i := 309) (by decide +kernel), List.mem_of_getElem? (i := 310) (by decide +kernel)⟩
theorem lw_p8 : lw_okq (⟨"LeastChanges", "firstBar", "()I"⟩, 12) := ⟨⟨by decide +kernel, by decide +kernel⟩, List.mem_of_getElem? (i := 12) (by decide +kernel), List.mem_of_getElem? (i := 316) (by decide +kernel), List.mem_of_getElem? (i := 317) (by decide +kernel)⟩
theorem lw_p9 : lw_okq (⟨"LeastChanges$Search", "putBetter", "(II)V"⟩, 10) := ⟨⟨by decide +kernel, by decide +kernel⟩, List.mem_of_getElem? (i := 82) (by decide +kernel), List.mem_of_getElem? (i := 324) (by decide +kernel), List.mem_of_getElem? (i := 325) (by decide +kernel)⟩
theorem lw_p10 : lw_okq (⟨"LeastChanges$Search", "leastWeightFrom", "(I)I"⟩, 10) := ⟨⟨by decide +kernel, by decide +kernel⟩, List.mem_of_getElem? (i := 82) (by decide +kernel), List.mem_of_getElem? (i := 328) (by decide +kernel), List.mem_of_getElem? (i := 329) (by decide +kernel)⟩
theorem lw_p11 : lw_okq (⟨"LeastChanges$Search", "weightAt", "(II)I"⟩, 10) := ⟨⟨by decide +kernel, by decide +kernel⟩, List.mem_of_getElem? (i := 82) (by decide +kernel), List.mem_of_getElem? (i := 332) (by decide +kernel), List.mem_of_getElem? (i := 333) (by decide +kernel)⟩
theorem lw_p12 : lw_okq (⟨"LeastChanges", "adoptFound", "()V"⟩, 12) := ⟨⟨by decide +kernel, by decide +kernel⟩, List.mem_of_getElem? (i := 12) (by decide +kernel), List.mem_of_getElem? (i := 339) (by decide +kernel), List.mem_of_getElem? (i := 340) (by decide +kernel)⟩
theorem lw_p13 : lw_okq (⟨"LeastChangesModel", "isBatch", "(I)Z"⟩, 34) := ⟨⟨by decide +kernel, by decide +kernel⟩, List.mem_of_getElem? (i := 424) (by decide +kernel), List.mem_of_getElem? (i := 541) (by decide +kernel), List.mem_of_getElem? (i := 542) (by decide +kernel)⟩
theorem lw_p14 : lw_okq (⟨"LeastChangesModel", "search", "(I)Z"⟩, 34) := ⟨⟨by decide +kernel, by decide +kernel⟩, List.mem_of_getElem? (i := 424) (by decide +kernel), List.mem_of_getElem? (i := 562) (by decide +kernel), List.mem_of_getElem? (i := 563) (by decide +kernel)⟩
theorem lw_p15 : lw_okq (⟨"LeastChangesModel", "place", "(I)V"⟩, 34) := ⟨⟨by decide +kernel, by decide +kernel⟩, List.mem_of_getElem? (i := 424) (by decide +kernel), List.mem_of_getElem? (i := 566) (by decide +kernel), List.mem_of_getElem? (i := 567) (by decide +kernel)⟩
def lw_privs_1 : List (MethodName × Nat) := [(⟨"LeastChanges", "isTank", "(I)Z"⟩, 12), (⟨"LeastChanges", "isWithinDays", "(II)Z"⟩, 12), (⟨"LeastChanges", "isRule", "(IIII)Z"⟩, 12), (⟨"LeastChanges$Search", "takeOne", "(IIII)V"⟩, 10), (⟨"LeastChanges$Search", "closeByLags", "()V"⟩, 10), (⟨"LeastChanges$Search", "canPutFrom", "(I)Z"⟩, 10), (⟨"LeastChanges$Search", "leavesRoom", "(II)Z"⟩, 10), (⟨"LeastChanges$Search", "openBeside", "(III)I"⟩, 10), (⟨"LeastChanges", "firstBar", "()I"⟩, 12), (⟨"LeastChanges$Search", "putBetter", "(II)V"⟩, 10), (⟨"LeastChanges$Search", "leastWeightFrom", "(I)I"⟩, 10), (⟨"LeastChanges$Search", "weightAt", "(II)I"⟩, 10), (⟨"LeastChanges", "adoptFound", "()V"⟩, 12), (⟨"LeastChangesModel", "isBatch", "(I)Z"⟩, 34), (⟨"LeastChangesModel", "search", "(I)Z"⟩, 34), (⟨"LeastChangesModel", "place", "(I)V"⟩, 34)]
theorem lw_r1 : ∀ q ∈ lw_privs_1, lw_okq q := List.forall_mem_cons.mpr ⟨lw_p0, List.forall_mem_cons.mpr ⟨lw_p1, List.forall_mem_cons.mpr ⟨lw_p2, List.forall_mem_cons.mpr ⟨lw_p3, List.forall_mem_cons.mpr ⟨lw_p4, List.forall_mem_cons.mpr ⟨lw_p5, List.forall_mem_cons.mpr ⟨lw_p6, List.forall_mem_cons.mpr ⟨lw_p7, List.forall_mem_cons.mpr ⟨lw_p8, List.forall_mem_cons.mpr ⟨lw_p9, List.forall_mem_cons.mpr ⟨lw_p10, List.forall_mem_cons.mpr ⟨lw_p11, List.forall_mem_cons.mpr ⟨lw_p12, List.forall_mem_cons.mpr ⟨lw_p13, List.forall_mem_cons.mpr ⟨lw_p14, List.forall_mem_cons.mpr ⟨lw_p15, fun _ h => absurd h List.not_mem_nil⟩⟩⟩⟩⟩⟩⟩⟩⟩⟩⟩⟩⟩⟩⟩⟩
theorem lw_p16 : lw_okq (⟨"LeastChangesModel", "judge", "()V"⟩, 34) := ⟨⟨by decide +kernel, by decide +kernel⟩, List.mem_of_getElem? (i := 424) (by decide +kernel), List.mem_of_getElem? (i := 570) (by decide +kernel), List.mem_of_getElem? (i := 571) (by decide +kernel)⟩
theorem lw_p17 : lw_okq (⟨"LeastChangesModel", "fits", "(I)Z"⟩, 34) := ⟨⟨by decide +kernel, by decide +kernel⟩, List.mem_of_getElem? (i := 424) (by decide +kernel), List.mem_of_getElem? (i := 574) (by decide +kernel), List.mem_of_getElem? (i := 575) (by decide +kernel)⟩
theorem lw_p18 : lw_okq (⟨"LeastChangesModel", "keeps", "(II)Z"⟩, 34) := ⟨⟨by decide +kernel, by decide +kernel⟩, List.mem_of_getElem? (i := 424) (by decide +kernel), List.mem_of_getElem? (i := 578) (by decide +kernel), List.mem_of_getElem? (i := 579) (by decide +kernel)⟩
theorem lw_p19 : lw_okq (⟨"LeastChangesModel", "keep", "()V"⟩, 34) := ⟨⟨by decide +kernel, by decide +kernel⟩, List.mem_of_getElem? (i := 424) (by decide +kernel), List.mem_of_getElem? (i := 582) (by decide +kernel), List.mem_of_getElem? (i := 583) (by decide +kernel)⟩
def lw_privs_2 : List (MethodName × Nat) := [(⟨"LeastChangesModel", "judge", "()V"⟩, 34), (⟨"LeastChangesModel", "fits", "(I)Z"⟩, 34), (⟨"LeastChangesModel", "keeps", "(II)Z"⟩, 34), (⟨"LeastChangesModel", "keep", "()V"⟩, 34)]
theorem lw_r2 : ∀ q ∈ lw_privs_2, lw_okq q := List.forall_mem_cons.mpr ⟨lw_p16, List.forall_mem_cons.mpr ⟨lw_p17, List.forall_mem_cons.mpr ⟨lw_p18, List.forall_mem_cons.mpr ⟨lw_p19, fun _ h => absurd h List.not_mem_nil⟩⟩⟩⟩
def lw_privs : List (MethodName × Nat) := lw_privs_1 ++ (lw_privs_2)
def lw_tbl : List Cond := k2_sels lw_privs ++ tables_1
theorem lw_privs_ok : ∀ q ∈ lw_privs, lw_okq q := by
  show ∀ q ∈ lw_privs_1 ++ (lw_privs_2), lw_okq q
  exact List.forall_mem_append.mpr ⟨lw_r1, lw_r2⟩

-- the words that a caller hands on: all but the links to a nest mate
def lw_g : List Cond := lw_tbl.filter goodWord
theorem tg {w : Cond} (h : w ∈ lw_tbl) (hg : goodWord w = true) : w ∈ lw_g := List.mem_filter.mpr ⟨h, hg⟩
-- names: classes, fields in the order of the slots, types
def RX0 : String := "LeastChanges$Batches"
def TX0 : u_T := fun k => match k with
  | 0 => ("LeastChanges$Batches", "lengths", "[I", true)
  | 1 => ("LeastChanges$Batches", "places", "[I", true)
  | 2 => ("LeastChanges$Batches", "earliest", "[I", true)
  | 3 => ("LeastChanges$Batches", "frozen", "[Z", true)
  | _ => ("LeastChanges$Batches", "count", "I", false)
def tyX0 : Nat → FieldType := fun k => match k with
  | 0 => .array .int
  | 1 => .array .int
  | 2 => .array .int
  | 3 => .array .boolean
  | _ => .int
set_option maxRecDepth 20000 in
theorem nmX0 : ∀ a, a < 5 → ∀ b, b < 5 → a ≠ b → (TX0 a).2.1 ≠ (TX0 b).2.1 := by decide +kernel
theorem tyX0_ok : ∀ k, k < 5 → parseFieldDescriptor (TX0 k).2.2.1 = some (tyX0 k) := by decide +kernel
set_option maxRecDepth 20000 in
theorem in0X0 : ∀ w ∈ u_ws RX0 TX0 5, w ∈ lw_tbl := by decide +kernel
set_option maxRecDepth 20000 in
theorem inX0 : ∀ w ∈ u_ws RX0 TX0 5, w ∈ lw_g := fun w h => tg (in0X0 w h) (List.all_eq_true.mp (by decide +kernel : (u_ws RX0 TX0 5).all goodWord = true) w h)
def RX1 : String := "LeastChanges$Rules"
def TX1 : u_T := fun k => match k with
  | 0 => ("LeastChanges$Rules", "kinds", "[I", true)
  | 1 => ("LeastChanges$Rules", "firsts", "[I", true)
  | 2 => ("LeastChanges$Rules", "seconds", "[I", true)
  | 3 => ("LeastChanges$Rules", "numbers", "[I", true)
  | _ => ("LeastChanges$Rules", "count", "I", false)
def tyX1 : Nat → FieldType := fun k => match k with
  | 0 => .array .int
  | 1 => .array .int
  | 2 => .array .int
  | 3 => .array .int
  | _ => .int
set_option maxRecDepth 20000 in
theorem nmX1 : ∀ a, a < 5 → ∀ b, b < 5 → a ≠ b → (TX1 a).2.1 ≠ (TX1 b).2.1 := by decide +kernel
theorem tyX1_ok : ∀ k, k < 5 → parseFieldDescriptor (TX1 k).2.2.1 = some (tyX1 k) := by decide +kernel
set_option maxRecDepth 20000 in
theorem in0X1 : ∀ w ∈ u_ws RX1 TX1 5, w ∈ lw_tbl := by decide +kernel
set_option maxRecDepth 20000 in
theorem inX1 : ∀ w ∈ u_ws RX1 TX1 5, w ∈ lw_g := fun w h => tg (in0X1 w h) (List.all_eq_true.mp (by decide +kernel : (u_ws RX1 TX1 5).all goodWord = true) w h)
def RX2 : String := "LeastChanges$Search"
def TX2 : u_T := fun k => match k with
  | 0 => ("LeastChanges$Search", "best", "[I", true)
  | 1 => ("LeastChanges$Search", "lengths", "[I", true)
  | 2 => ("LeastChanges$Search", "homes", "[I", true)
  | 3 => ("LeastChanges$Search", "free", "[I", true)
  | 4 => ("LeastChanges$Search", "lags", "[I", true)
  | 5 => ("LeastChanges$Search", "apart", "[I", true)
  | 6 => ("LeastChanges$Search", "open", "[I", true)
  | 7 => ("LeastChanges$Search", "tried", "[I", true)
  | 8 => ("LeastChanges$Search", "count", "I", false)
  | _ => ("LeastChanges$Search", "bestWeight", "I", false)
def tyX2 : Nat → FieldType := fun k => match k with
  | 0 => .array .int
  | 1 => .array .int
  | 2 => .array .int
  | 3 => .array .int
  | 4 => .array .int
  | 5 => .array .int
  | 6 => .array .int
  | 7 => .array .int
  | 8 => .int
  | _ => .int
set_option maxRecDepth 20000 in
theorem nmX2 : ∀ a, a < 10 → ∀ b, b < 10 → a ≠ b → (TX2 a).2.1 ≠ (TX2 b).2.1 := by decide +kernel
theorem tyX2_ok : ∀ k, k < 10 → parseFieldDescriptor (TX2 k).2.2.1 = some (tyX2 k) := by decide +kernel
set_option maxRecDepth 20000 in
theorem in0X2 : ∀ w ∈ u_ws RX2 TX2 10, w ∈ lw_tbl := by decide +kernel
set_option maxRecDepth 20000 in
theorem inX2 : ∀ w ∈ u_ws RX2 TX2 10, w ∈ lw_g := fun w h => tg (in0X2 w h) (List.all_eq_true.mp (by decide +kernel : (u_ws RX2 TX2 10).all goodWord = true) w h)
def RX3 : String := "LeastChanges$Shelf"
def TX3 : u_T := fun k => match k with
  | 0 => ("LeastChanges$Shelf", "room", "I", true)
  | 1 => ("LeastChanges$Shelf", "sizes", "[I", true)
  | 2 => ("LeastChanges$Shelf", "places", "[I", true)
  | _ => ("LeastChanges$Shelf", "count", "I", false)
def tyX3 : Nat → FieldType := fun k => match k with
  | 0 => .int
  | 1 => .array .int
  | 2 => .array .int
  | _ => .int
set_option maxRecDepth 20000 in
theorem nmX3 : ∀ a, a < 4 → ∀ b, b < 4 → a ≠ b → (TX3 a).2.1 ≠ (TX3 b).2.1 := by decide +kernel
theorem tyX3_ok : ∀ k, k < 4 → parseFieldDescriptor (TX3 k).2.2.1 = some (tyX3 k) := by decide +kernel
set_option maxRecDepth 20000 in
theorem in0X3 : ∀ w ∈ u_ws RX3 TX3 4, w ∈ lw_tbl := by decide +kernel
set_option maxRecDepth 20000 in
theorem inX3 : ∀ w ∈ u_ws RX3 TX3 4, w ∈ lw_g := fun w h => tg (in0X3 w h) (List.all_eq_true.mp (by decide +kernel : (u_ws RX3 TX3 4).all goodWord = true) w h)
def RX4 : String := "LeastChanges"
def TX4 : u_T := fun k => match k with
  | 0 => ("LeastChanges", "tanks", "I", true)
  | 1 => ("LeastChanges", "days", "I", true)
  | 2 => ("LeastChanges", "batches", "LLeastChanges$Batches;", true)
  | 3 => ("LeastChanges", "rules", "LLeastChanges$Rules;", true)
  | 4 => ("LeastChanges", "search", "LLeastChanges$Search;", true)
  | 5 => ("LeastChanges", "before", "LLeastChanges$Shelf;", true)
  | 6 => ("LeastChanges", "copies", "LLeastChanges$Shelf;", true)
  | 7 => ("LeastChanges", "outs", "I", false)
  | 8 => ("LeastChanges", "shutDays", "I", false)
  | 9 => ("LeastChanges", "changedSet", "I", false)
  | 10 => ("LeastChanges", "leastChanged", "I", false)
  | _ => ("LeastChanges", "lastCost", "J", false)
def tyX4 : Nat → FieldType := fun k => match k with
  | 0 => .int
  | 1 => .int
  | 2 => .object "LeastChanges$Batches"
  | 3 => .object "LeastChanges$Rules"
  | 4 => .object "LeastChanges$Search"
  | 5 => .object "LeastChanges$Shelf"
  | 6 => .object "LeastChanges$Shelf"
  | 7 => .int
  | 8 => .int
  | 9 => .int
  | 10 => .int
  | _ => .long
set_option maxRecDepth 20000 in
theorem nmX4 : ∀ a, a < 12 → ∀ b, b < 12 → a ≠ b → (TX4 a).2.1 ≠ (TX4 b).2.1 := by decide +kernel
theorem tyX4_ok : ∀ k, k < 12 → parseFieldDescriptor (TX4 k).2.2.1 = some (tyX4 k) := by decide +kernel
set_option maxRecDepth 20000 in
theorem in0X4 : ∀ w ∈ u_ws RX4 TX4 12, w ∈ lw_tbl := by decide +kernel
set_option maxRecDepth 20000 in
theorem inX4 : ∀ w ∈ u_ws RX4 TX4 12, w ∈ lw_g := fun w h => tg (in0X4 w h) (List.all_eq_true.mp (by decide +kernel : (u_ws RX4 TX4 12).all goodWord = true) w h)
def RX5 : String := "LeastChangesModel"
def TX5 : u_T := fun k => match k with
  | 0 => ("LeastChangesModel", "tanks", "I", true)
  | 1 => ("LeastChangesModel", "days", "I", true)
  | 2 => ("LeastChangesModel", "length", "[I", true)
  | 3 => ("LeastChangesModel", "tank", "[I", true)
  | 4 => ("LeastChangesModel", "start", "[I", true)
  | 5 => ("LeastChangesModel", "earliest", "[I", true)
  | 6 => ("LeastChangesModel", "frozen", "[Z", true)
  | 7 => ("LeastChangesModel", "batches", "I", false)
  | 8 => ("LeastChangesModel", "ruleKind", "[I", true)
  | 9 => ("LeastChangesModel", "ruleA", "[I", true)
  | 10 => ("LeastChangesModel", "ruleB", "[I", true)
  | 11 => ("LeastChangesModel", "ruleDays", "[I", true)
  | 12 => ("LeastChangesModel", "rules", "I", false)
  | 13 => ("LeastChangesModel", "outTank", "[I", true)
  | 14 => ("LeastChangesModel", "outFrom", "[I", true)
  | 15 => ("LeastChangesModel", "outTo", "[I", true)
  | 16 => ("LeastChangesModel", "outs", "I", false)
  | 17 => ("LeastChangesModel", "undoSize", "[I", true)
  | 18 => ("LeastChangesModel", "undoPlan", "[I", true)
  | 19 => ("LeastChangesModel", "undos", "I", false)
  | 20 => ("LeastChangesModel", "copySize", "[I", true)
  | 21 => ("LeastChangesModel", "copyPlan", "[I", true)
  | 22 => ("LeastChangesModel", "copies", "I", false)
  | 23 => ("LeastChangesModel", "tryTank", "[I", true)
  | 24 => ("LeastChangesModel", "tryStart", "[I", true)
  | 25 => ("LeastChangesModel", "bestTank", "[I", true)
  | 26 => ("LeastChangesModel", "bestStart", "[I", true)
  | 27 => ("LeastChangesModel", "bestChanged", "I", false)
  | 28 => ("LeastChangesModel", "bestCost", "I", false)
  | 29 => ("LeastChangesModel", "there", "Z", false)
  | 30 => ("LeastChangesModel", "without", "I", false)
  | 31 => ("LeastChangesModel", "wasChanged", "[Z", true)
  | 32 => ("LeastChangesModel", "bound", "I", false)
  | _ => ("LeastChangesModel", "cost", "J", false)
def tyX5 : Nat → FieldType := fun k => match k with
  | 0 => .int
  | 1 => .int
  | 2 => .array .int
  | 3 => .array .int
  | 4 => .array .int
  | 5 => .array .int
  | 6 => .array .boolean
  | 7 => .int
  | 8 => .array .int
  | 9 => .array .int
  | 10 => .array .int
  | 11 => .array .int
  | 12 => .int
  | 13 => .array .int
  | 14 => .array .int
  | 15 => .array .int
  | 16 => .int
  | 17 => .array .int
  | 18 => .array .int
  | 19 => .int
  | 20 => .array .int
  | 21 => .array .int
  | 22 => .int
  | 23 => .array .int
  | 24 => .array .int
  | 25 => .array .int
  | 26 => .array .int
  | 27 => .int
  | 28 => .int
  | 29 => .boolean
  | 30 => .int
  | 31 => .array .boolean
  | 32 => .int
  | _ => .long
set_option maxRecDepth 20000 in
theorem nmX5 : ∀ a, a < 34 → ∀ b, b < 34 → a ≠ b → (TX5 a).2.1 ≠ (TX5 b).2.1 := by decide +kernel
theorem tyX5_ok : ∀ k, k < 34 → parseFieldDescriptor (TX5 k).2.2.1 = some (tyX5 k) := by decide +kernel
set_option maxRecDepth 20000 in
theorem in0X5 : ∀ w ∈ u_ws RX5 TX5 34, w ∈ lw_tbl := by decide +kernel
set_option maxRecDepth 20000 in
theorem inX5 : ∀ w ∈ u_ws RX5 TX5 34, w ∈ lw_g := fun w h => tg (in0X5 w h) (List.all_eq_true.mp (by decide +kernel : (u_ws RX5 TX5 34).all goodWord = true) w h)
def RJ6 : String := "java/lang/Integer"
def RJ7 : String := "java/util/Arrays"
def RJ9 : String := "java/lang/Math"
def RJ10 : String := "java/lang/System"
def RL : String := "LeastChangesLaw"
abbrev vwCl : List vw_C := [(RX0, TX0, 5), (RX1, TX1, 5), (RX2, TX2, 10), (RX3, TX3, 4), (RX4, TX4, 12), (RX5, TX5, 34)]
-- methods
abbrev cX4_init : ByteArray := prog_1_method_1_code
def yX4_init : MethodName := ⟨RX4, "<init>", "(II)V"⟩
def wsX4_init : List Cond := .code yX4_init cX4_init 3 none :: lw_g
set_option maxRecDepth 20000 in
theorem cmX4_init : Cond.code yX4_init cX4_init 3 none ∈ lw_g := tg (List.mem_of_getElem? (i := 35) rfl) rfl
abbrev cX0_init : ByteArray := prog_2_method_1_code
def yX0_init : MethodName := ⟨RX0, "<init>", "()V"⟩
def wsX0_init : List Cond := .code yX0_init cX0_init 1 none :: lw_g
set_option maxRecDepth 20000 in
theorem cmX0_init : Cond.code yX0_init cX0_init 1 none ∈ lw_g := tg (List.mem_of_getElem? (i := 43) rfl) rfl
abbrev cX1_init : ByteArray := prog_3_method_1_code
def yX1_init : MethodName := ⟨RX1, "<init>", "()V"⟩
def wsX1_init : List Cond := .code yX1_init cX1_init 1 none :: lw_g
set_option maxRecDepth 20000 in
theorem cmX1_init : Cond.code yX1_init cX1_init 1 none ∈ lw_g := tg (List.mem_of_getElem? (i := 77) rfl) rfl
abbrev cX2_init : ByteArray := prog_4_method_1_code
def yX2_init : MethodName := ⟨RX2, "<init>", "()V"⟩
def wsX2_init : List Cond := .code yX2_init cX2_init 1 none :: lw_g
set_option maxRecDepth 20000 in
theorem cmX2_init : Cond.code yX2_init cX2_init 1 none ∈ lw_g := tg (List.mem_of_getElem? (i := 105) rfl) rfl
abbrev cX3_init : ByteArray := prog_5_method_1_code
def yX3_init : MethodName := ⟨RX3, "<init>", "(I)V"⟩
def wsX3_init : List Cond := .code yX3_init cX3_init 2 none :: lw_g
set_option maxRecDepth 20000 in
theorem cmX3_init : Cond.code yX3_init cX3_init 2 none ∈ lw_g := tg (List.mem_of_getElem? (i := 143) rfl) rfl
abbrev cJ9_max : ByteArray := prog_9_method_65_code
def yJ9_max : MethodName := ⟨RJ9, "max", "(II)I"⟩
def wsJ9_max : List Cond := .code yJ9_max cJ9_max 2 (some .int) :: lw_g
set_option maxRecDepth 20000 in
theorem cmJ9_max : Cond.code yJ9_max cJ9_max 2 (some .int) ∈ lw_g := tg (List.mem_of_getElem? (i := 147) rfl) rfl
abbrev cJ9_min : ByteArray := prog_9_method_69_code
def yJ9_min : MethodName := ⟨RJ9, "min", "(II)I"⟩
def wsJ9_min : List Cond := .code yJ9_min cJ9_min 2 (some .int) :: lw_g
set_option maxRecDepth 20000 in
theorem cmJ9_min : Cond.code yJ9_min cJ9_min 2 (some .int) ∈ lw_g := tg (List.mem_of_getElem? (i := 163) rfl) rfl
abbrev cX4_batch : ByteArray := prog_1_method_2_code
def yX4_batch : MethodName := ⟨RX4, "batch", "(III)I"⟩
def wsX4_batch : List Cond := .code yX4_batch cX4_batch 4 (some .int) :: lw_g
set_option maxRecDepth 20000 in
theorem cmX4_batch : Cond.code yX4_batch cX4_batch 4 (some .int) ∈ lw_g := tg (List.mem_of_getElem? (i := 205) rfl) rfl
abbrev cX4_isTank : ByteArray := prog_1_method_16_code
def yX4_isTank : MethodName := ⟨RX4, "isTank", "(I)Z"⟩
def wsX4_isTank : List Cond := .code yX4_isTank cX4_isTank 2 (some .boolean) :: lw_g
set_option maxRecDepth 20000 in
theorem cmX4_isTank : Cond.code yX4_isTank cX4_isTank 2 (some .boolean) ∈ lw_g := tg (List.mem_of_getElem? (i := 209) rfl) rfl
abbrev cX4_isWithinDays : ByteArray := prog_1_method_17_code
def yX4_isWithinDays : MethodName := ⟨RX4, "isWithinDays", "(II)Z"⟩
def wsX4_isWithinDays : List Cond := .code yX4_isWithinDays cX4_isWithinDays 3 (some .boolean) :: lw_g
set_option maxRecDepth 20000 in
theorem cmX4_isWithinDays : Cond.code yX4_isWithinDays cX4_isWithinDays 3 (some .boolean) ∈ lw_g := tg (List.mem_of_getElem? (i := 213) rfl) rfl
abbrev cX0_isFull : ByteArray := prog_2_method_2_code
def yX0_isFull : MethodName := ⟨RX0, "isFull", "()Z"⟩
def wsX0_isFull : List Cond := .code yX0_isFull cX0_isFull 1 (some .boolean) :: lw_g
set_option maxRecDepth 20000 in
theorem cmX0_isFull : Cond.code yX0_isFull cX0_isFull 1 (some .boolean) ∈ lw_g := tg (List.mem_of_getElem? (i := 217) rfl) rfl
abbrev cX0_add : ByteArray := prog_2_method_4_code
def yX0_add : MethodName := ⟨RX0, "add", "(II)I"⟩
def wsX0_add : List Cond := .code yX0_add cX0_add 3 (some .int) :: lw_g
set_option maxRecDepth 20000 in
theorem cmX0_add : Cond.code yX0_add cX0_add 3 (some .int) ∈ lw_g := tg (List.mem_of_getElem? (i := 221) rfl) rfl
abbrev cX4_rule : ByteArray := prog_1_method_3_code
def yX4_rule : MethodName := ⟨RX4, "rule", "(IIII)Z"⟩
def wsX4_rule : List Cond := .code yX4_rule cX4_rule 5 (some .boolean) :: lw_g
set_option maxRecDepth 20000 in
theorem cmX4_rule : Cond.code yX4_rule cX4_rule 5 (some .boolean) ∈ lw_g := tg (List.mem_of_getElem? (i := 225) rfl) rfl
abbrev cX4_isRule : ByteArray := prog_1_method_18_code
def yX4_isRule : MethodName := ⟨RX4, "isRule", "(IIII)Z"⟩
def wsX4_isRule : List Cond := .code yX4_isRule cX4_isRule 6 (some .boolean) :: lw_g
set_option maxRecDepth 20000 in
theorem cmX4_isRule : Cond.code yX4_isRule cX4_isRule 6 (some .boolean) ∈ lw_g := tg (List.mem_of_getElem? (i := 229) rfl) rfl
abbrev cX0_has : ByteArray := prog_2_method_3_code
def yX0_has : MethodName := ⟨RX0, "has", "(I)Z"⟩
def wsX0_has : List Cond := .code yX0_has cX0_has 2 (some .boolean) :: lw_g
set_option maxRecDepth 20000 in
theorem cmX0_has : Cond.code yX0_has cX0_has 2 (some .boolean) ∈ lw_g := tg (List.mem_of_getElem? (i := 233) rfl) rfl
abbrev cX4_isNumber : ByteArray := prog_1_method_19_code
def yX4_isNumber : MethodName := ⟨RX4, "isNumber", "(I)Z"⟩
def wsX4_isNumber : List Cond := .code yX4_isNumber cX4_isNumber 1 (some .boolean) :: lw_g
set_option maxRecDepth 20000 in
theorem cmX4_isNumber : Cond.code yX4_isNumber cX4_isNumber 1 (some .boolean) ∈ lw_g := tg (List.mem_of_getElem? (i := 236) rfl) rfl
abbrev cX1_isFull : ByteArray := prog_3_method_2_code
def yX1_isFull : MethodName := ⟨RX1, "isFull", "()Z"⟩
def wsX1_isFull : List Cond := .code yX1_isFull cX1_isFull 1 (some .boolean) :: lw_g
set_option maxRecDepth 20000 in
theorem cmX1_isFull : Cond.code yX1_isFull cX1_isFull 1 (some .boolean) ∈ lw_g := tg (List.mem_of_getElem? (i := 240) rfl) rfl
abbrev cX1_add : ByteArray := prog_3_method_3_code
def yX1_add : MethodName := ⟨RX1, "add", "(IIII)V"⟩
def wsX1_add : List Cond := .code yX1_add cX1_add 5 none :: lw_g
set_option maxRecDepth 20000 in
theorem cmX1_add : Cond.code yX1_add cX1_add 5 none ∈ lw_g := tg (List.mem_of_getElem? (i := 244) rfl) rfl
abbrev cX4_freeze : ByteArray := prog_1_method_4_code
def yX4_freeze : MethodName := ⟨RX4, "freeze", "(I)Z"⟩
def wsX4_freeze : List Cond := .code yX4_freeze cX4_freeze 2 (some .boolean) :: lw_g
set_option maxRecDepth 20000 in
theorem cmX4_freeze : Cond.code yX4_freeze cX4_freeze 2 (some .boolean) ∈ lw_g := tg (List.mem_of_getElem? (i := 248) rfl) rfl
abbrev cX4_out : ByteArray := prog_1_method_5_code
def yX4_out : MethodName := ⟨RX4, "out", "(III)Z"⟩
def wsX4_out : List Cond := .code yX4_out cX4_out 4 (some .boolean) :: lw_g
set_option maxRecDepth 20000 in
theorem cmX4_out : Cond.code yX4_out cX4_out 4 (some .boolean) ∈ lw_g := tg (List.mem_of_getElem? (i := 252) rfl) rfl
abbrev cX4_daysFromTo : ByteArray := prog_1_method_25_code
def yX4_daysFromTo : MethodName := ⟨RX4, "daysFromTo", "(II)I"⟩
def wsX4_daysFromTo : List Cond := .code yX4_daysFromTo cX4_daysFromTo 4 (some .int) :: lw_g
set_option maxRecDepth 20000 in
theorem cmX4_daysFromTo : Cond.code yX4_daysFromTo cX4_daysFromTo 4 (some .int) ∈ lw_g := tg (List.mem_of_getElem? (i := 255) rfl) rfl
abbrev cX4_late : ByteArray := prog_1_method_6_code
def yX4_late : MethodName := ⟨RX4, "late", "(II)Z"⟩
def wsX4_late : List Cond := .code yX4_late cX4_late 3 (some .boolean) :: lw_g
set_option maxRecDepth 20000 in
theorem cmX4_late : Cond.code yX4_late cX4_late 3 (some .boolean) ∈ lw_g := tg (List.mem_of_getElem? (i := 259) rfl) rfl
abbrev cX4_startOfPlace : ByteArray := prog_1_method_24_code
def yX4_startOfPlace : MethodName := ⟨RX4, "startOfPlace", "(I)I"⟩
def wsX4_startOfPlace : List Cond := .code yX4_startOfPlace cX4_startOfPlace 1 (some .int) :: lw_g
set_option maxRecDepth 20000 in
theorem cmX4_startOfPlace : Cond.code yX4_startOfPlace cX4_startOfPlace 1 (some .int) ∈ lw_g := tg (List.mem_of_getElem? (i := 262) rfl) rfl
abbrev cX4_run : ByteArray := prog_1_method_7_code
def yX4_run : MethodName := ⟨RX4, "run", "(J)I"⟩
def wsX4_run : List Cond := .code yX4_run cX4_run 4 (some .int) :: lw_g
set_option maxRecDepth 20000 in
theorem cmX4_run : Cond.code yX4_run cX4_run 4 (some .int) ∈ lw_g := tg (List.mem_of_getElem? (i := 266) rfl) rfl
abbrev cX2_load : ByteArray := prog_4_method_4_code
def yX2_load : MethodName := ⟨RX2, "load", "(LLeastChanges$Batches;III)V"⟩
def wsX2_load : List Cond := .code yX2_load cX2_load 10 none :: lw_g
set_option maxRecDepth 20000 in
theorem cmX2_load : Cond.code yX2_load cX2_load 10 none ∈ lw_g := tg (List.mem_of_getElem? (i := 271) rfl) rfl
abbrev cX2_freePlaces : ByteArray := prog_4_method_5_code
def yX2_freePlaces : MethodName := ⟨RX2, "freePlaces", "(IIII)I"⟩
def wsX2_freePlaces : List Cond := .code yX2_freePlaces cX2_freePlaces 8 (some .int) :: lw_g
set_option maxRecDepth 20000 in
theorem cmX2_freePlaces : Cond.code yX2_freePlaces cX2_freePlaces 8 (some .int) ∈ lw_g := tg (List.mem_of_getElem? (i := 275) rfl) rfl
abbrev cX2_take : ByteArray := prog_4_method_6_code
def yX2_take : MethodName := ⟨RX2, "take", "(LLeastChanges$Rules;I)V"⟩
def wsX2_take : List Cond := .code yX2_take cX2_take 4 none :: lw_g
set_option maxRecDepth 20000 in
theorem cmX2_take : Cond.code yX2_take cX2_take 4 none ∈ lw_g := tg (List.mem_of_getElem? (i := 280) rfl) rfl
abbrev cJ7_fill : ByteArray := prog_11_method_103_code
def yJ7_fill : MethodName := ⟨RJ7, "fill", "([II)V"⟩
def wsJ7_fill : List Cond := .code yJ7_fill cJ7_fill 4 none :: lw_g
set_option maxRecDepth 20000 in
theorem cmJ7_fill : Cond.code yJ7_fill cJ7_fill 4 none ∈ lw_g := tg (List.mem_of_getElem? (i := 283) rfl) rfl
abbrev cX2_takeOne : ByteArray := prog_4_method_7_code
def yX2_takeOne : MethodName := ⟨RX2, "takeOne", "(IIII)V"⟩
def wsX2_takeOne : List Cond := .code yX2_takeOne cX2_takeOne 6 none :: lw_g
set_option maxRecDepth 20000 in
theorem cmX2_takeOne : Cond.code yX2_takeOne cX2_takeOne 6 none ∈ lw_g := tg (List.mem_of_getElem? (i := 290) rfl) rfl
abbrev cX2_inEveryTank : ByteArray := prog_4_method_20_code
def yX2_inEveryTank : MethodName := ⟨RX2, "inEveryTank", "(I)I"⟩
def wsX2_inEveryTank : List Cond := .code yX2_inEveryTank cX2_inEveryTank 1 (some .int) :: lw_g
set_option maxRecDepth 20000 in
theorem cmX2_inEveryTank : Cond.code yX2_inEveryTank cX2_inEveryTank 1 (some .int) ∈ lw_g := tg (List.mem_of_getElem? (i := 294) rfl) rfl
abbrev cX2_closeByLags : ByteArray := prog_4_method_8_code
def yX2_closeByLags : MethodName := ⟨RX2, "closeByLags", "()V"⟩
def wsX2_closeByLags : List Cond := .code yX2_closeByLags cX2_closeByLags 5 none :: lw_g
set_option maxRecDepth 20000 in
theorem cmX2_closeByLags : Cond.code yX2_closeByLags cX2_closeByLags 5 none ∈ lw_g := tg (List.mem_of_getElem? (i := 299) rfl) rfl
abbrev cX2_firstStart : ByteArray := prog_4_method_9_code
def yX2_firstStart : MethodName := ⟨RX2, "firstStart", "(I)I"⟩
def wsX2_firstStart : List Cond := .code yX2_firstStart cX2_firstStart 1 (some .int) :: lw_g
set_option maxRecDepth 20000 in
theorem cmX2_firstStart : Cond.code yX2_firstStart cX2_firstStart 1 (some .int) ∈ lw_g := tg (List.mem_of_getElem? (i := 302) rfl) rfl
abbrev cX2_startsIn : ByteArray := prog_4_method_11_code
def yX2_startsIn : MethodName := ⟨RX2, "startsIn", "(I)I"⟩
def wsX2_startsIn : List Cond := .code yX2_startsIn cX2_startsIn 1 (some .int) :: lw_g
set_option maxRecDepth 20000 in
theorem cmX2_startsIn : Cond.code yX2_startsIn cX2_startsIn 1 (some .int) ∈ lw_g := tg (List.mem_of_getElem? (i := 305) rfl) rfl
abbrev cJ6_numberOfTrailingZeros : ByteArray := prog_8_method_48_code
def yJ6_numberOfTrailingZeros : MethodName := ⟨RJ6, "numberOfTrailingZeros", "(I)I"⟩
def wsJ6_numberOfTrailingZeros : List Cond := .code yJ6_numberOfTrailingZeros cJ6_numberOfTrailingZeros 2 (some .int) :: lw_g
set_option maxRecDepth 20000 in
theorem cmJ6_numberOfTrailingZeros : Cond.code yJ6_numberOfTrailingZeros cJ6_numberOfTrailingZeros 2 (some .int) ∈ lw_g := tg (List.mem_of_getElem? (i := 308) rfl) rfl
abbrev cX2_lastStart : ByteArray := prog_4_method_10_code
def yX2_lastStart : MethodName := ⟨RX2, "lastStart", "(I)I"⟩
def wsX2_lastStart : List Cond := .code yX2_lastStart cX2_lastStart 1 (some .int) :: lw_g
set_option maxRecDepth 20000 in
theorem cmX2_lastStart : Cond.code yX2_lastStart cX2_lastStart 1 (some .int) ∈ lw_g := tg (List.mem_of_getElem? (i := 312) rfl) rfl
abbrev cJ6_numberOfLeadingZeros : ByteArray := prog_8_method_47_code
def yJ6_numberOfLeadingZeros : MethodName := ⟨RJ6, "numberOfLeadingZeros", "(I)I"⟩
def wsJ6_numberOfLeadingZeros : List Cond := .code yJ6_numberOfLeadingZeros cJ6_numberOfLeadingZeros 2 (some .int) :: lw_g
set_option maxRecDepth 20000 in
theorem cmJ6_numberOfLeadingZeros : Cond.code yJ6_numberOfLeadingZeros cJ6_numberOfLeadingZeros 2 (some .int) ∈ lw_g := tg (List.mem_of_getElem? (i := 315) rfl) rfl
abbrev cX2_findsAny : ByteArray := prog_4_method_12_code
def yX2_findsAny : MethodName := ⟨RX2, "findsAny", "()Z"⟩
def wsX2_findsAny : List Cond := .code yX2_findsAny cX2_findsAny 1 (some .boolean) :: lw_g
set_option maxRecDepth 20000 in
theorem cmX2_findsAny : Cond.code yX2_findsAny cX2_findsAny 1 (some .boolean) ∈ lw_g := tg (List.mem_of_getElem? (i := 319) rfl) rfl
abbrev cX2_canPutFrom : ByteArray := prog_4_method_14_code
def yX2_canPutFrom : MethodName := ⟨RX2, "canPutFrom", "(I)Z"⟩
def wsX2_canPutFrom : List Cond := .code yX2_canPutFrom cX2_canPutFrom 5 (some .boolean) :: lw_g
set_option maxRecDepth 20000 in
theorem cmX2_canPutFrom : Cond.code yX2_canPutFrom cX2_canPutFrom 5 (some .boolean) ∈ lw_g := tg (List.mem_of_getElem? (i := 323) rfl) rfl
abbrev cX2_leavesRoom : ByteArray := prog_4_method_18_code
def yX2_leavesRoom : MethodName := ⟨RX2, "leavesRoom", "(II)Z"⟩
def wsX2_leavesRoom : List Cond := .code yX2_leavesRoom cX2_leavesRoom 6 (some .boolean) :: lw_g
set_option maxRecDepth 20000 in
theorem cmX2_leavesRoom : Cond.code yX2_leavesRoom cX2_leavesRoom 6 (some .boolean) ∈ lw_g := tg (List.mem_of_getElem? (i := 327) rfl) rfl
abbrev cX2_openBeside : ByteArray := prog_4_method_19_code
def yX2_openBeside : MethodName := ⟨RX2, "openBeside", "(III)I"⟩
def wsX2_openBeside : List Cond := .code yX2_openBeside cX2_openBeside 10 (some .int) :: lw_g
set_option maxRecDepth 20000 in
theorem cmX2_openBeside : Cond.code yX2_openBeside cX2_openBeside 10 (some .int) ∈ lw_g := tg (List.mem_of_getElem? (i := 331) rfl) rfl
abbrev cX4_tankOfPlace : ByteArray := prog_1_method_23_code
def yX4_tankOfPlace : MethodName := ⟨RX4, "tankOfPlace", "(I)I"⟩
def wsX4_tankOfPlace : List Cond := .code yX4_tankOfPlace cX4_tankOfPlace 1 (some .int) :: lw_g
set_option maxRecDepth 20000 in
theorem cmX4_tankOfPlace : Cond.code yX4_tankOfPlace cX4_tankOfPlace 1 (some .int) ∈ lw_g := tg (List.mem_of_getElem? (i := 334) rfl) rfl
abbrev cX4_firstBar : ByteArray := prog_1_method_20_code
def yX4_firstBar : MethodName := ⟨RX4, "firstBar", "()I"⟩
def wsX4_firstBar : List Cond := .code yX4_firstBar cX4_firstBar 2 (some .int) :: lw_g
set_option maxRecDepth 20000 in
theorem cmX4_firstBar : Cond.code yX4_firstBar cX4_firstBar 2 (some .int) ∈ lw_g := tg (List.mem_of_getElem? (i := 338) rfl) rfl
abbrev cX2_findsBest : ByteArray := prog_4_method_13_code
def yX2_findsBest : MethodName := ⟨RX2, "findsBest", "(I)Z"⟩
def wsX2_findsBest : List Cond := .code yX2_findsBest cX2_findsBest 4 (some .boolean) :: lw_g
set_option maxRecDepth 20000 in
theorem cmX2_findsBest : Cond.code yX2_findsBest cX2_findsBest 4 (some .boolean) ∈ lw_g := tg (List.mem_of_getElem? (i := 342) rfl) rfl
abbrev cX2_putBetter : ByteArray := prog_4_method_15_code
def yX2_putBetter : MethodName := ⟨RX2, "putBetter", "(II)V"⟩
def wsX2_putBetter : List Cond := .code yX2_putBetter cX2_putBetter 6 none :: lw_g
set_option maxRecDepth 20000 in
theorem cmX2_putBetter : Cond.code yX2_putBetter cX2_putBetter 6 none ∈ lw_g := tg (List.mem_of_getElem? (i := 346) rfl) rfl
abbrev cX2_leastWeightFrom : ByteArray := prog_4_method_16_code
def yX2_leastWeightFrom : MethodName := ⟨RX2, "leastWeightFrom", "(I)I"⟩
def wsX2_leastWeightFrom : List Cond := .code yX2_leastWeightFrom cX2_leastWeightFrom 4 (some .int) :: lw_g
set_option maxRecDepth 20000 in
theorem cmX2_leastWeightFrom : Cond.code yX2_leastWeightFrom cX2_leastWeightFrom 4 (some .int) ∈ lw_g := tg (List.mem_of_getElem? (i := 350) rfl) rfl
abbrev cX2_weightAt : ByteArray := prog_4_method_17_code
def yX2_weightAt : MethodName := ⟨RX2, "weightAt", "(II)I"⟩
def wsX2_weightAt : List Cond := .code yX2_weightAt cX2_weightAt 5 (some .int) :: lw_g
set_option maxRecDepth 20000 in
theorem cmX2_weightAt : Cond.code yX2_weightAt cX2_weightAt 5 (some .int) ∈ lw_g := tg (List.mem_of_getElem? (i := 354) rfl) rfl
abbrev cJ9_abs : ByteArray := prog_9_method_59_code
def yJ9_abs : MethodName := ⟨RJ9, "abs", "(I)I"⟩
def wsJ9_abs : List Cond := .code yJ9_abs cJ9_abs 1 (some .int) :: lw_g
set_option maxRecDepth 20000 in
theorem cmJ9_abs : Cond.code yJ9_abs cJ9_abs 1 (some .int) ∈ lw_g := tg (List.mem_of_getElem? (i := 357) rfl) rfl
abbrev cX4_adoptFound : ByteArray := prog_1_method_21_code
def yX4_adoptFound : MethodName := ⟨RX4, "adoptFound", "()V"⟩
def wsX4_adoptFound : List Cond := .code yX4_adoptFound cX4_adoptFound 2 none :: lw_g
set_option maxRecDepth 20000 in
theorem cmX4_adoptFound : Cond.code yX4_adoptFound cX4_adoptFound 2 none ∈ lw_g := tg (List.mem_of_getElem? (i := 361) rfl) rfl
abbrev cX3_isFull : ByteArray := prog_5_method_3_code
def yX3_isFull : MethodName := ⟨RX3, "isFull", "()Z"⟩
def wsX3_isFull : List Cond := .code yX3_isFull cX3_isFull 1 (some .boolean) :: lw_g
set_option maxRecDepth 20000 in
theorem cmX3_isFull : Cond.code yX3_isFull cX3_isFull 1 (some .boolean) ∈ lw_g := tg (List.mem_of_getElem? (i := 365) rfl) rfl
abbrev cX3_dropOldest : ByteArray := prog_5_method_6_code
def yX3_dropOldest : MethodName := ⟨RX3, "dropOldest", "()V"⟩
def wsX3_dropOldest : List Cond := .code yX3_dropOldest cX3_dropOldest 1 none :: lw_g
set_option maxRecDepth 20000 in
theorem cmX3_dropOldest : Cond.code yX3_dropOldest cX3_dropOldest 1 none ∈ lw_g := tg (List.mem_of_getElem? (i := 369) rfl) rfl
abbrev cX3_put : ByteArray := prog_5_method_5_code
def yX3_put : MethodName := ⟨RX3, "put", "(LLeastChanges$Batches;)I"⟩
def wsX3_put : List Cond := .code yX3_put cX3_put 2 (some .int) :: lw_g
set_option maxRecDepth 20000 in
theorem cmX3_put : Cond.code yX3_put cX3_put 2 (some .int) ∈ lw_g := tg (List.mem_of_getElem? (i := 374) rfl) rfl
abbrev cX0_setPlaces : ByteArray := prog_2_method_5_code
def yX0_setPlaces : MethodName := ⟨RX0, "setPlaces", "([I)V"⟩
def wsX0_setPlaces : List Cond := .code yX0_setPlaces cX0_setPlaces 2 none :: lw_g
set_option maxRecDepth 20000 in
theorem cmX0_setPlaces : Cond.code yX0_setPlaces cX0_setPlaces 2 none ∈ lw_g := tg (List.mem_of_getElem? (i := 378) rfl) rfl
abbrev cX3_otherPlaces : ByteArray := prog_5_method_8_code
def yX3_otherPlaces : MethodName := ⟨RX3, "otherPlaces", "(ILLeastChanges$Batches;)I"⟩
def wsX3_otherPlaces : List Cond := .code yX3_otherPlaces cX3_otherPlaces 6 (some .int) :: lw_g
set_option maxRecDepth 20000 in
theorem cmX3_otherPlaces : Cond.code yX3_otherPlaces cX3_otherPlaces 6 (some .int) ∈ lw_g := tg (List.mem_of_getElem? (i := 383) rfl) rfl
abbrev cX2_bestChanges : ByteArray := prog_4_method_2_code
def yX2_bestChanges : MethodName := ⟨RX2, "bestChanges", "()I"⟩
def wsX2_bestChanges : List Cond := .code yX2_bestChanges cX2_bestChanges 1 (some .int) :: lw_g
set_option maxRecDepth 20000 in
theorem cmX2_bestChanges : Cond.code yX2_bestChanges cX2_bestChanges 1 (some .int) ∈ lw_g := tg (List.mem_of_getElem? (i := 387) rfl) rfl
abbrev cX2_bestCost : ByteArray := prog_4_method_3_code
def yX2_bestCost : MethodName := ⟨RX2, "bestCost", "()I"⟩
def wsX2_bestCost : List Cond := .code yX2_bestCost cX2_bestCost 1 (some .int) :: lw_g
set_option maxRecDepth 20000 in
theorem cmX2_bestCost : Cond.code yX2_bestCost cX2_bestCost 1 (some .int) ∈ lw_g := tg (List.mem_of_getElem? (i := 391) rfl) rfl
abbrev cX4_tankOf : ByteArray := prog_1_method_8_code
def yX4_tankOf : MethodName := ⟨RX4, "tankOf", "(I)I"⟩
def wsX4_tankOf : List Cond := .code yX4_tankOf cX4_tankOf 2 (some .int) :: lw_g
set_option maxRecDepth 20000 in
theorem cmX4_tankOf : Cond.code yX4_tankOf cX4_tankOf 2 (some .int) ∈ lw_g := tg (List.mem_of_getElem? (i := 395) rfl) rfl
abbrev cX4_start : ByteArray := prog_1_method_9_code
def yX4_start : MethodName := ⟨RX4, "start", "(I)I"⟩
def wsX4_start : List Cond := .code yX4_start cX4_start 2 (some .int) :: lw_g
set_option maxRecDepth 20000 in
theorem cmX4_start : Cond.code yX4_start cX4_start 2 (some .int) ∈ lw_g := tg (List.mem_of_getElem? (i := 400) rfl) rfl
abbrev cX4_changed : ByteArray := prog_1_method_10_code
def yX4_changed : MethodName := ⟨RX4, "changed", "(I)I"⟩
def wsX4_changed : List Cond := .code yX4_changed cX4_changed 2 (some .int) :: lw_g
set_option maxRecDepth 20000 in
theorem cmX4_changed : Cond.code yX4_changed cX4_changed 2 (some .int) ∈ lw_g := tg (List.mem_of_getElem? (i := 404) rfl) rfl
abbrev cX4_memberAt : ByteArray := prog_1_method_22_code
def yX4_memberAt : MethodName := ⟨RX4, "memberAt", "(II)I"⟩
def wsX4_memberAt : List Cond := .code yX4_memberAt cX4_memberAt 4 (some .int) :: lw_g
set_option maxRecDepth 20000 in
theorem cmX4_memberAt : Cond.code yX4_memberAt cX4_memberAt 4 (some .int) ∈ lw_g := tg (List.mem_of_getElem? (i := 407) rfl) rfl
abbrev cX4_bound : ByteArray := prog_1_method_11_code
def yX4_bound : MethodName := ⟨RX4, "bound", "()I"⟩
def wsX4_bound : List Cond := .code yX4_bound cX4_bound 1 (some .int) :: lw_g
set_option maxRecDepth 20000 in
theorem cmX4_bound : Cond.code yX4_bound cX4_bound 1 (some .int) ∈ lw_g := tg (List.mem_of_getElem? (i := 411) rfl) rfl
abbrev cX4_undo : ByteArray := prog_1_method_12_code
def yX4_undo : MethodName := ⟨RX4, "undo", "()Z"⟩
def wsX4_undo : List Cond := .code yX4_undo cX4_undo 1 (some .boolean) :: lw_g
set_option maxRecDepth 20000 in
theorem cmX4_undo : Cond.code yX4_undo cX4_undo 1 (some .boolean) ∈ lw_g := tg (List.mem_of_getElem? (i := 415) rfl) rfl
abbrev cX3_isEmpty : ByteArray := prog_5_method_2_code
def yX3_isEmpty : MethodName := ⟨RX3, "isEmpty", "()Z"⟩
def wsX3_isEmpty : List Cond := .code yX3_isEmpty cX3_isEmpty 1 (some .boolean) :: lw_g
set_option maxRecDepth 20000 in
theorem cmX3_isEmpty : Cond.code yX3_isEmpty cX3_isEmpty 1 (some .boolean) ∈ lw_g := tg (List.mem_of_getElem? (i := 419) rfl) rfl
abbrev cX3_takeNewestInto : ByteArray := prog_5_method_7_code
def yX3_takeNewestInto : MethodName := ⟨RX3, "takeNewestInto", "(LLeastChanges$Batches;)V"⟩
def wsX3_takeNewestInto : List Cond := .code yX3_takeNewestInto cX3_takeNewestInto 2 none :: lw_g
set_option maxRecDepth 20000 in
theorem cmX3_takeNewestInto : Cond.code yX3_takeNewestInto cX3_takeNewestInto 2 none ∈ lw_g := tg (List.mem_of_getElem? (i := 423) rfl) rfl
abbrev cX4_copy : ByteArray := prog_1_method_13_code
def yX4_copy : MethodName := ⟨RX4, "copy", "()I"⟩
def wsX4_copy : List Cond := .code yX4_copy cX4_copy 1 (some .int) :: lw_g
set_option maxRecDepth 20000 in
theorem cmX4_copy : Cond.code yX4_copy cX4_copy 1 (some .int) ∈ lw_g := tg (List.mem_of_getElem? (i := 427) rfl) rfl
abbrev cX4_compare : ByteArray := prog_1_method_14_code
def yX4_compare : MethodName := ⟨RX4, "compare", "(II)I"⟩
def wsX4_compare : List Cond := .code yX4_compare cX4_compare 3 (some .int) :: lw_g
set_option maxRecDepth 20000 in
theorem cmX4_compare : Cond.code yX4_compare cX4_compare 3 (some .int) ∈ lw_g := tg (List.mem_of_getElem? (i := 431) rfl) rfl
abbrev cX3_has : ByteArray := prog_5_method_4_code
def yX3_has : MethodName := ⟨RX3, "has", "(I)Z"⟩
def wsX3_has : List Cond := .code yX3_has cX3_has 2 (some .boolean) :: lw_g
set_option maxRecDepth 20000 in
theorem cmX3_has : Cond.code yX3_has cX3_has 2 (some .boolean) ∈ lw_g := tg (List.mem_of_getElem? (i := 435) rfl) rfl
abbrev cX4_cost : ByteArray := prog_1_method_15_code
def yX4_cost : MethodName := ⟨RX4, "cost", "()J"⟩
def wsX4_cost : List Cond := .code yX4_cost cX4_cost 1 (some .long) :: lw_g
set_option maxRecDepth 20000 in
theorem cmX4_cost : Cond.code yX4_cost cX4_cost 1 (some .long) ∈ lw_g := tg (List.mem_of_getElem? (i := 439) rfl) rfl
abbrev cL_cell : ByteArray := method_2_code
def yL_cell : MethodName := ⟨RL, "cell", "([II)I"⟩
def wsL_cell : List Cond := .code yL_cell cL_cell 2 (some .int) :: lw_g
set_option maxRecDepth 20000 in
theorem cmL_cell : Cond.code yL_cell cL_cell 2 (some .int) ∈ lw_g := tg (List.mem_of_getElem? (i := 442) rfl) rfl
abbrev cX5_init : ByteArray := prog_7_method_1_code
def yX5_init : MethodName := ⟨RX5, "<init>", "(II)V"⟩
def wsX5_init : List Cond := .code yX5_init cX5_init 3 none :: lw_g
set_option maxRecDepth 20000 in
theorem cmX5_init : Cond.code yX5_init cX5_init 3 none ∈ lw_g := tg (List.mem_of_getElem? (i := 447) rfl) rfl
abbrev cX5_batch : ByteArray := prog_7_method_3_code
def yX5_batch : MethodName := ⟨RX5, "batch", "(III)I"⟩
def wsX5_batch : List Cond := .code yX5_batch cX5_batch 4 (some .int) :: lw_g
set_option maxRecDepth 20000 in
theorem cmX5_batch : Cond.code yX5_batch cX5_batch 4 (some .int) ∈ lw_g := tg (List.mem_of_getElem? (i := 555) rfl) rfl
abbrev cX5_rule : ByteArray := prog_7_method_4_code
def yX5_rule : MethodName := ⟨RX5, "rule", "(IIII)Z"⟩
def wsX5_rule : List Cond := .code yX5_rule cX5_rule 6 (some .boolean) :: lw_g
set_option maxRecDepth 20000 in
theorem cmX5_rule : Cond.code yX5_rule cX5_rule 6 (some .boolean) ∈ lw_g := tg (List.mem_of_getElem? (i := 559) rfl) rfl
abbrev cX5_isBatch : ByteArray := prog_7_method_2_code
def yX5_isBatch : MethodName := ⟨RX5, "isBatch", "(I)Z"⟩
def wsX5_isBatch : List Cond := .code yX5_isBatch cX5_isBatch 2 (some .boolean) :: lw_g
set_option maxRecDepth 20000 in
theorem cmX5_isBatch : Cond.code yX5_isBatch cX5_isBatch 2 (some .boolean) ∈ lw_g := tg (List.mem_of_getElem? (i := 563) rfl) rfl
abbrev cX5_freeze : ByteArray := prog_7_method_5_code
def yX5_freeze : MethodName := ⟨RX5, "freeze", "(I)Z"⟩
def wsX5_freeze : List Cond := .code yX5_freeze cX5_freeze 2 (some .boolean) :: lw_g
set_option maxRecDepth 20000 in
theorem cmX5_freeze : Cond.code yX5_freeze cX5_freeze 2 (some .boolean) ∈ lw_g := tg (List.mem_of_getElem? (i := 567) rfl) rfl
abbrev cX5_out : ByteArray := prog_7_method_6_code
def yX5_out : MethodName := ⟨RX5, "out", "(III)Z"⟩
def wsX5_out : List Cond := .code yX5_out cX5_out 4 (some .boolean) :: lw_g
set_option maxRecDepth 20000 in
theorem cmX5_out : Cond.code yX5_out cX5_out 4 (some .boolean) ∈ lw_g := tg (List.mem_of_getElem? (i := 571) rfl) rfl
abbrev cX5_late : ByteArray := prog_7_method_7_code
def yX5_late : MethodName := ⟨RX5, "late", "(II)Z"⟩
def wsX5_late : List Cond := .code yX5_late cX5_late 3 (some .boolean) :: lw_g
set_option maxRecDepth 20000 in
theorem cmX5_late : Cond.code yX5_late cX5_late 3 (some .boolean) ∈ lw_g := tg (List.mem_of_getElem? (i := 575) rfl) rfl
abbrev cX5_run : ByteArray := prog_7_method_13_code
def yX5_run : MethodName := ⟨RX5, "run", "(J)I"⟩
def wsX5_run : List Cond := .code yX5_run cX5_run 4 (some .int) :: lw_g
set_option maxRecDepth 20000 in
theorem cmX5_run : Cond.code yX5_run cX5_run 4 (some .int) ∈ lw_g := tg (List.mem_of_getElem? (i := 579) rfl) rfl
abbrev cX5_search : ByteArray := prog_7_method_12_code
def yX5_search : MethodName := ⟨RX5, "search", "(I)Z"⟩
def wsX5_search : List Cond := .code yX5_search cX5_search 2 (some .boolean) :: lw_g
set_option maxRecDepth 20000 in
theorem cmX5_search : Cond.code yX5_search cX5_search 2 (some .boolean) ∈ lw_g := tg (List.mem_of_getElem? (i := 584) rfl) rfl
abbrev cX5_place : ByteArray := prog_7_method_11_code
def yX5_place : MethodName := ⟨RX5, "place", "(I)V"⟩
def wsX5_place : List Cond := .code yX5_place cX5_place 4 none :: lw_g
set_option maxRecDepth 20000 in
theorem cmX5_place : Cond.code yX5_place cX5_place 4 none ∈ lw_g := tg (List.mem_of_getElem? (i := 588) rfl) rfl
abbrev cX5_judge : ByteArray := prog_7_method_10_code
def yX5_judge : MethodName := ⟨RX5, "judge", "()V"⟩
def wsX5_judge : List Cond := .code yX5_judge cX5_judge 5 none :: lw_g
set_option maxRecDepth 20000 in
theorem cmX5_judge : Cond.code yX5_judge cX5_judge 5 none ∈ lw_g := tg (List.mem_of_getElem? (i := 592) rfl) rfl
abbrev cX5_fits : ByteArray := prog_7_method_8_code
def yX5_fits : MethodName := ⟨RX5, "fits", "(I)Z"⟩
def wsX5_fits : List Cond := .code yX5_fits cX5_fits 7 (some .boolean) :: lw_g
set_option maxRecDepth 20000 in
theorem cmX5_fits : Cond.code yX5_fits cX5_fits 7 (some .boolean) ∈ lw_g := tg (List.mem_of_getElem? (i := 596) rfl) rfl
abbrev cX5_keeps : ByteArray := prog_7_method_9_code
def yX5_keeps : MethodName := ⟨RX5, "keeps", "(II)Z"⟩
def wsX5_keeps : List Cond := .code yX5_keeps cX5_keeps 5 (some .boolean) :: lw_g
set_option maxRecDepth 20000 in
theorem cmX5_keeps : Cond.code yX5_keeps cX5_keeps 5 (some .boolean) ∈ lw_g := tg (List.mem_of_getElem? (i := 600) rfl) rfl
abbrev cX5_keep : ByteArray := prog_7_method_14_code
def yX5_keep : MethodName := ⟨RX5, "keep", "()V"⟩
def wsX5_keep : List Cond := .code yX5_keep cX5_keep 2 none :: lw_g
set_option maxRecDepth 20000 in
theorem cmX5_keep : Cond.code yX5_keep cX5_keep 2 none ∈ lw_g := tg (List.mem_of_getElem? (i := 604) rfl) rfl
abbrev cX5_tankOf : ByteArray := prog_7_method_15_code
def yX5_tankOf : MethodName := ⟨RX5, "tankOf", "(I)I"⟩
def wsX5_tankOf : List Cond := .code yX5_tankOf cX5_tankOf 2 (some .int) :: lw_g
set_option maxRecDepth 20000 in
theorem cmX5_tankOf : Cond.code yX5_tankOf cX5_tankOf 2 (some .int) ∈ lw_g := tg (List.mem_of_getElem? (i := 608) rfl) rfl
abbrev cX5_start : ByteArray := prog_7_method_16_code
def yX5_start : MethodName := ⟨RX5, "start", "(I)I"⟩
def wsX5_start : List Cond := .code yX5_start cX5_start 2 (some .int) :: lw_g
set_option maxRecDepth 20000 in
theorem cmX5_start : Cond.code yX5_start cX5_start 2 (some .int) ∈ lw_g := tg (List.mem_of_getElem? (i := 612) rfl) rfl
abbrev cX5_changed : ByteArray := prog_7_method_17_code
def yX5_changed : MethodName := ⟨RX5, "changed", "(I)I"⟩
def wsX5_changed : List Cond := .code yX5_changed cX5_changed 4 (some .int) :: lw_g
set_option maxRecDepth 20000 in
theorem cmX5_changed : Cond.code yX5_changed cX5_changed 4 (some .int) ∈ lw_g := tg (List.mem_of_getElem? (i := 616) rfl) rfl
abbrev cX5_bound : ByteArray := prog_7_method_18_code
def yX5_bound : MethodName := ⟨RX5, "bound", "()I"⟩
def wsX5_bound : List Cond := .code yX5_bound cX5_bound 1 (some .int) :: lw_g
set_option maxRecDepth 20000 in
theorem cmX5_bound : Cond.code yX5_bound cX5_bound 1 (some .int) ∈ lw_g := tg (List.mem_of_getElem? (i := 620) rfl) rfl
abbrev cX5_cost : ByteArray := prog_7_method_19_code
def yX5_cost : MethodName := ⟨RX5, "cost", "()J"⟩
def wsX5_cost : List Cond := .code yX5_cost cX5_cost 1 (some .long) :: lw_g
set_option maxRecDepth 20000 in
theorem cmX5_cost : Cond.code yX5_cost cX5_cost 1 (some .long) ∈ lw_g := tg (List.mem_of_getElem? (i := 624) rfl) rfl
abbrev cX5_undo : ByteArray := prog_7_method_20_code
def yX5_undo : MethodName := ⟨RX5, "undo", "()Z"⟩
def wsX5_undo : List Cond := .code yX5_undo cX5_undo 2 (some .boolean) :: lw_g
set_option maxRecDepth 20000 in
theorem cmX5_undo : Cond.code yX5_undo cX5_undo 2 (some .boolean) ∈ lw_g := tg (List.mem_of_getElem? (i := 628) rfl) rfl
abbrev cX5_copy : ByteArray := prog_7_method_21_code
def yX5_copy : MethodName := ⟨RX5, "copy", "()I"⟩
def wsX5_copy : List Cond := .code yX5_copy cX5_copy 2 (some .int) :: lw_g
set_option maxRecDepth 20000 in
theorem cmX5_copy : Cond.code yX5_copy cX5_copy 2 (some .int) ∈ lw_g := tg (List.mem_of_getElem? (i := 632) rfl) rfl
abbrev cX5_compare : ByteArray := prog_7_method_22_code
def yX5_compare : MethodName := ⟨RX5, "compare", "(II)I"⟩
def wsX5_compare : List Cond := .code yX5_compare cX5_compare 6 (some .int) :: lw_g
set_option maxRecDepth 20000 in
theorem cmX5_compare : Cond.code yX5_compare cX5_compare 6 (some .int) ∈ lw_g := tg (List.mem_of_getElem? (i := 636) rfl) rfl
abbrev cL_law : ByteArray := code
def yL_law : MethodName := ⟨RL, "law", "([I)Z"⟩
/-- a method's words are among any other's, and among the law's -/
theorem tbl_in {c d : Cond} (h : d ∈ lw_g) : GoodIn (c :: lw_g) (d :: lw_g) := fun w hw => (List.mem_cons.mp hw).elim (fun e => by subst e; exact ⟨List.mem_cons_of_mem _ h, good_of_word (List.mem_filter.mp h).2⟩) (fun q => ⟨List.mem_cons_of_mem _ q, good_of_word (List.mem_filter.mp q).2⟩)
theorem tbl_inL {d : Cond} (h : d ∈ lw_g) : GoodIn lw_g (d :: lw_g) := fun w hw => (List.mem_cons.mp hw).elim (fun e => by subst e; exact ⟨h, good_of_word (List.mem_filter.mp h).2⟩) (fun q => ⟨q, good_of_word (List.mem_filter.mp q).2⟩)
-- words, by their places
set_option maxRecDepth 20000 in
theorem tin_L : Cond.initialized RL ∈ lw_g := tg (List.mem_of_getElem? (i := 20) rfl) rfl
set_option maxRecDepth 20000 in
theorem tin_X4 : Cond.initialized RX4 ∈ lw_g := tg (List.mem_of_getElem? (i := 21) rfl) rfl
set_option maxRecDepth 20000 in
theorem tin_X0 : Cond.initialized RX0 ∈ lw_g := tg (List.mem_of_getElem? (i := 22) rfl) rfl
set_option maxRecDepth 20000 in
theorem tin_X1 : Cond.initialized RX1 ∈ lw_g := tg (List.mem_of_getElem? (i := 23) rfl) rfl
set_option maxRecDepth 20000 in
theorem tin_X2 : Cond.initialized RX2 ∈ lw_g := tg (List.mem_of_getElem? (i := 24) rfl) rfl
set_option maxRecDepth 20000 in
theorem tin_X3 : Cond.initialized RX3 ∈ lw_g := tg (List.mem_of_getElem? (i := 25) rfl) rfl
set_option maxRecDepth 20000 in
theorem tin_J9 : Cond.initialized RJ9 ∈ lw_g := tg (List.mem_of_getElem? (i := 26) rfl) rfl
set_option maxRecDepth 20000 in
theorem tin_X5 : Cond.initialized RX5 ∈ lw_g := tg (List.mem_of_getElem? (i := 27) rfl) rfl
set_option maxRecDepth 20000 in
theorem tin_J7 : Cond.initialized RJ7 ∈ lw_g := tg (List.mem_of_getElem? (i := 28) rfl) rfl
set_option maxRecDepth 20000 in
theorem tin_J10 : Cond.initialized RJ10 ∈ lw_g := tg (List.mem_of_getElem? (i := 29) rfl) rfl
set_option maxRecDepth 20000 in
theorem tin_J6 : Cond.initialized RJ6 ∈ lw_g := tg (List.mem_of_getElem? (i := 30) rfl) rfl
set_option maxRecDepth 20000 in
theorem tcl_L_7 : Cond.classLink RL 7 RX4 ∈ lw_g := tg (List.mem_of_getElem? (i := 31) rfl) rfl
set_option maxRecDepth 20000 in
theorem tinst_X4 : Cond.instantiable RX4 12 ∈ lw_g := tg (List.mem_of_getElem? (i := 32) rfl) rfl
set_option maxRecDepth 20000 in
theorem tm_L_15 : Cond.methodLink RL 15 yX4_init ∈ lw_g := tg (List.mem_of_getElem? (i := 33) rfl) rfl
set_option maxRecDepth 20000 in
theorem ti_X4_init : Cond.instanceMethod yX4_init ∈ lw_g := tg (List.mem_of_getElem? (i := 34) rfl) rfl
set_option maxRecDepth 20000 in
theorem tm_X4_3 : Cond.methodLink RX4 3 objectInit ∈ lw_g := tg (List.mem_of_getElem? (i := 36) rfl) rfl
set_option maxRecDepth 20000 in
theorem ti_obj : Cond.instanceMethod objectInit ∈ lw_g := tg (List.mem_of_getElem? (i := 37) rfl) rfl
set_option maxRecDepth 20000 in
theorem tcl_X4_9 : Cond.classLink RX4 9 RX0 ∈ lw_g := tg (List.mem_of_getElem? (i := 39) rfl) rfl
set_option maxRecDepth 20000 in
theorem tinst_X0 : Cond.instantiable RX0 5 ∈ lw_g := tg (List.mem_of_getElem? (i := 40) rfl) rfl
set_option maxRecDepth 20000 in
theorem tn_X4_11 : Cond.methodLinkNest RX4 11 yX0_init "LeastChanges" ∈ lw_tbl := List.mem_of_getElem? (i := 41) rfl
set_option maxRecDepth 20000 in
theorem ti_X0_init : Cond.instanceMethod yX0_init ∈ lw_g := tg (List.mem_of_getElem? (i := 42) rfl) rfl
set_option maxRecDepth 20000 in
theorem tm_X0_3 : Cond.methodLink RX0 3 objectInit ∈ lw_g := tg (List.mem_of_getElem? (i := 44) rfl) rfl
set_option maxRecDepth 20000 in
theorem tf_X0_9 : Cond.fieldLink RX0 9 "LeastChanges$Batches" "lengths" "[I" ∈ lw_g := tg (List.mem_of_getElem? (i := 45) rfl) rfl
set_option maxRecDepth 20000 in
theorem tf_X2_46 : Cond.fieldLink RX2 46 "LeastChanges$Batches" "lengths" "[I" ∈ lw_g := tg (List.mem_of_getElem? (i := 46) rfl) rfl
set_option maxRecDepth 20000 in
theorem tf_X0_15 : Cond.fieldLink RX0 15 "LeastChanges$Batches" "places" "[I" ∈ lw_g := tg (List.mem_of_getElem? (i := 47) rfl) rfl
set_option maxRecDepth 20000 in
theorem tf_X2_58 : Cond.fieldLink RX2 58 "LeastChanges$Batches" "places" "[I" ∈ lw_g := tg (List.mem_of_getElem? (i := 48) rfl) rfl
set_option maxRecDepth 20000 in
theorem tf_X3_34 : Cond.fieldLink RX3 34 "LeastChanges$Batches" "places" "[I" ∈ lw_g := tg (List.mem_of_getElem? (i := 49) rfl) rfl
set_option maxRecDepth 20000 in
theorem tf_X4_104 : Cond.fieldLink RX4 104 "LeastChanges$Batches" "places" "[I" ∈ lw_g := tg (List.mem_of_getElem? (i := 50) rfl) rfl
set_option maxRecDepth 20000 in
theorem tf_X0_18 : Cond.fieldLink RX0 18 "LeastChanges$Batches" "earliest" "[I" ∈ lw_g := tg (List.mem_of_getElem? (i := 51) rfl) rfl
set_option maxRecDepth 20000 in
theorem tf_X2_47 : Cond.fieldLink RX2 47 "LeastChanges$Batches" "earliest" "[I" ∈ lw_g := tg (List.mem_of_getElem? (i := 52) rfl) rfl
set_option maxRecDepth 20000 in
theorem tf_X4_100 : Cond.fieldLink RX4 100 "LeastChanges$Batches" "earliest" "[I" ∈ lw_g := tg (List.mem_of_getElem? (i := 53) rfl) rfl
set_option maxRecDepth 20000 in
theorem tf_X0_21 : Cond.fieldLink RX0 21 "LeastChanges$Batches" "frozen" "[Z" ∈ lw_g := tg (List.mem_of_getElem? (i := 54) rfl) rfl
set_option maxRecDepth 20000 in
theorem tf_X4_84 : Cond.fieldLink RX4 84 "LeastChanges$Batches" "frozen" "[Z" ∈ lw_g := tg (List.mem_of_getElem? (i := 55) rfl) rfl
set_option maxRecDepth 20000 in
theorem tf_X2_61 : Cond.fieldLink RX2 61 "LeastChanges$Batches" "frozen" "[Z" ∈ lw_g := tg (List.mem_of_getElem? (i := 56) rfl) rfl
set_option maxRecDepth 20000 in
theorem tf_X0_25 : Cond.fieldLink RX0 25 "LeastChanges$Batches" "count" "I" ∈ lw_g := tg (List.mem_of_getElem? (i := 57) rfl) rfl
set_option maxRecDepth 20000 in
theorem tf_X2_40 : Cond.fieldLink RX2 40 "LeastChanges$Batches" "count" "I" ∈ lw_g := tg (List.mem_of_getElem? (i := 58) rfl) rfl
set_option maxRecDepth 20000 in
theorem tf_X3_31 : Cond.fieldLink RX3 31 "LeastChanges$Batches" "count" "I" ∈ lw_g := tg (List.mem_of_getElem? (i := 59) rfl) rfl
set_option maxRecDepth 20000 in
theorem ta_int : Cond.arrayClass .int ∈ lw_g := tg (List.mem_of_getElem? (i := 71) rfl) rfl
set_option maxRecDepth 20000 in
theorem ta_boolean : Cond.arrayClass .boolean ∈ lw_g := tg (List.mem_of_getElem? (i := 72) rfl) rfl
set_option maxRecDepth 20000 in
theorem tcl_X4_16 : Cond.classLink RX4 16 RX1 ∈ lw_g := tg (List.mem_of_getElem? (i := 73) rfl) rfl
set_option maxRecDepth 20000 in
theorem tinst_X1 : Cond.instantiable RX1 5 ∈ lw_g := tg (List.mem_of_getElem? (i := 74) rfl) rfl
set_option maxRecDepth 20000 in
theorem tn_X4_18 : Cond.methodLinkNest RX4 18 yX1_init "LeastChanges" ∈ lw_tbl := List.mem_of_getElem? (i := 75) rfl
set_option maxRecDepth 20000 in
theorem ti_X1_init : Cond.instanceMethod yX1_init ∈ lw_g := tg (List.mem_of_getElem? (i := 76) rfl) rfl
set_option maxRecDepth 20000 in
theorem tm_X1_3 : Cond.methodLink RX1 3 objectInit ∈ lw_g := tg (List.mem_of_getElem? (i := 78) rfl) rfl
set_option maxRecDepth 20000 in
theorem tf_X1_9 : Cond.fieldLink RX1 9 "LeastChanges$Rules" "kinds" "[I" ∈ lw_g := tg (List.mem_of_getElem? (i := 79) rfl) rfl
set_option maxRecDepth 20000 in
theorem tf_X2_84 : Cond.fieldLink RX2 84 "LeastChanges$Rules" "kinds" "[I" ∈ lw_g := tg (List.mem_of_getElem? (i := 80) rfl) rfl
set_option maxRecDepth 20000 in
theorem tf_X1_15 : Cond.fieldLink RX1 15 "LeastChanges$Rules" "firsts" "[I" ∈ lw_g := tg (List.mem_of_getElem? (i := 81) rfl) rfl
set_option maxRecDepth 20000 in
theorem tf_X2_87 : Cond.fieldLink RX2 87 "LeastChanges$Rules" "firsts" "[I" ∈ lw_g := tg (List.mem_of_getElem? (i := 82) rfl) rfl
set_option maxRecDepth 20000 in
theorem tf_X1_18 : Cond.fieldLink RX1 18 "LeastChanges$Rules" "seconds" "[I" ∈ lw_g := tg (List.mem_of_getElem? (i := 83) rfl) rfl
set_option maxRecDepth 20000 in
theorem tf_X2_90 : Cond.fieldLink RX2 90 "LeastChanges$Rules" "seconds" "[I" ∈ lw_g := tg (List.mem_of_getElem? (i := 84) rfl) rfl
set_option maxRecDepth 20000 in
theorem tf_X1_21 : Cond.fieldLink RX1 21 "LeastChanges$Rules" "numbers" "[I" ∈ lw_g := tg (List.mem_of_getElem? (i := 85) rfl) rfl
set_option maxRecDepth 20000 in
theorem tf_X2_93 : Cond.fieldLink RX2 93 "LeastChanges$Rules" "numbers" "[I" ∈ lw_g := tg (List.mem_of_getElem? (i := 86) rfl) rfl
set_option maxRecDepth 20000 in
theorem tf_X1_24 : Cond.fieldLink RX1 24 "LeastChanges$Rules" "count" "I" ∈ lw_g := tg (List.mem_of_getElem? (i := 87) rfl) rfl
set_option maxRecDepth 20000 in
theorem tf_X2_81 : Cond.fieldLink RX2 81 "LeastChanges$Rules" "count" "I" ∈ lw_g := tg (List.mem_of_getElem? (i := 88) rfl) rfl
set_option maxRecDepth 20000 in
theorem tf_X4_167 : Cond.fieldLink RX4 167 "LeastChanges$Rules" "count" "I" ∈ lw_g := tg (List.mem_of_getElem? (i := 89) rfl) rfl
set_option maxRecDepth 20000 in
theorem tcl_X4_23 : Cond.classLink RX4 23 RX2 ∈ lw_g := tg (List.mem_of_getElem? (i := 101) rfl) rfl
set_option maxRecDepth 20000 in
theorem tinst_X2 : Cond.instantiable RX2 10 ∈ lw_g := tg (List.mem_of_getElem? (i := 102) rfl) rfl
set_option maxRecDepth 20000 in
theorem tn_X4_25 : Cond.methodLinkNest RX4 25 yX2_init "LeastChanges" ∈ lw_tbl := List.mem_of_getElem? (i := 103) rfl
set_option maxRecDepth 20000 in
theorem ti_X2_init : Cond.instanceMethod yX2_init ∈ lw_g := tg (List.mem_of_getElem? (i := 104) rfl) rfl
set_option maxRecDepth 20000 in
theorem tm_X2_3 : Cond.methodLink RX2 3 objectInit ∈ lw_g := tg (List.mem_of_getElem? (i := 106) rfl) rfl
set_option maxRecDepth 20000 in
theorem tf_X2_9 : Cond.fieldLink RX2 9 "LeastChanges$Search" "best" "[I" ∈ lw_g := tg (List.mem_of_getElem? (i := 107) rfl) rfl
set_option maxRecDepth 20000 in
theorem tf_X4_173 : Cond.fieldLink RX4 173 "LeastChanges$Search" "best" "[I" ∈ lw_g := tg (List.mem_of_getElem? (i := 108) rfl) rfl
set_option maxRecDepth 20000 in
theorem tf_X2_15 : Cond.fieldLink RX2 15 "LeastChanges$Search" "lengths" "[I" ∈ lw_g := tg (List.mem_of_getElem? (i := 109) rfl) rfl
set_option maxRecDepth 20000 in
theorem tf_X2_18 : Cond.fieldLink RX2 18 "LeastChanges$Search" "homes" "[I" ∈ lw_g := tg (List.mem_of_getElem? (i := 110) rfl) rfl
set_option maxRecDepth 20000 in
theorem tf_X2_21 : Cond.fieldLink RX2 21 "LeastChanges$Search" "free" "[I" ∈ lw_g := tg (List.mem_of_getElem? (i := 111) rfl) rfl
set_option maxRecDepth 20000 in
theorem tf_X2_24 : Cond.fieldLink RX2 24 "LeastChanges$Search" "lags" "[I" ∈ lw_g := tg (List.mem_of_getElem? (i := 112) rfl) rfl
set_option maxRecDepth 20000 in
theorem tf_X2_27 : Cond.fieldLink RX2 27 "LeastChanges$Search" "apart" "[I" ∈ lw_g := tg (List.mem_of_getElem? (i := 113) rfl) rfl
set_option maxRecDepth 20000 in
theorem tf_X2_30 : Cond.fieldLink RX2 30 "LeastChanges$Search" "open" "[I" ∈ lw_g := tg (List.mem_of_getElem? (i := 114) rfl) rfl
set_option maxRecDepth 20000 in
theorem tf_X2_33 : Cond.fieldLink RX2 33 "LeastChanges$Search" "tried" "[I" ∈ lw_g := tg (List.mem_of_getElem? (i := 115) rfl) rfl
set_option maxRecDepth 20000 in
theorem tf_X2_45 : Cond.fieldLink RX2 45 "LeastChanges$Search" "count" "I" ∈ lw_g := tg (List.mem_of_getElem? (i := 116) rfl) rfl
set_option maxRecDepth 20000 in
theorem tf_X2_36 : Cond.fieldLink RX2 36 "LeastChanges$Search" "bestWeight" "I" ∈ lw_g := tg (List.mem_of_getElem? (i := 117) rfl) rfl
set_option maxRecDepth 20000 in
theorem tcl_X4_30 : Cond.classLink RX4 30 RX3 ∈ lw_g := tg (List.mem_of_getElem? (i := 139) rfl) rfl
set_option maxRecDepth 20000 in
theorem tinst_X3 : Cond.instantiable RX3 4 ∈ lw_g := tg (List.mem_of_getElem? (i := 140) rfl) rfl
set_option maxRecDepth 20000 in
theorem tm_X4_32 : Cond.methodLink RX4 32 yX3_init ∈ lw_g := tg (List.mem_of_getElem? (i := 141) rfl) rfl
set_option maxRecDepth 20000 in
theorem ti_X3_init : Cond.instanceMethod yX3_init ∈ lw_g := tg (List.mem_of_getElem? (i := 142) rfl) rfl
set_option maxRecDepth 20000 in
theorem tm_X3_3 : Cond.methodLink RX3 3 objectInit ∈ lw_g := tg (List.mem_of_getElem? (i := 144) rfl) rfl
set_option maxRecDepth 20000 in
theorem tm_X3_9 : Cond.methodLink RX3 9 Lib.Math.max.name ∈ lw_g := tg (List.mem_of_getElem? (i := 145) rfl) rfl
set_option maxRecDepth 20000 in
theorem ts_J9_max : Cond.static Lib.Math.max.name ∈ lw_g := tg (List.mem_of_getElem? (i := 146) rfl) rfl
set_option maxRecDepth 20000 in
theorem tf_X3_15 : Cond.fieldLink RX3 15 "LeastChanges$Shelf" "room" "I" ∈ lw_g := tg (List.mem_of_getElem? (i := 148) rfl) rfl
set_option maxRecDepth 20000 in
theorem tf_X3_21 : Cond.fieldLink RX3 21 "LeastChanges$Shelf" "sizes" "[I" ∈ lw_g := tg (List.mem_of_getElem? (i := 149) rfl) rfl
set_option maxRecDepth 20000 in
theorem tf_X3_25 : Cond.fieldLink RX3 25 "LeastChanges$Shelf" "places" "[I" ∈ lw_g := tg (List.mem_of_getElem? (i := 150) rfl) rfl
set_option maxRecDepth 20000 in
theorem tf_X3_28 : Cond.fieldLink RX3 28 "LeastChanges$Shelf" "count" "I" ∈ lw_g := tg (List.mem_of_getElem? (i := 151) rfl) rfl
set_option maxRecDepth 20000 in
theorem tm_X4_42 : Cond.methodLink RX4 42 Lib.Math.min.name ∈ lw_g := tg (List.mem_of_getElem? (i := 161) rfl) rfl
set_option maxRecDepth 20000 in
theorem ts_J9_min : Cond.static Lib.Math.min.name ∈ lw_g := tg (List.mem_of_getElem? (i := 162) rfl) rfl
set_option maxRecDepth 20000 in
theorem tm_X4_48 : Cond.methodLink RX4 48 Lib.Math.max.name ∈ lw_g := tg (List.mem_of_getElem? (i := 164) rfl) rfl
set_option maxRecDepth 20000 in
theorem tf_X4_51 : Cond.fieldLink RX4 51 "LeastChanges" "tanks" "I" ∈ lw_g := tg (List.mem_of_getElem? (i := 165) rfl) rfl
set_option maxRecDepth 20000 in
theorem tf_X4_55 : Cond.fieldLink RX4 55 "LeastChanges" "days" "I" ∈ lw_g := tg (List.mem_of_getElem? (i := 166) rfl) rfl
set_option maxRecDepth 20000 in
theorem tf_X4_12 : Cond.fieldLink RX4 12 "LeastChanges" "batches" "LLeastChanges$Batches;" ∈ lw_g := tg (List.mem_of_getElem? (i := 167) rfl) rfl
set_option maxRecDepth 20000 in
theorem tf_X4_19 : Cond.fieldLink RX4 19 "LeastChanges" "rules" "LLeastChanges$Rules;" ∈ lw_g := tg (List.mem_of_getElem? (i := 168) rfl) rfl
set_option maxRecDepth 20000 in
theorem tf_X4_26 : Cond.fieldLink RX4 26 "LeastChanges" "search" "LLeastChanges$Search;" ∈ lw_g := tg (List.mem_of_getElem? (i := 169) rfl) rfl
set_option maxRecDepth 20000 in
theorem tf_X4_35 : Cond.fieldLink RX4 35 "LeastChanges" "before" "LLeastChanges$Shelf;" ∈ lw_g := tg (List.mem_of_getElem? (i := 170) rfl) rfl
set_option maxRecDepth 20000 in
theorem tf_X4_39 : Cond.fieldLink RX4 39 "LeastChanges" "copies" "LLeastChanges$Shelf;" ∈ lw_g := tg (List.mem_of_getElem? (i := 171) rfl) rfl
set_option maxRecDepth 20000 in
theorem tf_X4_88 : Cond.fieldLink RX4 88 "LeastChanges" "outs" "I" ∈ lw_g := tg (List.mem_of_getElem? (i := 172) rfl) rfl
set_option maxRecDepth 20000 in
theorem tf_X4_91 : Cond.fieldLink RX4 91 "LeastChanges" "shutDays" "I" ∈ lw_g := tg (List.mem_of_getElem? (i := 173) rfl) rfl
set_option maxRecDepth 20000 in
theorem tf_X4_140 : Cond.fieldLink RX4 140 "LeastChanges" "changedSet" "I" ∈ lw_g := tg (List.mem_of_getElem? (i := 174) rfl) rfl
set_option maxRecDepth 20000 in
theorem tf_X4_124 : Cond.fieldLink RX4 124 "LeastChanges" "leastChanged" "I" ∈ lw_g := tg (List.mem_of_getElem? (i := 175) rfl) rfl
set_option maxRecDepth 20000 in
theorem tf_X4_163 : Cond.fieldLink RX4 163 "LeastChanges" "lastCost" "J" ∈ lw_g := tg (List.mem_of_getElem? (i := 176) rfl) rfl
set_option maxRecDepth 20000 in
theorem tm_L_21 : Cond.methodLink RL 21 yX4_batch ∈ lw_g := tg (List.mem_of_getElem? (i := 202) rfl) rfl
set_option maxRecDepth 20000 in
theorem ti_X4_batch : Cond.instanceMethod yX4_batch ∈ lw_g := tg (List.mem_of_getElem? (i := 203) rfl) rfl
set_option maxRecDepth 20000 in
theorem tse_X4_batch : Cond.selects RX4 yX4_batch yX4_batch ∈ lw_g := tg (List.mem_of_getElem? (i := 204) rfl) rfl
set_option maxRecDepth 20000 in
theorem tm_X4_58 : Cond.methodLink RX4 58 yX4_isTank ∈ lw_g := tg (List.mem_of_getElem? (i := 206) rfl) rfl
set_option maxRecDepth 20000 in
theorem ti_X4_isTank : Cond.instanceMethod yX4_isTank ∈ lw_g := tg (List.mem_of_getElem? (i := 208) rfl) rfl
set_option maxRecDepth 20000 in
theorem tm_X4_62 : Cond.methodLink RX4 62 yX4_isWithinDays ∈ lw_g := tg (List.mem_of_getElem? (i := 210) rfl) rfl
set_option maxRecDepth 20000 in
theorem ti_X4_isWithinDays : Cond.instanceMethod yX4_isWithinDays ∈ lw_g := tg (List.mem_of_getElem? (i := 212) rfl) rfl
set_option maxRecDepth 20000 in
theorem tm_X4_66 : Cond.methodLink RX4 66 yX0_isFull ∈ lw_g := tg (List.mem_of_getElem? (i := 214) rfl) rfl
set_option maxRecDepth 20000 in
theorem ti_X0_isFull : Cond.instanceMethod yX0_isFull ∈ lw_g := tg (List.mem_of_getElem? (i := 215) rfl) rfl
set_option maxRecDepth 20000 in
theorem tse_X0_isFull : Cond.selects RX0 yX0_isFull yX0_isFull ∈ lw_g := tg (List.mem_of_getElem? (i := 216) rfl) rfl
set_option maxRecDepth 20000 in
theorem tm_X4_70 : Cond.methodLink RX4 70 yX0_add ∈ lw_g := tg (List.mem_of_getElem? (i := 218) rfl) rfl
set_option maxRecDepth 20000 in
theorem ti_X0_add : Cond.instanceMethod yX0_add ∈ lw_g := tg (List.mem_of_getElem? (i := 219) rfl) rfl
set_option maxRecDepth 20000 in
theorem tse_X0_add : Cond.selects RX0 yX0_add yX0_add ∈ lw_g := tg (List.mem_of_getElem? (i := 220) rfl) rfl
set_option maxRecDepth 20000 in
theorem tm_L_26 : Cond.methodLink RL 26 yX4_rule ∈ lw_g := tg (List.mem_of_getElem? (i := 222) rfl) rfl
set_option maxRecDepth 20000 in
theorem ti_X4_rule : Cond.instanceMethod yX4_rule ∈ lw_g := tg (List.mem_of_getElem? (i := 223) rfl) rfl
set_option maxRecDepth 20000 in
theorem tse_X4_rule : Cond.selects RX4 yX4_rule yX4_rule ∈ lw_g := tg (List.mem_of_getElem? (i := 224) rfl) rfl
set_option maxRecDepth 20000 in
theorem tm_X4_73 : Cond.methodLink RX4 73 yX4_isRule ∈ lw_g := tg (List.mem_of_getElem? (i := 226) rfl) rfl
set_option maxRecDepth 20000 in
theorem ti_X4_isRule : Cond.instanceMethod yX4_isRule ∈ lw_g := tg (List.mem_of_getElem? (i := 228) rfl) rfl
set_option maxRecDepth 20000 in
theorem tm_X4_81 : Cond.methodLink RX4 81 yX0_has ∈ lw_g := tg (List.mem_of_getElem? (i := 230) rfl) rfl
set_option maxRecDepth 20000 in
theorem ti_X0_has : Cond.instanceMethod yX0_has ∈ lw_g := tg (List.mem_of_getElem? (i := 231) rfl) rfl
set_option maxRecDepth 20000 in
theorem tse_X0_has : Cond.selects RX0 yX0_has yX0_has ∈ lw_g := tg (List.mem_of_getElem? (i := 232) rfl) rfl
set_option maxRecDepth 20000 in
theorem tm_X4_97 : Cond.methodLink RX4 97 yX4_isNumber ∈ lw_g := tg (List.mem_of_getElem? (i := 234) rfl) rfl
set_option maxRecDepth 20000 in
theorem ts_X4_isNumber : Cond.static yX4_isNumber ∈ lw_g := tg (List.mem_of_getElem? (i := 235) rfl) rfl
set_option maxRecDepth 20000 in
theorem tm_X4_77 : Cond.methodLink RX4 77 yX1_isFull ∈ lw_g := tg (List.mem_of_getElem? (i := 237) rfl) rfl
set_option maxRecDepth 20000 in
theorem ti_X1_isFull : Cond.instanceMethod yX1_isFull ∈ lw_g := tg (List.mem_of_getElem? (i := 238) rfl) rfl
set_option maxRecDepth 20000 in
theorem tse_X1_isFull : Cond.selects RX1 yX1_isFull yX1_isFull ∈ lw_g := tg (List.mem_of_getElem? (i := 239) rfl) rfl
set_option maxRecDepth 20000 in
theorem tm_X4_78 : Cond.methodLink RX4 78 yX1_add ∈ lw_g := tg (List.mem_of_getElem? (i := 241) rfl) rfl
set_option maxRecDepth 20000 in
theorem ti_X1_add : Cond.instanceMethod yX1_add ∈ lw_g := tg (List.mem_of_getElem? (i := 242) rfl) rfl
set_option maxRecDepth 20000 in
theorem tse_X1_add : Cond.selects RX1 yX1_add yX1_add ∈ lw_g := tg (List.mem_of_getElem? (i := 243) rfl) rfl
set_option maxRecDepth 20000 in
theorem tm_L_31 : Cond.methodLink RL 31 yX4_freeze ∈ lw_g := tg (List.mem_of_getElem? (i := 245) rfl) rfl
set_option maxRecDepth 20000 in
theorem ti_X4_freeze : Cond.instanceMethod yX4_freeze ∈ lw_g := tg (List.mem_of_getElem? (i := 246) rfl) rfl
set_option maxRecDepth 20000 in
theorem tse_X4_freeze : Cond.selects RX4 yX4_freeze yX4_freeze ∈ lw_g := tg (List.mem_of_getElem? (i := 247) rfl) rfl
set_option maxRecDepth 20000 in
theorem tm_L_36 : Cond.methodLink RL 36 yX4_out ∈ lw_g := tg (List.mem_of_getElem? (i := 249) rfl) rfl
set_option maxRecDepth 20000 in
theorem ti_X4_out : Cond.instanceMethod yX4_out ∈ lw_g := tg (List.mem_of_getElem? (i := 250) rfl) rfl
set_option maxRecDepth 20000 in
theorem tse_X4_out : Cond.selects RX4 yX4_out yX4_out ∈ lw_g := tg (List.mem_of_getElem? (i := 251) rfl) rfl
set_option maxRecDepth 20000 in
theorem tm_X4_94 : Cond.methodLink RX4 94 yX4_daysFromTo ∈ lw_g := tg (List.mem_of_getElem? (i := 253) rfl) rfl
set_option maxRecDepth 20000 in
theorem ts_X4_daysFromTo : Cond.static yX4_daysFromTo ∈ lw_g := tg (List.mem_of_getElem? (i := 254) rfl) rfl
set_option maxRecDepth 20000 in
theorem tm_L_41 : Cond.methodLink RL 41 yX4_late ∈ lw_g := tg (List.mem_of_getElem? (i := 256) rfl) rfl
set_option maxRecDepth 20000 in
theorem ti_X4_late : Cond.instanceMethod yX4_late ∈ lw_g := tg (List.mem_of_getElem? (i := 257) rfl) rfl
set_option maxRecDepth 20000 in
theorem tse_X4_late : Cond.selects RX4 yX4_late yX4_late ∈ lw_g := tg (List.mem_of_getElem? (i := 258) rfl) rfl
set_option maxRecDepth 20000 in
theorem tm_X4_107 : Cond.methodLink RX4 107 yX4_startOfPlace ∈ lw_g := tg (List.mem_of_getElem? (i := 260) rfl) rfl
set_option maxRecDepth 20000 in
theorem ts_X4_startOfPlace : Cond.static yX4_startOfPlace ∈ lw_g := tg (List.mem_of_getElem? (i := 261) rfl) rfl
set_option maxRecDepth 20000 in
theorem tm_L_48 : Cond.methodLink RL 48 yX4_run ∈ lw_g := tg (List.mem_of_getElem? (i := 263) rfl) rfl
set_option maxRecDepth 20000 in
theorem ti_X4_run : Cond.instanceMethod yX4_run ∈ lw_g := tg (List.mem_of_getElem? (i := 264) rfl) rfl
set_option maxRecDepth 20000 in
theorem tse_X4_run : Cond.selects RX4 yX4_run yX4_run ∈ lw_g := tg (List.mem_of_getElem? (i := 265) rfl) rfl
set_option maxRecDepth 20000 in
theorem tcl64_X4_111 : Cond.constantLong RX4 111 4 ∈ lw_g := tg (List.mem_of_getElem? (i := 267) rfl) rfl
set_option maxRecDepth 20000 in
theorem tm_X4_113 : Cond.methodLink RX4 113 yX2_load ∈ lw_g := tg (List.mem_of_getElem? (i := 268) rfl) rfl
set_option maxRecDepth 20000 in
theorem ti_X2_load : Cond.instanceMethod yX2_load ∈ lw_g := tg (List.mem_of_getElem? (i := 269) rfl) rfl
set_option maxRecDepth 20000 in
theorem tse_X2_load : Cond.selects RX2 yX2_load yX2_load ∈ lw_g := tg (List.mem_of_getElem? (i := 270) rfl) rfl
set_option maxRecDepth 20000 in
theorem tn_X2_50 : Cond.methodLinkNest RX2 50 yX4_daysFromTo "LeastChanges" ∈ lw_tbl := List.mem_of_getElem? (i := 272) rfl
set_option maxRecDepth 20000 in
theorem tm_X2_54 : Cond.methodLink RX2 54 yX2_freePlaces ∈ lw_g := tg (List.mem_of_getElem? (i := 273) rfl) rfl
set_option maxRecDepth 20000 in
theorem ts_X2_freePlaces : Cond.static yX2_freePlaces ∈ lw_g := tg (List.mem_of_getElem? (i := 274) rfl) rfl
set_option maxRecDepth 20000 in
theorem tn_X2_65 : Cond.methodLinkNest RX2 65 yX4_startOfPlace "LeastChanges" ∈ lw_tbl := List.mem_of_getElem? (i := 276) rfl
set_option maxRecDepth 20000 in
theorem tm_X4_117 : Cond.methodLink RX4 117 yX2_take ∈ lw_g := tg (List.mem_of_getElem? (i := 277) rfl) rfl
set_option maxRecDepth 20000 in
theorem ti_X2_take : Cond.instanceMethod yX2_take ∈ lw_g := tg (List.mem_of_getElem? (i := 278) rfl) rfl
set_option maxRecDepth 20000 in
theorem tse_X2_take : Cond.selects RX2 yX2_take yX2_take ∈ lw_g := tg (List.mem_of_getElem? (i := 279) rfl) rfl
set_option maxRecDepth 20000 in
theorem tm_X2_69 : Cond.methodLink RX2 69 yJ7_fill ∈ lw_g := tg (List.mem_of_getElem? (i := 281) rfl) rfl
set_option maxRecDepth 20000 in
theorem ts_J7_fill : Cond.static yJ7_fill ∈ lw_g := tg (List.mem_of_getElem? (i := 282) rfl) rfl
set_option maxRecDepth 20000 in
theorem tm_X2_75 : Cond.methodLink RX2 75 arraycopyName ∈ lw_g := tg (List.mem_of_getElem? (i := 284) rfl) rfl
set_option maxRecDepth 20000 in
theorem ts_J10_arraycopy : Cond.static arraycopyName ∈ lw_g := tg (List.mem_of_getElem? (i := 285) rfl) rfl
set_option maxRecDepth 20000 in
theorem tnat_J10_arraycopy : Cond.native arraycopyName ∈ lw_g := tg (List.mem_of_getElem? (i := 286) rfl) rfl
set_option maxRecDepth 20000 in
theorem tm_X2_96 : Cond.methodLink RX2 96 yX2_takeOne ∈ lw_g := tg (List.mem_of_getElem? (i := 287) rfl) rfl
set_option maxRecDepth 20000 in
theorem ti_X2_takeOne : Cond.instanceMethod yX2_takeOne ∈ lw_g := tg (List.mem_of_getElem? (i := 289) rfl) rfl
set_option maxRecDepth 20000 in
theorem tm_X2_103 : Cond.methodLink RX2 103 Lib.Math.max.name ∈ lw_g := tg (List.mem_of_getElem? (i := 291) rfl) rfl
set_option maxRecDepth 20000 in
theorem tm_X2_108 : Cond.methodLink RX2 108 yX2_inEveryTank ∈ lw_g := tg (List.mem_of_getElem? (i := 292) rfl) rfl
set_option maxRecDepth 20000 in
theorem ts_X2_inEveryTank : Cond.static yX2_inEveryTank ∈ lw_g := tg (List.mem_of_getElem? (i := 293) rfl) rfl
set_option maxRecDepth 20000 in
theorem tc_X2_156 : Cond.constant RX2 156 1049601 ∈ lw_g := tg (List.mem_of_getElem? (i := 295) rfl) rfl
set_option maxRecDepth 20000 in
theorem tm_X2_100 : Cond.methodLink RX2 100 yX2_closeByLags ∈ lw_g := tg (List.mem_of_getElem? (i := 296) rfl) rfl
set_option maxRecDepth 20000 in
theorem ti_X2_closeByLags : Cond.instanceMethod yX2_closeByLags ∈ lw_g := tg (List.mem_of_getElem? (i := 298) rfl) rfl
set_option maxRecDepth 20000 in
theorem tm_X2_111 : Cond.methodLink RX2 111 yX2_firstStart ∈ lw_g := tg (List.mem_of_getElem? (i := 300) rfl) rfl
set_option maxRecDepth 20000 in
theorem ts_X2_firstStart : Cond.static yX2_firstStart ∈ lw_g := tg (List.mem_of_getElem? (i := 301) rfl) rfl
set_option maxRecDepth 20000 in
theorem tm_X2_117 : Cond.methodLink RX2 117 yX2_startsIn ∈ lw_g := tg (List.mem_of_getElem? (i := 303) rfl) rfl
set_option maxRecDepth 20000 in
theorem ts_X2_startsIn : Cond.static yX2_startsIn ∈ lw_g := tg (List.mem_of_getElem? (i := 304) rfl) rfl
set_option maxRecDepth 20000 in
theorem tm_X2_120 : Cond.methodLink RX2 120 yJ6_numberOfTrailingZeros ∈ lw_g := tg (List.mem_of_getElem? (i := 306) rfl) rfl
set_option maxRecDepth 20000 in
theorem ts_J6_numberOfTrailingZeros : Cond.static yJ6_numberOfTrailingZeros ∈ lw_g := tg (List.mem_of_getElem? (i := 307) rfl) rfl
set_option maxRecDepth 20000 in
theorem tc_J6_264 : Cond.constant RJ6 264 65536 ∈ lw_g := tg (List.mem_of_getElem? (i := 309) rfl) rfl
set_option maxRecDepth 20000 in
theorem tm_X2_114 : Cond.methodLink RX2 114 yX2_lastStart ∈ lw_g := tg (List.mem_of_getElem? (i := 310) rfl) rfl
set_option maxRecDepth 20000 in
theorem ts_X2_lastStart : Cond.static yX2_lastStart ∈ lw_g := tg (List.mem_of_getElem? (i := 311) rfl) rfl
set_option maxRecDepth 20000 in
theorem tm_X2_125 : Cond.methodLink RX2 125 yJ6_numberOfLeadingZeros ∈ lw_g := tg (List.mem_of_getElem? (i := 313) rfl) rfl
set_option maxRecDepth 20000 in
theorem ts_J6_numberOfLeadingZeros : Cond.static yJ6_numberOfLeadingZeros ∈ lw_g := tg (List.mem_of_getElem? (i := 314) rfl) rfl
set_option maxRecDepth 20000 in
theorem tm_X4_121 : Cond.methodLink RX4 121 yX2_findsAny ∈ lw_g := tg (List.mem_of_getElem? (i := 316) rfl) rfl
set_option maxRecDepth 20000 in
theorem ti_X2_findsAny : Cond.instanceMethod yX2_findsAny ∈ lw_g := tg (List.mem_of_getElem? (i := 317) rfl) rfl
set_option maxRecDepth 20000 in
theorem tse_X2_findsAny : Cond.selects RX2 yX2_findsAny yX2_findsAny ∈ lw_g := tg (List.mem_of_getElem? (i := 318) rfl) rfl
set_option maxRecDepth 20000 in
theorem tm_X2_128 : Cond.methodLink RX2 128 yX2_canPutFrom ∈ lw_g := tg (List.mem_of_getElem? (i := 320) rfl) rfl
set_option maxRecDepth 20000 in
theorem ti_X2_canPutFrom : Cond.instanceMethod yX2_canPutFrom ∈ lw_g := tg (List.mem_of_getElem? (i := 322) rfl) rfl
set_option maxRecDepth 20000 in
theorem tm_X2_136 : Cond.methodLink RX2 136 yX2_leavesRoom ∈ lw_g := tg (List.mem_of_getElem? (i := 324) rfl) rfl
set_option maxRecDepth 20000 in
theorem ti_X2_leavesRoom : Cond.instanceMethod yX2_leavesRoom ∈ lw_g := tg (List.mem_of_getElem? (i := 326) rfl) rfl
set_option maxRecDepth 20000 in
theorem tm_X2_152 : Cond.methodLink RX2 152 yX2_openBeside ∈ lw_g := tg (List.mem_of_getElem? (i := 328) rfl) rfl
set_option maxRecDepth 20000 in
theorem ti_X2_openBeside : Cond.instanceMethod yX2_openBeside ∈ lw_g := tg (List.mem_of_getElem? (i := 330) rfl) rfl
set_option maxRecDepth 20000 in
theorem tn_X2_149 : Cond.methodLinkNest RX2 149 yX4_tankOfPlace "LeastChanges" ∈ lw_tbl := List.mem_of_getElem? (i := 332) rfl
set_option maxRecDepth 20000 in
theorem ts_X4_tankOfPlace : Cond.static yX4_tankOfPlace ∈ lw_g := tg (List.mem_of_getElem? (i := 333) rfl) rfl
set_option maxRecDepth 20000 in
theorem tm_X4_127 : Cond.methodLink RX4 127 yX4_firstBar ∈ lw_g := tg (List.mem_of_getElem? (i := 335) rfl) rfl
set_option maxRecDepth 20000 in
theorem ti_X4_firstBar : Cond.instanceMethod yX4_firstBar ∈ lw_g := tg (List.mem_of_getElem? (i := 337) rfl) rfl
set_option maxRecDepth 20000 in
theorem tm_X4_131 : Cond.methodLink RX4 131 yX2_findsBest ∈ lw_g := tg (List.mem_of_getElem? (i := 339) rfl) rfl
set_option maxRecDepth 20000 in
theorem ti_X2_findsBest : Cond.instanceMethod yX2_findsBest ∈ lw_g := tg (List.mem_of_getElem? (i := 340) rfl) rfl
set_option maxRecDepth 20000 in
theorem tse_X2_findsBest : Cond.selects RX2 yX2_findsBest yX2_findsBest ∈ lw_g := tg (List.mem_of_getElem? (i := 341) rfl) rfl
set_option maxRecDepth 20000 in
theorem tm_X2_132 : Cond.methodLink RX2 132 yX2_putBetter ∈ lw_g := tg (List.mem_of_getElem? (i := 343) rfl) rfl
set_option maxRecDepth 20000 in
theorem ti_X2_putBetter : Cond.instanceMethod yX2_putBetter ∈ lw_g := tg (List.mem_of_getElem? (i := 345) rfl) rfl
set_option maxRecDepth 20000 in
theorem tm_X2_140 : Cond.methodLink RX2 140 yX2_leastWeightFrom ∈ lw_g := tg (List.mem_of_getElem? (i := 347) rfl) rfl
set_option maxRecDepth 20000 in
theorem ti_X2_leastWeightFrom : Cond.instanceMethod yX2_leastWeightFrom ∈ lw_g := tg (List.mem_of_getElem? (i := 349) rfl) rfl
set_option maxRecDepth 20000 in
theorem tm_X2_143 : Cond.methodLink RX2 143 yX2_weightAt ∈ lw_g := tg (List.mem_of_getElem? (i := 351) rfl) rfl
set_option maxRecDepth 20000 in
theorem ti_X2_weightAt : Cond.instanceMethod yX2_weightAt ∈ lw_g := tg (List.mem_of_getElem? (i := 353) rfl) rfl
set_option maxRecDepth 20000 in
theorem tm_X2_146 : Cond.methodLink RX2 146 Lib.Math.abs.name ∈ lw_g := tg (List.mem_of_getElem? (i := 355) rfl) rfl
set_option maxRecDepth 20000 in
theorem ts_J9_abs : Cond.static Lib.Math.abs.name ∈ lw_g := tg (List.mem_of_getElem? (i := 356) rfl) rfl
set_option maxRecDepth 20000 in
theorem tm_X4_134 : Cond.methodLink RX4 134 yX4_adoptFound ∈ lw_g := tg (List.mem_of_getElem? (i := 358) rfl) rfl
set_option maxRecDepth 20000 in
theorem ti_X4_adoptFound : Cond.instanceMethod yX4_adoptFound ∈ lw_g := tg (List.mem_of_getElem? (i := 360) rfl) rfl
set_option maxRecDepth 20000 in
theorem tm_X4_153 : Cond.methodLink RX4 153 yX3_isFull ∈ lw_g := tg (List.mem_of_getElem? (i := 362) rfl) rfl
set_option maxRecDepth 20000 in
theorem ti_X3_isFull : Cond.instanceMethod yX3_isFull ∈ lw_g := tg (List.mem_of_getElem? (i := 363) rfl) rfl
set_option maxRecDepth 20000 in
theorem tse_X3_isFull : Cond.selects RX3 yX3_isFull yX3_isFull ∈ lw_g := tg (List.mem_of_getElem? (i := 364) rfl) rfl
set_option maxRecDepth 20000 in
theorem tm_X4_170 : Cond.methodLink RX4 170 yX3_dropOldest ∈ lw_g := tg (List.mem_of_getElem? (i := 366) rfl) rfl
set_option maxRecDepth 20000 in
theorem ti_X3_dropOldest : Cond.instanceMethod yX3_dropOldest ∈ lw_g := tg (List.mem_of_getElem? (i := 367) rfl) rfl
set_option maxRecDepth 20000 in
theorem tse_X3_dropOldest : Cond.selects RX3 yX3_dropOldest yX3_dropOldest ∈ lw_g := tg (List.mem_of_getElem? (i := 368) rfl) rfl
set_option maxRecDepth 20000 in
theorem tm_X3_35 : Cond.methodLink RX3 35 arraycopyName ∈ lw_g := tg (List.mem_of_getElem? (i := 370) rfl) rfl
set_option maxRecDepth 20000 in
theorem tm_X4_154 : Cond.methodLink RX4 154 yX3_put ∈ lw_g := tg (List.mem_of_getElem? (i := 371) rfl) rfl
set_option maxRecDepth 20000 in
theorem ti_X3_put : Cond.instanceMethod yX3_put ∈ lw_g := tg (List.mem_of_getElem? (i := 372) rfl) rfl
set_option maxRecDepth 20000 in
theorem tse_X3_put : Cond.selects RX3 yX3_put yX3_put ∈ lw_g := tg (List.mem_of_getElem? (i := 373) rfl) rfl
set_option maxRecDepth 20000 in
theorem tm_X4_176 : Cond.methodLink RX4 176 yX0_setPlaces ∈ lw_g := tg (List.mem_of_getElem? (i := 375) rfl) rfl
set_option maxRecDepth 20000 in
theorem ti_X0_setPlaces : Cond.instanceMethod yX0_setPlaces ∈ lw_g := tg (List.mem_of_getElem? (i := 376) rfl) rfl
set_option maxRecDepth 20000 in
theorem tse_X0_setPlaces : Cond.selects RX0 yX0_setPlaces yX0_setPlaces ∈ lw_g := tg (List.mem_of_getElem? (i := 377) rfl) rfl
set_option maxRecDepth 20000 in
theorem tm_X0_29 : Cond.methodLink RX0 29 arraycopyName ∈ lw_g := tg (List.mem_of_getElem? (i := 379) rfl) rfl
set_option maxRecDepth 20000 in
theorem tm_X4_159 : Cond.methodLink RX4 159 yX3_otherPlaces ∈ lw_g := tg (List.mem_of_getElem? (i := 380) rfl) rfl
set_option maxRecDepth 20000 in
theorem ti_X3_otherPlaces : Cond.instanceMethod yX3_otherPlaces ∈ lw_g := tg (List.mem_of_getElem? (i := 381) rfl) rfl
set_option maxRecDepth 20000 in
theorem tse_X3_otherPlaces : Cond.selects RX3 yX3_otherPlaces yX3_otherPlaces ∈ lw_g := tg (List.mem_of_getElem? (i := 382) rfl) rfl
set_option maxRecDepth 20000 in
theorem tm_X4_180 : Cond.methodLink RX4 180 yX2_bestChanges ∈ lw_g := tg (List.mem_of_getElem? (i := 384) rfl) rfl
set_option maxRecDepth 20000 in
theorem ti_X2_bestChanges : Cond.instanceMethod yX2_bestChanges ∈ lw_g := tg (List.mem_of_getElem? (i := 385) rfl) rfl
set_option maxRecDepth 20000 in
theorem tse_X2_bestChanges : Cond.selects RX2 yX2_bestChanges yX2_bestChanges ∈ lw_g := tg (List.mem_of_getElem? (i := 386) rfl) rfl
set_option maxRecDepth 20000 in
theorem tm_X4_183 : Cond.methodLink RX4 183 yX2_bestCost ∈ lw_g := tg (List.mem_of_getElem? (i := 388) rfl) rfl
set_option maxRecDepth 20000 in
theorem ti_X2_bestCost : Cond.instanceMethod yX2_bestCost ∈ lw_g := tg (List.mem_of_getElem? (i := 389) rfl) rfl
set_option maxRecDepth 20000 in
theorem tse_X2_bestCost : Cond.selects RX2 yX2_bestCost yX2_bestCost ∈ lw_g := tg (List.mem_of_getElem? (i := 390) rfl) rfl
set_option maxRecDepth 20000 in
theorem tm_L_53 : Cond.methodLink RL 53 yX4_tankOf ∈ lw_g := tg (List.mem_of_getElem? (i := 392) rfl) rfl
set_option maxRecDepth 20000 in
theorem ti_X4_tankOf : Cond.instanceMethod yX4_tankOf ∈ lw_g := tg (List.mem_of_getElem? (i := 393) rfl) rfl
set_option maxRecDepth 20000 in
theorem tse_X4_tankOf : Cond.selects RX4 yX4_tankOf yX4_tankOf ∈ lw_g := tg (List.mem_of_getElem? (i := 394) rfl) rfl
set_option maxRecDepth 20000 in
theorem tm_X4_137 : Cond.methodLink RX4 137 yX4_tankOfPlace ∈ lw_g := tg (List.mem_of_getElem? (i := 396) rfl) rfl
set_option maxRecDepth 20000 in
theorem tm_L_58 : Cond.methodLink RL 58 yX4_start ∈ lw_g := tg (List.mem_of_getElem? (i := 397) rfl) rfl
set_option maxRecDepth 20000 in
theorem ti_X4_start : Cond.instanceMethod yX4_start ∈ lw_g := tg (List.mem_of_getElem? (i := 398) rfl) rfl
set_option maxRecDepth 20000 in
theorem tse_X4_start : Cond.selects RX4 yX4_start yX4_start ∈ lw_g := tg (List.mem_of_getElem? (i := 399) rfl) rfl
set_option maxRecDepth 20000 in
theorem tm_L_62 : Cond.methodLink RL 62 yX4_changed ∈ lw_g := tg (List.mem_of_getElem? (i := 401) rfl) rfl
set_option maxRecDepth 20000 in
theorem ti_X4_changed : Cond.instanceMethod yX4_changed ∈ lw_g := tg (List.mem_of_getElem? (i := 402) rfl) rfl
set_option maxRecDepth 20000 in
theorem tse_X4_changed : Cond.selects RX4 yX4_changed yX4_changed ∈ lw_g := tg (List.mem_of_getElem? (i := 403) rfl) rfl
set_option maxRecDepth 20000 in
theorem tm_X4_143 : Cond.methodLink RX4 143 yX4_memberAt ∈ lw_g := tg (List.mem_of_getElem? (i := 405) rfl) rfl
set_option maxRecDepth 20000 in
theorem ts_X4_memberAt : Cond.static yX4_memberAt ∈ lw_g := tg (List.mem_of_getElem? (i := 406) rfl) rfl
set_option maxRecDepth 20000 in
theorem tm_L_66 : Cond.methodLink RL 66 yX4_bound ∈ lw_g := tg (List.mem_of_getElem? (i := 408) rfl) rfl
set_option maxRecDepth 20000 in
theorem ti_X4_bound : Cond.instanceMethod yX4_bound ∈ lw_g := tg (List.mem_of_getElem? (i := 409) rfl) rfl
set_option maxRecDepth 20000 in
theorem tse_X4_bound : Cond.selects RX4 yX4_bound yX4_bound ∈ lw_g := tg (List.mem_of_getElem? (i := 410) rfl) rfl
set_option maxRecDepth 20000 in
theorem tm_L_71 : Cond.methodLink RL 71 yX4_undo ∈ lw_g := tg (List.mem_of_getElem? (i := 412) rfl) rfl
set_option maxRecDepth 20000 in
theorem ti_X4_undo : Cond.instanceMethod yX4_undo ∈ lw_g := tg (List.mem_of_getElem? (i := 413) rfl) rfl
set_option maxRecDepth 20000 in
theorem tse_X4_undo : Cond.selects RX4 yX4_undo yX4_undo ∈ lw_g := tg (List.mem_of_getElem? (i := 414) rfl) rfl
set_option maxRecDepth 20000 in
theorem tm_X4_146 : Cond.methodLink RX4 146 yX3_isEmpty ∈ lw_g := tg (List.mem_of_getElem? (i := 416) rfl) rfl
set_option maxRecDepth 20000 in
theorem ti_X3_isEmpty : Cond.instanceMethod yX3_isEmpty ∈ lw_g := tg (List.mem_of_getElem? (i := 417) rfl) rfl
set_option maxRecDepth 20000 in
theorem tse_X3_isEmpty : Cond.selects RX3 yX3_isEmpty yX3_isEmpty ∈ lw_g := tg (List.mem_of_getElem? (i := 418) rfl) rfl
set_option maxRecDepth 20000 in
theorem tm_X4_149 : Cond.methodLink RX4 149 yX3_takeNewestInto ∈ lw_g := tg (List.mem_of_getElem? (i := 420) rfl) rfl
set_option maxRecDepth 20000 in
theorem ti_X3_takeNewestInto : Cond.instanceMethod yX3_takeNewestInto ∈ lw_g := tg (List.mem_of_getElem? (i := 421) rfl) rfl
set_option maxRecDepth 20000 in
theorem tse_X3_takeNewestInto : Cond.selects RX3 yX3_takeNewestInto yX3_takeNewestInto ∈ lw_g := tg (List.mem_of_getElem? (i := 422) rfl) rfl
set_option maxRecDepth 20000 in
theorem tm_L_76 : Cond.methodLink RL 76 yX4_copy ∈ lw_g := tg (List.mem_of_getElem? (i := 424) rfl) rfl
set_option maxRecDepth 20000 in
theorem ti_X4_copy : Cond.instanceMethod yX4_copy ∈ lw_g := tg (List.mem_of_getElem? (i := 425) rfl) rfl
set_option maxRecDepth 20000 in
theorem tse_X4_copy : Cond.selects RX4 yX4_copy yX4_copy ∈ lw_g := tg (List.mem_of_getElem? (i := 426) rfl) rfl
set_option maxRecDepth 20000 in
theorem tm_L_80 : Cond.methodLink RL 80 yX4_compare ∈ lw_g := tg (List.mem_of_getElem? (i := 428) rfl) rfl
set_option maxRecDepth 20000 in
theorem ti_X4_compare : Cond.instanceMethod yX4_compare ∈ lw_g := tg (List.mem_of_getElem? (i := 429) rfl) rfl
set_option maxRecDepth 20000 in
theorem tse_X4_compare : Cond.selects RX4 yX4_compare yX4_compare ∈ lw_g := tg (List.mem_of_getElem? (i := 430) rfl) rfl
set_option maxRecDepth 20000 in
theorem tm_X4_158 : Cond.methodLink RX4 158 yX3_has ∈ lw_g := tg (List.mem_of_getElem? (i := 432) rfl) rfl
set_option maxRecDepth 20000 in
theorem ti_X3_has : Cond.instanceMethod yX3_has ∈ lw_g := tg (List.mem_of_getElem? (i := 433) rfl) rfl
set_option maxRecDepth 20000 in
theorem tse_X3_has : Cond.selects RX3 yX3_has yX3_has ∈ lw_g := tg (List.mem_of_getElem? (i := 434) rfl) rfl
set_option maxRecDepth 20000 in
theorem tm_L_85 : Cond.methodLink RL 85 yX4_cost ∈ lw_g := tg (List.mem_of_getElem? (i := 436) rfl) rfl
set_option maxRecDepth 20000 in
theorem ti_X4_cost : Cond.instanceMethod yX4_cost ∈ lw_g := tg (List.mem_of_getElem? (i := 437) rfl) rfl
set_option maxRecDepth 20000 in
theorem tse_X4_cost : Cond.selects RX4 yX4_cost yX4_cost ∈ lw_g := tg (List.mem_of_getElem? (i := 438) rfl) rfl
set_option maxRecDepth 20000 in
theorem tm_L_9 : Cond.methodLink RL 9 yL_cell ∈ lw_g := tg (List.mem_of_getElem? (i := 440) rfl) rfl
set_option maxRecDepth 20000 in
theorem ts_L_cell : Cond.static yL_cell ∈ lw_g := tg (List.mem_of_getElem? (i := 441) rfl) rfl
set_option maxRecDepth 20000 in
theorem tcl_L_18 : Cond.classLink RL 18 RX5 ∈ lw_g := tg (List.mem_of_getElem? (i := 443) rfl) rfl
set_option maxRecDepth 20000 in
theorem tinst_X5 : Cond.instantiable RX5 34 ∈ lw_g := tg (List.mem_of_getElem? (i := 444) rfl) rfl
set_option maxRecDepth 20000 in
theorem tm_L_20 : Cond.methodLink RL 20 yX5_init ∈ lw_g := tg (List.mem_of_getElem? (i := 445) rfl) rfl
set_option maxRecDepth 20000 in
theorem ti_X5_init : Cond.instanceMethod yX5_init ∈ lw_g := tg (List.mem_of_getElem? (i := 446) rfl) rfl
set_option maxRecDepth 20000 in
theorem tm_X5_1 : Cond.methodLink RX5 1 objectInit ∈ lw_g := tg (List.mem_of_getElem? (i := 448) rfl) rfl
set_option maxRecDepth 20000 in
theorem tf_X5_74 : Cond.fieldLink RX5 74 "LeastChangesModel" "tanks" "I" ∈ lw_g := tg (List.mem_of_getElem? (i := 449) rfl) rfl
set_option maxRecDepth 20000 in
theorem tf_X5_78 : Cond.fieldLink RX5 78 "LeastChangesModel" "days" "I" ∈ lw_g := tg (List.mem_of_getElem? (i := 450) rfl) rfl
set_option maxRecDepth 20000 in
theorem tf_X5_7 : Cond.fieldLink RX5 7 "LeastChangesModel" "length" "[I" ∈ lw_g := tg (List.mem_of_getElem? (i := 451) rfl) rfl
set_option maxRecDepth 20000 in
theorem tf_X5_13 : Cond.fieldLink RX5 13 "LeastChangesModel" "tank" "[I" ∈ lw_g := tg (List.mem_of_getElem? (i := 452) rfl) rfl
set_option maxRecDepth 20000 in
theorem tf_X5_16 : Cond.fieldLink RX5 16 "LeastChangesModel" "start" "[I" ∈ lw_g := tg (List.mem_of_getElem? (i := 453) rfl) rfl
set_option maxRecDepth 20000 in
theorem tf_X5_19 : Cond.fieldLink RX5 19 "LeastChangesModel" "earliest" "[I" ∈ lw_g := tg (List.mem_of_getElem? (i := 454) rfl) rfl
set_option maxRecDepth 20000 in
theorem tf_X5_22 : Cond.fieldLink RX5 22 "LeastChangesModel" "frozen" "[Z" ∈ lw_g := tg (List.mem_of_getElem? (i := 455) rfl) rfl
set_option maxRecDepth 20000 in
theorem tf_X5_81 : Cond.fieldLink RX5 81 "LeastChangesModel" "batches" "I" ∈ lw_g := tg (List.mem_of_getElem? (i := 456) rfl) rfl
set_option maxRecDepth 20000 in
theorem tf_X5_26 : Cond.fieldLink RX5 26 "LeastChangesModel" "ruleKind" "[I" ∈ lw_g := tg (List.mem_of_getElem? (i := 457) rfl) rfl
set_option maxRecDepth 20000 in
theorem tf_X5_29 : Cond.fieldLink RX5 29 "LeastChangesModel" "ruleA" "[I" ∈ lw_g := tg (List.mem_of_getElem? (i := 458) rfl) rfl
set_option maxRecDepth 20000 in
theorem tf_X5_32 : Cond.fieldLink RX5 32 "LeastChangesModel" "ruleB" "[I" ∈ lw_g := tg (List.mem_of_getElem? (i := 459) rfl) rfl
set_option maxRecDepth 20000 in
theorem tf_X5_35 : Cond.fieldLink RX5 35 "LeastChangesModel" "ruleDays" "[I" ∈ lw_g := tg (List.mem_of_getElem? (i := 460) rfl) rfl
set_option maxRecDepth 20000 in
theorem tf_X5_88 : Cond.fieldLink RX5 88 "LeastChangesModel" "rules" "I" ∈ lw_g := tg (List.mem_of_getElem? (i := 461) rfl) rfl
set_option maxRecDepth 20000 in
theorem tf_X5_38 : Cond.fieldLink RX5 38 "LeastChangesModel" "outTank" "[I" ∈ lw_g := tg (List.mem_of_getElem? (i := 462) rfl) rfl
set_option maxRecDepth 20000 in
theorem tf_X5_41 : Cond.fieldLink RX5 41 "LeastChangesModel" "outFrom" "[I" ∈ lw_g := tg (List.mem_of_getElem? (i := 463) rfl) rfl
set_option maxRecDepth 20000 in
theorem tf_X5_44 : Cond.fieldLink RX5 44 "LeastChangesModel" "outTo" "[I" ∈ lw_g := tg (List.mem_of_getElem? (i := 464) rfl) rfl
set_option maxRecDepth 20000 in
theorem tf_X5_91 : Cond.fieldLink RX5 91 "LeastChangesModel" "outs" "I" ∈ lw_g := tg (List.mem_of_getElem? (i := 465) rfl) rfl
set_option maxRecDepth 20000 in
theorem tf_X5_47 : Cond.fieldLink RX5 47 "LeastChangesModel" "undoSize" "[I" ∈ lw_g := tg (List.mem_of_getElem? (i := 466) rfl) rfl
set_option maxRecDepth 20000 in
theorem tf_X5_50 : Cond.fieldLink RX5 50 "LeastChangesModel" "undoPlan" "[I" ∈ lw_g := tg (List.mem_of_getElem? (i := 467) rfl) rfl
set_option maxRecDepth 20000 in
theorem tf_X5_136 : Cond.fieldLink RX5 136 "LeastChangesModel" "undos" "I" ∈ lw_g := tg (List.mem_of_getElem? (i := 468) rfl) rfl
set_option maxRecDepth 20000 in
theorem tf_X5_53 : Cond.fieldLink RX5 53 "LeastChangesModel" "copySize" "[I" ∈ lw_g := tg (List.mem_of_getElem? (i := 469) rfl) rfl
set_option maxRecDepth 20000 in
theorem tf_X5_56 : Cond.fieldLink RX5 56 "LeastChangesModel" "copyPlan" "[I" ∈ lw_g := tg (List.mem_of_getElem? (i := 470) rfl) rfl
set_option maxRecDepth 20000 in
theorem tf_X5_139 : Cond.fieldLink RX5 139 "LeastChangesModel" "copies" "I" ∈ lw_g := tg (List.mem_of_getElem? (i := 471) rfl) rfl
set_option maxRecDepth 20000 in
theorem tf_X5_59 : Cond.fieldLink RX5 59 "LeastChangesModel" "tryTank" "[I" ∈ lw_g := tg (List.mem_of_getElem? (i := 472) rfl) rfl
set_option maxRecDepth 20000 in
theorem tf_X5_62 : Cond.fieldLink RX5 62 "LeastChangesModel" "tryStart" "[I" ∈ lw_g := tg (List.mem_of_getElem? (i := 473) rfl) rfl
set_option maxRecDepth 20000 in
theorem tf_X5_65 : Cond.fieldLink RX5 65 "LeastChangesModel" "bestTank" "[I" ∈ lw_g := tg (List.mem_of_getElem? (i := 474) rfl) rfl
set_option maxRecDepth 20000 in
theorem tf_X5_68 : Cond.fieldLink RX5 68 "LeastChangesModel" "bestStart" "[I" ∈ lw_g := tg (List.mem_of_getElem? (i := 475) rfl) rfl
set_option maxRecDepth 20000 in
theorem tf_X5_105 : Cond.fieldLink RX5 105 "LeastChangesModel" "bestChanged" "I" ∈ lw_g := tg (List.mem_of_getElem? (i := 476) rfl) rfl
set_option maxRecDepth 20000 in
theorem tf_X5_108 : Cond.fieldLink RX5 108 "LeastChangesModel" "bestCost" "I" ∈ lw_g := tg (List.mem_of_getElem? (i := 477) rfl) rfl
set_option maxRecDepth 20000 in
theorem tf_X5_101 : Cond.fieldLink RX5 101 "LeastChangesModel" "there" "Z" ∈ lw_g := tg (List.mem_of_getElem? (i := 478) rfl) rfl
set_option maxRecDepth 20000 in
theorem tf_X5_94 : Cond.fieldLink RX5 94 "LeastChangesModel" "without" "I" ∈ lw_g := tg (List.mem_of_getElem? (i := 479) rfl) rfl
set_option maxRecDepth 20000 in
theorem tf_X5_71 : Cond.fieldLink RX5 71 "LeastChangesModel" "wasChanged" "[Z" ∈ lw_g := tg (List.mem_of_getElem? (i := 480) rfl) rfl
set_option maxRecDepth 20000 in
theorem tf_X5_126 : Cond.fieldLink RX5 126 "LeastChangesModel" "bound" "I" ∈ lw_g := tg (List.mem_of_getElem? (i := 481) rfl) rfl
set_option maxRecDepth 20000 in
theorem tf_X5_132 : Cond.fieldLink RX5 132 "LeastChangesModel" "cost" "J" ∈ lw_g := tg (List.mem_of_getElem? (i := 482) rfl) rfl
set_option maxRecDepth 20000 in
theorem tm_L_25 : Cond.methodLink RL 25 yX5_batch ∈ lw_g := tg (List.mem_of_getElem? (i := 552) rfl) rfl
set_option maxRecDepth 20000 in
theorem ti_X5_batch : Cond.instanceMethod yX5_batch ∈ lw_g := tg (List.mem_of_getElem? (i := 553) rfl) rfl
set_option maxRecDepth 20000 in
theorem tse_X5_batch : Cond.selects RX5 yX5_batch yX5_batch ∈ lw_g := tg (List.mem_of_getElem? (i := 554) rfl) rfl
set_option maxRecDepth 20000 in
theorem tm_L_30 : Cond.methodLink RL 30 yX5_rule ∈ lw_g := tg (List.mem_of_getElem? (i := 556) rfl) rfl
set_option maxRecDepth 20000 in
theorem ti_X5_rule : Cond.instanceMethod yX5_rule ∈ lw_g := tg (List.mem_of_getElem? (i := 557) rfl) rfl
set_option maxRecDepth 20000 in
theorem tse_X5_rule : Cond.selects RX5 yX5_rule yX5_rule ∈ lw_g := tg (List.mem_of_getElem? (i := 558) rfl) rfl
set_option maxRecDepth 20000 in
theorem tm_X5_84 : Cond.methodLink RX5 84 yX5_isBatch ∈ lw_g := tg (List.mem_of_getElem? (i := 560) rfl) rfl
set_option maxRecDepth 20000 in
theorem ti_X5_isBatch : Cond.instanceMethod yX5_isBatch ∈ lw_g := tg (List.mem_of_getElem? (i := 562) rfl) rfl
set_option maxRecDepth 20000 in
theorem tm_L_35 : Cond.methodLink RL 35 yX5_freeze ∈ lw_g := tg (List.mem_of_getElem? (i := 564) rfl) rfl
set_option maxRecDepth 20000 in
theorem ti_X5_freeze : Cond.instanceMethod yX5_freeze ∈ lw_g := tg (List.mem_of_getElem? (i := 565) rfl) rfl
set_option maxRecDepth 20000 in
theorem tse_X5_freeze : Cond.selects RX5 yX5_freeze yX5_freeze ∈ lw_g := tg (List.mem_of_getElem? (i := 566) rfl) rfl
set_option maxRecDepth 20000 in
theorem tm_L_40 : Cond.methodLink RL 40 yX5_out ∈ lw_g := tg (List.mem_of_getElem? (i := 568) rfl) rfl
set_option maxRecDepth 20000 in
theorem ti_X5_out : Cond.instanceMethod yX5_out ∈ lw_g := tg (List.mem_of_getElem? (i := 569) rfl) rfl
set_option maxRecDepth 20000 in
theorem tse_X5_out : Cond.selects RX5 yX5_out yX5_out ∈ lw_g := tg (List.mem_of_getElem? (i := 570) rfl) rfl
set_option maxRecDepth 20000 in
theorem tm_L_45 : Cond.methodLink RL 45 yX5_late ∈ lw_g := tg (List.mem_of_getElem? (i := 572) rfl) rfl
set_option maxRecDepth 20000 in
theorem ti_X5_late : Cond.instanceMethod yX5_late ∈ lw_g := tg (List.mem_of_getElem? (i := 573) rfl) rfl
set_option maxRecDepth 20000 in
theorem tse_X5_late : Cond.selects RX5 yX5_late yX5_late ∈ lw_g := tg (List.mem_of_getElem? (i := 574) rfl) rfl
set_option maxRecDepth 20000 in
theorem tm_L_52 : Cond.methodLink RL 52 yX5_run ∈ lw_g := tg (List.mem_of_getElem? (i := 576) rfl) rfl
set_option maxRecDepth 20000 in
theorem ti_X5_run : Cond.instanceMethod yX5_run ∈ lw_g := tg (List.mem_of_getElem? (i := 577) rfl) rfl
set_option maxRecDepth 20000 in
theorem tse_X5_run : Cond.selects RX5 yX5_run yX5_run ∈ lw_g := tg (List.mem_of_getElem? (i := 578) rfl) rfl
set_option maxRecDepth 20000 in
theorem tcl64_X5_121 : Cond.constantLong RX5 121 4 ∈ lw_g := tg (List.mem_of_getElem? (i := 580) rfl) rfl
set_option maxRecDepth 20000 in
theorem tm_X5_123 : Cond.methodLink RX5 123 yX5_search ∈ lw_g := tg (List.mem_of_getElem? (i := 581) rfl) rfl
set_option maxRecDepth 20000 in
theorem ti_X5_search : Cond.instanceMethod yX5_search ∈ lw_g := tg (List.mem_of_getElem? (i := 583) rfl) rfl
set_option maxRecDepth 20000 in
theorem tm_X5_117 : Cond.methodLink RX5 117 yX5_place ∈ lw_g := tg (List.mem_of_getElem? (i := 585) rfl) rfl
set_option maxRecDepth 20000 in
theorem ti_X5_place : Cond.instanceMethod yX5_place ∈ lw_g := tg (List.mem_of_getElem? (i := 587) rfl) rfl
set_option maxRecDepth 20000 in
theorem tm_X5_111 : Cond.methodLink RX5 111 yX5_judge ∈ lw_g := tg (List.mem_of_getElem? (i := 589) rfl) rfl
set_option maxRecDepth 20000 in
theorem ti_X5_judge : Cond.instanceMethod yX5_judge ∈ lw_g := tg (List.mem_of_getElem? (i := 591) rfl) rfl
set_option maxRecDepth 20000 in
theorem tm_X5_114 : Cond.methodLink RX5 114 yX5_fits ∈ lw_g := tg (List.mem_of_getElem? (i := 593) rfl) rfl
set_option maxRecDepth 20000 in
theorem ti_X5_fits : Cond.instanceMethod yX5_fits ∈ lw_g := tg (List.mem_of_getElem? (i := 595) rfl) rfl
set_option maxRecDepth 20000 in
theorem tm_X5_97 : Cond.methodLink RX5 97 yX5_keeps ∈ lw_g := tg (List.mem_of_getElem? (i := 597) rfl) rfl
set_option maxRecDepth 20000 in
theorem ti_X5_keeps : Cond.instanceMethod yX5_keeps ∈ lw_g := tg (List.mem_of_getElem? (i := 599) rfl) rfl
set_option maxRecDepth 20000 in
theorem tm_X5_129 : Cond.methodLink RX5 129 yX5_keep ∈ lw_g := tg (List.mem_of_getElem? (i := 601) rfl) rfl
set_option maxRecDepth 20000 in
theorem ti_X5_keep : Cond.instanceMethod yX5_keep ∈ lw_g := tg (List.mem_of_getElem? (i := 603) rfl) rfl
set_option maxRecDepth 20000 in
theorem tm_L_57 : Cond.methodLink RL 57 yX5_tankOf ∈ lw_g := tg (List.mem_of_getElem? (i := 605) rfl) rfl
set_option maxRecDepth 20000 in
theorem ti_X5_tankOf : Cond.instanceMethod yX5_tankOf ∈ lw_g := tg (List.mem_of_getElem? (i := 606) rfl) rfl
set_option maxRecDepth 20000 in
theorem tse_X5_tankOf : Cond.selects RX5 yX5_tankOf yX5_tankOf ∈ lw_g := tg (List.mem_of_getElem? (i := 607) rfl) rfl
set_option maxRecDepth 20000 in
theorem tm_L_61 : Cond.methodLink RL 61 yX5_start ∈ lw_g := tg (List.mem_of_getElem? (i := 609) rfl) rfl
set_option maxRecDepth 20000 in
theorem ti_X5_start : Cond.instanceMethod yX5_start ∈ lw_g := tg (List.mem_of_getElem? (i := 610) rfl) rfl
set_option maxRecDepth 20000 in
theorem tse_X5_start : Cond.selects RX5 yX5_start yX5_start ∈ lw_g := tg (List.mem_of_getElem? (i := 611) rfl) rfl
set_option maxRecDepth 20000 in
theorem tm_L_65 : Cond.methodLink RL 65 yX5_changed ∈ lw_g := tg (List.mem_of_getElem? (i := 613) rfl) rfl
set_option maxRecDepth 20000 in
theorem ti_X5_changed : Cond.instanceMethod yX5_changed ∈ lw_g := tg (List.mem_of_getElem? (i := 614) rfl) rfl
set_option maxRecDepth 20000 in
theorem tse_X5_changed : Cond.selects RX5 yX5_changed yX5_changed ∈ lw_g := tg (List.mem_of_getElem? (i := 615) rfl) rfl
set_option maxRecDepth 20000 in
theorem tm_L_70 : Cond.methodLink RL 70 yX5_bound ∈ lw_g := tg (List.mem_of_getElem? (i := 617) rfl) rfl
set_option maxRecDepth 20000 in
theorem ti_X5_bound : Cond.instanceMethod yX5_bound ∈ lw_g := tg (List.mem_of_getElem? (i := 618) rfl) rfl
set_option maxRecDepth 20000 in
theorem tse_X5_bound : Cond.selects RX5 yX5_bound yX5_bound ∈ lw_g := tg (List.mem_of_getElem? (i := 619) rfl) rfl
set_option maxRecDepth 20000 in
theorem tm_L_89 : Cond.methodLink RL 89 yX5_cost ∈ lw_g := tg (List.mem_of_getElem? (i := 621) rfl) rfl
set_option maxRecDepth 20000 in
theorem ti_X5_cost : Cond.instanceMethod yX5_cost ∈ lw_g := tg (List.mem_of_getElem? (i := 622) rfl) rfl
set_option maxRecDepth 20000 in
theorem tse_X5_cost : Cond.selects RX5 yX5_cost yX5_cost ∈ lw_g := tg (List.mem_of_getElem? (i := 623) rfl) rfl
set_option maxRecDepth 20000 in
theorem tm_L_75 : Cond.methodLink RL 75 yX5_undo ∈ lw_g := tg (List.mem_of_getElem? (i := 625) rfl) rfl
set_option maxRecDepth 20000 in
theorem ti_X5_undo : Cond.instanceMethod yX5_undo ∈ lw_g := tg (List.mem_of_getElem? (i := 626) rfl) rfl
set_option maxRecDepth 20000 in
theorem tse_X5_undo : Cond.selects RX5 yX5_undo yX5_undo ∈ lw_g := tg (List.mem_of_getElem? (i := 627) rfl) rfl
set_option maxRecDepth 20000 in
theorem tm_L_79 : Cond.methodLink RL 79 yX5_copy ∈ lw_g := tg (List.mem_of_getElem? (i := 629) rfl) rfl
set_option maxRecDepth 20000 in
theorem ti_X5_copy : Cond.instanceMethod yX5_copy ∈ lw_g := tg (List.mem_of_getElem? (i := 630) rfl) rfl
set_option maxRecDepth 20000 in
theorem tse_X5_copy : Cond.selects RX5 yX5_copy yX5_copy ∈ lw_g := tg (List.mem_of_getElem? (i := 631) rfl) rfl
set_option maxRecDepth 20000 in
theorem tm_L_84 : Cond.methodLink RL 84 yX5_compare ∈ lw_g := tg (List.mem_of_getElem? (i := 633) rfl) rfl
set_option maxRecDepth 20000 in
theorem ti_X5_compare : Cond.instanceMethod yX5_compare ∈ lw_g := tg (List.mem_of_getElem? (i := 634) rfl) rfl
set_option maxRecDepth 20000 in
theorem tse_X5_compare : Cond.selects RX5 yX5_compare yX5_compare ∈ lw_g := tg (List.mem_of_getElem? (i := 635) rfl) rfl
set_option maxRecDepth 20000 in
theorem tcl64_L_46 : Cond.constantLong RL 46 4294967295 ∈ lw_g := tg (List.mem_of_getElem? (i := 637) rfl) rfl
set_option maxRecDepth 20000 in
theorem tse_X4_isTank : Cond.selects RX4 yX4_isTank yX4_isTank ∈ lw_g := tg (List.mem_of_getElem? (i := 0) rfl) rfl
set_option maxRecDepth 20000 in
theorem tse_X4_isWithinDays : Cond.selects RX4 yX4_isWithinDays yX4_isWithinDays ∈ lw_g := tg (List.mem_of_getElem? (i := 1) rfl) rfl
set_option maxRecDepth 20000 in
theorem tse_X4_isRule : Cond.selects RX4 yX4_isRule yX4_isRule ∈ lw_g := tg (List.mem_of_getElem? (i := 2) rfl) rfl
set_option maxRecDepth 20000 in
theorem tse_X2_takeOne : Cond.selects RX2 yX2_takeOne yX2_takeOne ∈ lw_g := tg (List.mem_of_getElem? (i := 3) rfl) rfl
set_option maxRecDepth 20000 in
theorem tse_X2_closeByLags : Cond.selects RX2 yX2_closeByLags yX2_closeByLags ∈ lw_g := tg (List.mem_of_getElem? (i := 4) rfl) rfl
set_option maxRecDepth 20000 in
theorem tse_X2_canPutFrom : Cond.selects RX2 yX2_canPutFrom yX2_canPutFrom ∈ lw_g := tg (List.mem_of_getElem? (i := 5) rfl) rfl
set_option maxRecDepth 20000 in
theorem tse_X2_leavesRoom : Cond.selects RX2 yX2_leavesRoom yX2_leavesRoom ∈ lw_g := tg (List.mem_of_getElem? (i := 6) rfl) rfl
set_option maxRecDepth 20000 in
theorem tse_X2_openBeside : Cond.selects RX2 yX2_openBeside yX2_openBeside ∈ lw_g := tg (List.mem_of_getElem? (i := 7) rfl) rfl
set_option maxRecDepth 20000 in
theorem tse_X4_firstBar : Cond.selects RX4 yX4_firstBar yX4_firstBar ∈ lw_g := tg (List.mem_of_getElem? (i := 8) rfl) rfl
set_option maxRecDepth 20000 in
theorem tse_X2_putBetter : Cond.selects RX2 yX2_putBetter yX2_putBetter ∈ lw_g := tg (List.mem_of_getElem? (i := 9) rfl) rfl
set_option maxRecDepth 20000 in
theorem tse_X2_leastWeightFrom : Cond.selects RX2 yX2_leastWeightFrom yX2_leastWeightFrom ∈ lw_g := tg (List.mem_of_getElem? (i := 10) rfl) rfl
set_option maxRecDepth 20000 in
theorem tse_X2_weightAt : Cond.selects RX2 yX2_weightAt yX2_weightAt ∈ lw_g := tg (List.mem_of_getElem? (i := 11) rfl) rfl
set_option maxRecDepth 20000 in
theorem tse_X4_adoptFound : Cond.selects RX4 yX4_adoptFound yX4_adoptFound ∈ lw_g := tg (List.mem_of_getElem? (i := 12) rfl) rfl
set_option maxRecDepth 20000 in
theorem tse_X5_isBatch : Cond.selects RX5 yX5_isBatch yX5_isBatch ∈ lw_g := tg (List.mem_of_getElem? (i := 13) rfl) rfl
set_option maxRecDepth 20000 in
theorem tse_X5_search : Cond.selects RX5 yX5_search yX5_search ∈ lw_g := tg (List.mem_of_getElem? (i := 14) rfl) rfl
set_option maxRecDepth 20000 in
theorem tse_X5_place : Cond.selects RX5 yX5_place yX5_place ∈ lw_g := tg (List.mem_of_getElem? (i := 15) rfl) rfl
set_option maxRecDepth 20000 in
theorem tse_X5_judge : Cond.selects RX5 yX5_judge yX5_judge ∈ lw_g := tg (List.mem_of_getElem? (i := 16) rfl) rfl
set_option maxRecDepth 20000 in
theorem tse_X5_fits : Cond.selects RX5 yX5_fits yX5_fits ∈ lw_g := tg (List.mem_of_getElem? (i := 17) rfl) rfl
set_option maxRecDepth 20000 in
theorem tse_X5_keeps : Cond.selects RX5 yX5_keeps yX5_keeps ∈ lw_g := tg (List.mem_of_getElem? (i := 18) rfl) rfl
set_option maxRecDepth 20000 in
theorem tse_X5_keep : Cond.selects RX5 yX5_keep yX5_keep ∈ lw_g := tg (List.mem_of_getElem? (i := 19) rfl) rfl
set_option maxRecDepth 20000 in
theorem tcode_max : Cond.code Lib.Math.max.name Lib.Math.max.code 2 (some .int) ∈ lw_g := tg (List.mem_of_getElem? (i := 147) rfl) rfl
set_option maxRecDepth 20000 in
theorem tcode_min : Cond.code Lib.Math.min.name Lib.Math.min.code 2 (some .int) ∈ lw_g := tg (List.mem_of_getElem? (i := 163) rfl) rfl
set_option maxRecDepth 20000 in
theorem tcode_abs : Cond.code Lib.Math.abs.name Lib.Math.abs.code 1 (some .int) ∈ lw_g := tg (List.mem_of_getElem? (i := 357) rfl) rfl
set_option maxRecDepth 20000 in
theorem tcode_obj : Cond.code objectInit ⟨#[0xb1]⟩ 1 none ∈ lw_g := tg (List.mem_of_getElem? (i := 38) rfl) rfl
/-- the links to nest mates: they stand in a contract's start, as the classes do -/
def nK (U : State) : Prop := va_Nw (.methodLinkNest RX4 11 yX0_init "LeastChanges") U ∧ va_Nw (.methodLinkNest RX4 18 yX1_init "LeastChanges") U ∧ va_Nw (.methodLinkNest RX4 25 yX2_init "LeastChanges") U ∧ va_Nw (.methodLinkNest RX2 50 yX4_daysFromTo "LeastChanges") U ∧ va_Nw (.methodLinkNest RX2 65 yX4_startOfPlace "LeastChanges") U ∧ va_Nw (.methodLinkNest RX2 149 yX4_tankOfPlace "LeastChanges") U
theorem nK_warm {s U : State} (hW : s.WarmedH U.vm) (h : nK s) : nK U := ⟨va_Nw.warmM hW h.1, va_Nw.warmM hW h.2.1, va_Nw.warmM hW h.2.2.1, va_Nw.warmM hW h.2.2.2.1, va_Nw.warmM hW h.2.2.2.2.1, va_Nw.warmM hW h.2.2.2.2.2⟩
theorem nK_same {s U : State} (e : s.vm = U.vm) (h : nK s) : nK U := ⟨va_Nw.same rfl e h.1, va_Nw.same rfl e h.2.1, va_Nw.same rfl e h.2.2.1, va_Nw.same rfl e h.2.2.2.1, va_Nw.same rfl e h.2.2.2.2.1, va_Nw.same rfl e h.2.2.2.2.2⟩
theorem nK_law {s : State} {A : Array Value} (h : ∀ w ∈ lw_tbl, w.before A s = true) : nK s := ⟨va_Nw.of rfl (h _ tn_X4_11), va_Nw.of rfl (h _ tn_X4_18), va_Nw.of rfl (h _ tn_X4_25), va_Nw.of rfl (h _ tn_X2_50), va_Nw.of rfl (h _ tn_X2_65), va_Nw.of rfl (h _ tn_X2_149)⟩
theorem nK_X4_11 {s : State} (h : nK s) : va_Nw (.methodLinkNest RX4 11 yX0_init "LeastChanges") s := h.1
theorem nK_X4_18 {s : State} (h : nK s) : va_Nw (.methodLinkNest RX4 18 yX1_init "LeastChanges") s := h.2.1
theorem nK_X4_25 {s : State} (h : nK s) : va_Nw (.methodLinkNest RX4 25 yX2_init "LeastChanges") s := h.2.2.1
theorem nK_X2_50 {s : State} (h : nK s) : va_Nw (.methodLinkNest RX2 50 yX4_daysFromTo "LeastChanges") s := h.2.2.2.1
theorem nK_X2_65 {s : State} (h : nK s) : va_Nw (.methodLinkNest RX2 65 yX4_startOfPlace "LeastChanges") s := h.2.2.2.2.1
theorem nK_X2_149 {s : State} (h : nK s) : va_Nw (.methodLinkNest RX2 149 yX4_tankOfPlace "LeastChanges") s := h.2.2.2.2.2
end
section
theorem dX4_init_0 : decode cX4_init 0 = .ok (.aload_n 0, 1) := by decide +kernel
theorem dX4_init_1 : decode cX4_init 1 = .ok (.invokespecial 3, 3) := by decide +kernel
theorem dX4_init_4 : decode cX4_init 4 = .ok (.aload_n 0, 1) := by decide +kernel
theorem dX4_init_5 : decode cX4_init 5 = .ok (.new 9, 3) := by decide +kernel
theorem dX4_init_8 : decode cX4_init 8 = .ok (.dup, 1) := by decide +kernel
theorem dX4_init_9 : decode cX4_init 9 = .ok (.invokespecial 11, 3) := by decide +kernel
theorem dX4_init_12 : decode cX4_init 12 = .ok (.putfield 12, 3) := by decide +kernel
theorem dX4_init_15 : decode cX4_init 15 = .ok (.aload_n 0, 1) := by decide +kernel
theorem dX4_init_16 : decode cX4_init 16 = .ok (.new 16, 3) := by decide +kernel
theorem dX4_init_19 : decode cX4_init 19 = .ok (.dup, 1) := by decide +kernel
theorem dX4_init_20 : decode cX4_init 20 = .ok (.invokespecial 18, 3) := by decide +kernel
theorem dX4_init_23 : decode cX4_init 23 = .ok (.putfield 19, 3) := by decide +kernel
theorem dX4_init_26 : decode cX4_init 26 = .ok (.aload_n 0, 1) := by decide +kernel
theorem dX4_init_27 : decode cX4_init 27 = .ok (.new 23, 3) := by decide +kernel
theorem dX4_init_30 : decode cX4_init 30 = .ok (.dup, 1) := by decide +kernel
theorem dX4_init_31 : decode cX4_init 31 = .ok (.invokespecial 25, 3) := by decide +kernel
theorem dX4_init_34 : decode cX4_init 34 = .ok (.putfield 26, 3) := by decide +kernel
theorem dX4_init_37 : decode cX4_init 37 = .ok (.aload_n 0, 1) := by decide +kernel
theorem dX4_init_38 : decode cX4_init 38 = .ok (.new 30, 3) := by decide +kernel
theorem dX4_init_41 : decode cX4_init 41 = .ok (.dup, 1) := by decide +kernel
theorem dX4_init_42 : decode cX4_init 42 = .ok (.bipush 16, 2) := by decide +kernel
theorem dX4_init_44 : decode cX4_init 44 = .ok (.invokespecial 32, 3) := by decide +kernel
theorem dX4_init_47 : decode cX4_init 47 = .ok (.putfield 35, 3) := by decide +kernel
theorem dX4_init_50 : decode cX4_init 50 = .ok (.aload_n 0, 1) := by decide +kernel
theorem dX4_init_51 : decode cX4_init 51 = .ok (.new 30, 3) := by decide +kernel
theorem dX4_init_54 : decode cX4_init 54 = .ok (.dup, 1) := by decide +kernel
theorem dX4_init_55 : decode cX4_init 55 = .ok (.bipush 8, 2) := by decide +kernel
theorem dX4_init_57 : decode cX4_init 57 = .ok (.invokespecial 32, 3) := by decide +kernel
theorem dX4_init_60 : decode cX4_init 60 = .ok (.putfield 39, 3) := by decide +kernel
theorem dX4_init_63 : decode cX4_init 63 = .ok (.aload_n 0, 1) := by decide +kernel
theorem dX4_init_64 : decode cX4_init 64 = .ok (.iconst 1, 1) := by decide +kernel
theorem dX4_init_65 : decode cX4_init 65 = .ok (.iload_n 1, 1) := by decide +kernel
theorem dX4_init_66 : decode cX4_init 66 = .ok (.iconst 3, 1) := by decide +kernel
theorem dX4_init_67 : decode cX4_init 67 = .ok (.invokestatic 42, 3) := by decide +kernel
theorem dX4_init_70 : decode cX4_init 70 = .ok (.invokestatic 48, 3) := by decide +kernel
theorem dX4_init_73 : decode cX4_init 73 = .ok (.putfield 51, 3) := by decide +kernel
theorem dX4_init_76 : decode cX4_init 76 = .ok (.aload_n 0, 1) := by decide +kernel
theorem dX4_init_77 : decode cX4_init 77 = .ok (.iconst 1, 1) := by decide +kernel
theorem dX4_init_78 : decode cX4_init 78 = .ok (.iload_n 2, 1) := by decide +kernel
theorem dX4_init_79 : decode cX4_init 79 = .ok (.bipush 10, 2) := by decide +kernel
theorem dX4_init_81 : decode cX4_init 81 = .ok (.invokestatic 42, 3) := by decide +kernel
theorem dX4_init_84 : decode cX4_init 84 = .ok (.invokestatic 48, 3) := by decide +kernel
theorem dX4_init_87 : decode cX4_init 87 = .ok (.putfield 55, 3) := by decide +kernel
theorem dX4_init_90 : decode cX4_init 90 = .ok (.return_, 1) := by decide +kernel
theorem dX0_init_0 : decode cX0_init 0 = .ok (.aload_n 0, 1) := by decide +kernel
theorem dX0_init_1 : decode cX0_init 1 = .ok (.invokespecial 3, 3) := by decide +kernel
theorem dX0_init_4 : decode cX0_init 4 = .ok (.aload_n 0, 1) := by decide +kernel
theorem dX0_init_5 : decode cX0_init 5 = .ok (.iconst 4, 1) := by decide +kernel
theorem dX0_init_6 : decode cX0_init 6 = .ok (.newarray .int, 2) := by decide +kernel
theorem dX0_init_8 : decode cX0_init 8 = .ok (.putfield 9, 3) := by decide +kernel
theorem dX0_init_11 : decode cX0_init 11 = .ok (.aload_n 0, 1) := by decide +kernel
theorem dX0_init_12 : decode cX0_init 12 = .ok (.iconst 4, 1) := by decide +kernel
theorem dX0_init_13 : decode cX0_init 13 = .ok (.newarray .int, 2) := by decide +kernel
theorem dX0_init_15 : decode cX0_init 15 = .ok (.putfield 15, 3) := by decide +kernel
theorem dX0_init_18 : decode cX0_init 18 = .ok (.aload_n 0, 1) := by decide +kernel
theorem dX0_init_19 : decode cX0_init 19 = .ok (.iconst 4, 1) := by decide +kernel
theorem dX0_init_20 : decode cX0_init 20 = .ok (.newarray .int, 2) := by decide +kernel
theorem dX0_init_22 : decode cX0_init 22 = .ok (.putfield 18, 3) := by decide +kernel
theorem dX0_init_25 : decode cX0_init 25 = .ok (.aload_n 0, 1) := by decide +kernel
theorem dX0_init_26 : decode cX0_init 26 = .ok (.iconst 4, 1) := by decide +kernel
theorem dX0_init_27 : decode cX0_init 27 = .ok (.newarray .boolean, 2) := by decide +kernel
theorem dX0_init_29 : decode cX0_init 29 = .ok (.putfield 21, 3) := by decide +kernel
theorem dX0_init_32 : decode cX0_init 32 = .ok (.return_, 1) := by decide +kernel
theorem dX1_init_0 : decode cX1_init 0 = .ok (.aload_n 0, 1) := by decide +kernel
theorem dX1_init_1 : decode cX1_init 1 = .ok (.invokespecial 3, 3) := by decide +kernel
theorem dX1_init_4 : decode cX1_init 4 = .ok (.aload_n 0, 1) := by decide +kernel
theorem dX1_init_5 : decode cX1_init 5 = .ok (.bipush 8, 2) := by decide +kernel
theorem dX1_init_7 : decode cX1_init 7 = .ok (.newarray .int, 2) := by decide +kernel
theorem dX1_init_9 : decode cX1_init 9 = .ok (.putfield 9, 3) := by decide +kernel
theorem dX1_init_12 : decode cX1_init 12 = .ok (.aload_n 0, 1) := by decide +kernel
theorem dX1_init_13 : decode cX1_init 13 = .ok (.bipush 8, 2) := by decide +kernel
theorem dX1_init_15 : decode cX1_init 15 = .ok (.newarray .int, 2) := by decide +kernel
theorem dX1_init_17 : decode cX1_init 17 = .ok (.putfield 15, 3) := by decide +kernel
theorem dX1_init_20 : decode cX1_init 20 = .ok (.aload_n 0, 1) := by decide +kernel
theorem dX1_init_21 : decode cX1_init 21 = .ok (.bipush 8, 2) := by decide +kernel
theorem dX1_init_23 : decode cX1_init 23 = .ok (.newarray .int, 2) := by decide +kernel
theorem dX1_init_25 : decode cX1_init 25 = .ok (.putfield 18, 3) := by decide +kernel
theorem dX1_init_28 : decode cX1_init 28 = .ok (.aload_n 0, 1) := by decide +kernel
theorem dX1_init_29 : decode cX1_init 29 = .ok (.bipush 8, 2) := by decide +kernel
theorem dX1_init_31 : decode cX1_init 31 = .ok (.newarray .int, 2) := by decide +kernel
theorem dX1_init_33 : decode cX1_init 33 = .ok (.putfield 21, 3) := by decide +kernel
theorem dX1_init_36 : decode cX1_init 36 = .ok (.return_, 1) := by decide +kernel
theorem dX2_init_0 : decode cX2_init 0 = .ok (.aload_n 0, 1) := by decide +kernel
theorem dX2_init_1 : decode cX2_init 1 = .ok (.invokespecial 3, 3) := by decide +kernel
theorem dX2_init_4 : decode cX2_init 4 = .ok (.aload_n 0, 1) := by decide +kernel
theorem dX2_init_5 : decode cX2_init 5 = .ok (.iconst 4, 1) := by decide +kernel
theorem dX2_init_6 : decode cX2_init 6 = .ok (.newarray .int, 2) := by decide +kernel
theorem dX2_init_8 : decode cX2_init 8 = .ok (.putfield 9, 3) := by decide +kernel
theorem dX2_init_11 : decode cX2_init 11 = .ok (.aload_n 0, 1) := by decide +kernel
theorem dX2_init_12 : decode cX2_init 12 = .ok (.iconst 4, 1) := by decide +kernel
theorem dX2_init_13 : decode cX2_init 13 = .ok (.newarray .int, 2) := by decide +kernel
theorem dX2_init_15 : decode cX2_init 15 = .ok (.putfield 15, 3) := by decide +kernel
theorem dX2_init_18 : decode cX2_init 18 = .ok (.aload_n 0, 1) := by decide +kernel
theorem dX2_init_19 : decode cX2_init 19 = .ok (.iconst 4, 1) := by decide +kernel
theorem dX2_init_20 : decode cX2_init 20 = .ok (.newarray .int, 2) := by decide +kernel
theorem dX2_init_22 : decode cX2_init 22 = .ok (.putfield 18, 3) := by decide +kernel
theorem dX2_init_25 : decode cX2_init 25 = .ok (.aload_n 0, 1) := by decide +kernel
theorem dX2_init_26 : decode cX2_init 26 = .ok (.iconst 4, 1) := by decide +kernel
theorem dX2_init_27 : decode cX2_init 27 = .ok (.newarray .int, 2) := by decide +kernel
theorem dX2_init_29 : decode cX2_init 29 = .ok (.putfield 21, 3) := by decide +kernel
theorem dX2_init_32 : decode cX2_init 32 = .ok (.aload_n 0, 1) := by decide +kernel
theorem dX2_init_33 : decode cX2_init 33 = .ok (.bipush 16, 2) := by decide +kernel
theorem dX2_init_35 : decode cX2_init 35 = .ok (.newarray .int, 2) := by decide +kernel
theorem dX2_init_37 : decode cX2_init 37 = .ok (.putfield 24, 3) := by decide +kernel
theorem dX2_init_40 : decode cX2_init 40 = .ok (.aload_n 0, 1) := by decide +kernel
theorem dX2_init_41 : decode cX2_init 41 = .ok (.iconst 4, 1) := by decide +kernel
theorem dX2_init_42 : decode cX2_init 42 = .ok (.newarray .int, 2) := by decide +kernel
theorem dX2_init_44 : decode cX2_init 44 = .ok (.putfield 27, 3) := by decide +kernel
theorem dX2_init_47 : decode cX2_init 47 = .ok (.aload_n 0, 1) := by decide +kernel
theorem dX2_init_48 : decode cX2_init 48 = .ok (.bipush 16, 2) := by decide +kernel
theorem dX2_init_50 : decode cX2_init 50 = .ok (.newarray .int, 2) := by decide +kernel
theorem dX2_init_52 : decode cX2_init 52 = .ok (.putfield 30, 3) := by decide +kernel
theorem dX2_init_55 : decode cX2_init 55 = .ok (.aload_n 0, 1) := by decide +kernel
theorem dX2_init_56 : decode cX2_init 56 = .ok (.iconst 4, 1) := by decide +kernel
theorem dX2_init_57 : decode cX2_init 57 = .ok (.newarray .int, 2) := by decide +kernel
theorem dX2_init_59 : decode cX2_init 59 = .ok (.putfield 33, 3) := by decide +kernel
theorem dX2_init_62 : decode cX2_init 62 = .ok (.return_, 1) := by decide +kernel
theorem dX3_init_0 : decode cX3_init 0 = .ok (.aload_n 0, 1) := by decide +kernel
theorem dX3_init_1 : decode cX3_init 1 = .ok (.invokespecial 3, 3) := by decide +kernel
theorem dX3_init_4 : decode cX3_init 4 = .ok (.aload_n 0, 1) := by decide +kernel
theorem dX3_init_5 : decode cX3_init 5 = .ok (.iload_n 1, 1) := by decide +kernel
theorem dX3_init_6 : decode cX3_init 6 = .ok (.iconst 1, 1) := by decide +kernel
theorem dX3_init_7 : decode cX3_init 7 = .ok (.invokestatic 9, 3) := by decide +kernel
theorem dX3_init_10 : decode cX3_init 10 = .ok (.putfield 15, 3) := by decide +kernel
theorem dX3_init_13 : decode cX3_init 13 = .ok (.aload_n 0, 1) := by decide +kernel
theorem dX3_init_14 : decode cX3_init 14 = .ok (.aload_n 0, 1) := by decide +kernel
theorem dX3_init_15 : decode cX3_init 15 = .ok (.getfield 15, 3) := by decide +kernel
theorem dX3_init_18 : decode cX3_init 18 = .ok (.newarray .int, 2) := by decide +kernel
theorem dX3_init_20 : decode cX3_init 20 = .ok (.putfield 21, 3) := by decide +kernel
theorem dX3_init_23 : decode cX3_init 23 = .ok (.aload_n 0, 1) := by decide +kernel
theorem dX3_init_24 : decode cX3_init 24 = .ok (.aload_n 0, 1) := by decide +kernel
theorem dX3_init_25 : decode cX3_init 25 = .ok (.getfield 15, 3) := by decide +kernel
theorem dX3_init_28 : decode cX3_init 28 = .ok (.iconst 4, 1) := by decide +kernel
theorem dX3_init_29 : decode cX3_init 29 = .ok (.imul, 1) := by decide +kernel
theorem dX3_init_30 : decode cX3_init 30 = .ok (.newarray .int, 2) := by decide +kernel
theorem dX3_init_32 : decode cX3_init 32 = .ok (.putfield 25, 3) := by decide +kernel
theorem dX3_init_35 : decode cX3_init 35 = .ok (.return_, 1) := by decide +kernel
theorem dX4_batch_0 : decode cX4_batch 0 = .ok (.aload_n 0, 1) := by decide +kernel
theorem dX4_batch_1 : decode cX4_batch 1 = .ok (.iload_n 1, 1) := by decide +kernel
theorem dX4_batch_2 : decode cX4_batch 2 = .ok (.invokevirtual 58, 3) := by decide +kernel
theorem dX4_batch_5 : decode cX4_batch 5 = .ok (.ifCond .eq 12, 3) := by decide +kernel
theorem dX4_batch_8 : decode cX4_batch 8 = .ok (.aload_n 0, 1) := by decide +kernel
theorem dX4_batch_9 : decode cX4_batch 9 = .ok (.iload_n 2, 1) := by decide +kernel
theorem dX4_batch_10 : decode cX4_batch 10 = .ok (.iload_n 3, 1) := by decide +kernel
theorem dX4_batch_11 : decode cX4_batch 11 = .ok (.invokevirtual 62, 3) := by decide +kernel
theorem dX4_batch_14 : decode cX4_batch 14 = .ok (.ifCond .ne 5, 3) := by decide +kernel
theorem dX4_batch_17 : decode cX4_batch 17 = .ok (.iconst (-1), 1) := by decide +kernel
theorem dX4_batch_18 : decode cX4_batch 18 = .ok (.ireturn, 1) := by decide +kernel
theorem dX4_batch_19 : decode cX4_batch 19 = .ok (.aload_n 0, 1) := by decide +kernel
theorem dX4_batch_20 : decode cX4_batch 20 = .ok (.getfield 12, 3) := by decide +kernel
theorem dX4_batch_23 : decode cX4_batch 23 = .ok (.invokevirtual 66, 3) := by decide +kernel
theorem dX4_batch_26 : decode cX4_batch 26 = .ok (.ifCond .eq 8, 3) := by decide +kernel
theorem dX4_batch_29 : decode cX4_batch 29 = .ok (.bipush (-2), 2) := by decide +kernel
theorem dX4_batch_31 : decode cX4_batch 31 = .ok (.goto 17, 3) := by decide +kernel
theorem dX4_batch_34 : decode cX4_batch 34 = .ok (.aload_n 0, 1) := by decide +kernel
theorem dX4_batch_35 : decode cX4_batch 35 = .ok (.getfield 12, 3) := by decide +kernel
theorem dX4_batch_38 : decode cX4_batch 38 = .ok (.iload_n 1, 1) := by decide +kernel
theorem dX4_batch_39 : decode cX4_batch 39 = .ok (.bipush 10, 2) := by decide +kernel
theorem dX4_batch_41 : decode cX4_batch 41 = .ok (.imul, 1) := by decide +kernel
theorem dX4_batch_42 : decode cX4_batch 42 = .ok (.iload_n 2, 1) := by decide +kernel
theorem dX4_batch_43 : decode cX4_batch 43 = .ok (.iadd, 1) := by decide +kernel
theorem dX4_batch_44 : decode cX4_batch 44 = .ok (.iload_n 3, 1) := by decide +kernel
theorem dX4_batch_45 : decode cX4_batch 45 = .ok (.invokevirtual 70, 3) := by decide +kernel
theorem dX4_batch_48 : decode cX4_batch 48 = .ok (.ireturn, 1) := by decide +kernel
theorem dX4_isTank_0 : decode cX4_isTank 0 = .ok (.iload_n 1, 1) := by decide +kernel
theorem dX4_isTank_1 : decode cX4_isTank 1 = .ok (.ifCond .lt 15, 3) := by decide +kernel
theorem dX4_isTank_4 : decode cX4_isTank 4 = .ok (.iload_n 1, 1) := by decide +kernel
theorem dX4_isTank_5 : decode cX4_isTank 5 = .ok (.aload_n 0, 1) := by decide +kernel
theorem dX4_isTank_6 : decode cX4_isTank 6 = .ok (.getfield 51, 3) := by decide +kernel
theorem dX4_isTank_9 : decode cX4_isTank 9 = .ok (.if_icmp .ge 7, 3) := by decide +kernel
theorem dX4_isTank_12 : decode cX4_isTank 12 = .ok (.iconst 1, 1) := by decide +kernel
theorem dX4_isTank_13 : decode cX4_isTank 13 = .ok (.goto 4, 3) := by decide +kernel
theorem dX4_isTank_16 : decode cX4_isTank 16 = .ok (.iconst 0, 1) := by decide +kernel
theorem dX4_isTank_17 : decode cX4_isTank 17 = .ok (.ireturn, 1) := by decide +kernel
theorem dX4_isWithinDays_0 : decode cX4_isWithinDays 0 = .ok (.iload_n 1, 1) := by decide +kernel
theorem dX4_isWithinDays_1 : decode cX4_isWithinDays 1 = .ok (.ifCond .lt 30, 3) := by decide +kernel
theorem dX4_isWithinDays_4 : decode cX4_isWithinDays 4 = .ok (.iload_n 1, 1) := by decide +kernel
theorem dX4_isWithinDays_5 : decode cX4_isWithinDays 5 = .ok (.aload_n 0, 1) := by decide +kernel
theorem dX4_isWithinDays_6 : decode cX4_isWithinDays 6 = .ok (.getfield 55, 3) := by decide +kernel
theorem dX4_isWithinDays_9 : decode cX4_isWithinDays 9 = .ok (.if_icmp .ge 22, 3) := by decide +kernel
theorem dX4_isWithinDays_12 : decode cX4_isWithinDays 12 = .ok (.iload_n 2, 1) := by decide +kernel
theorem dX4_isWithinDays_13 : decode cX4_isWithinDays 13 = .ok (.iconst 1, 1) := by decide +kernel
theorem dX4_isWithinDays_14 : decode cX4_isWithinDays 14 = .ok (.if_icmp .lt 17, 3) := by decide +kernel
theorem dX4_isWithinDays_17 : decode cX4_isWithinDays 17 = .ok (.iload_n 2, 1) := by decide +kernel
theorem dX4_isWithinDays_18 : decode cX4_isWithinDays 18 = .ok (.aload_n 0, 1) := by decide +kernel
theorem dX4_isWithinDays_19 : decode cX4_isWithinDays 19 = .ok (.getfield 55, 3) := by decide +kernel
theorem dX4_isWithinDays_22 : decode cX4_isWithinDays 22 = .ok (.iload_n 1, 1) := by decide +kernel
theorem dX4_isWithinDays_23 : decode cX4_isWithinDays 23 = .ok (.isub, 1) := by decide +kernel
theorem dX4_isWithinDays_24 : decode cX4_isWithinDays 24 = .ok (.if_icmp .gt 7, 3) := by decide +kernel
theorem dX4_isWithinDays_27 : decode cX4_isWithinDays 27 = .ok (.iconst 1, 1) := by decide +kernel
theorem dX4_isWithinDays_28 : decode cX4_isWithinDays 28 = .ok (.goto 4, 3) := by decide +kernel
theorem dX4_isWithinDays_31 : decode cX4_isWithinDays 31 = .ok (.iconst 0, 1) := by decide +kernel
theorem dX4_isWithinDays_32 : decode cX4_isWithinDays 32 = .ok (.ireturn, 1) := by decide +kernel
theorem dX0_isFull_0 : decode cX0_isFull 0 = .ok (.aload_n 0, 1) := by decide +kernel
theorem dX0_isFull_1 : decode cX0_isFull 1 = .ok (.getfield 25, 3) := by decide +kernel
theorem dX0_isFull_4 : decode cX0_isFull 4 = .ok (.iconst 4, 1) := by decide +kernel
theorem dX0_isFull_5 : decode cX0_isFull 5 = .ok (.if_icmp .lt 7, 3) := by decide +kernel
theorem dX0_isFull_8 : decode cX0_isFull 8 = .ok (.iconst 1, 1) := by decide +kernel
theorem dX0_isFull_9 : decode cX0_isFull 9 = .ok (.goto 4, 3) := by decide +kernel
theorem dX0_isFull_12 : decode cX0_isFull 12 = .ok (.iconst 0, 1) := by decide +kernel
theorem dX0_isFull_13 : decode cX0_isFull 13 = .ok (.ireturn, 1) := by decide +kernel
theorem dX0_add_0 : decode cX0_add 0 = .ok (.aload_n 0, 1) := by decide +kernel
theorem dX0_add_1 : decode cX0_add 1 = .ok (.getfield 9, 3) := by decide +kernel
theorem dX0_add_4 : decode cX0_add 4 = .ok (.aload_n 0, 1) := by decide +kernel
theorem dX0_add_5 : decode cX0_add 5 = .ok (.getfield 25, 3) := by decide +kernel
theorem dX0_add_8 : decode cX0_add 8 = .ok (.iload_n 2, 1) := by decide +kernel
theorem dX0_add_9 : decode cX0_add 9 = .ok (.iastore, 1) := by decide +kernel
theorem dX0_add_10 : decode cX0_add 10 = .ok (.aload_n 0, 1) := by decide +kernel
theorem dX0_add_11 : decode cX0_add 11 = .ok (.getfield 15, 3) := by decide +kernel
theorem dX0_add_14 : decode cX0_add 14 = .ok (.aload_n 0, 1) := by decide +kernel
theorem dX0_add_15 : decode cX0_add 15 = .ok (.getfield 25, 3) := by decide +kernel
theorem dX0_add_18 : decode cX0_add 18 = .ok (.iload_n 1, 1) := by decide +kernel
theorem dX0_add_19 : decode cX0_add 19 = .ok (.iastore, 1) := by decide +kernel
theorem dX0_add_20 : decode cX0_add 20 = .ok (.aload_n 0, 1) := by decide +kernel
theorem dX0_add_21 : decode cX0_add 21 = .ok (.dup, 1) := by decide +kernel
theorem dX0_add_22 : decode cX0_add 22 = .ok (.getfield 25, 3) := by decide +kernel
theorem dX0_add_25 : decode cX0_add 25 = .ok (.iconst 1, 1) := by decide +kernel
theorem dX0_add_26 : decode cX0_add 26 = .ok (.iadd, 1) := by decide +kernel
theorem dX0_add_27 : decode cX0_add 27 = .ok (.putfield 25, 3) := by decide +kernel
theorem dX0_add_30 : decode cX0_add 30 = .ok (.aload_n 0, 1) := by decide +kernel
theorem dX0_add_31 : decode cX0_add 31 = .ok (.getfield 25, 3) := by decide +kernel
theorem dX0_add_34 : decode cX0_add 34 = .ok (.iconst 1, 1) := by decide +kernel
theorem dX0_add_35 : decode cX0_add 35 = .ok (.isub, 1) := by decide +kernel
theorem dX0_add_36 : decode cX0_add 36 = .ok (.ireturn, 1) := by decide +kernel
theorem dX4_rule_0 : decode cX4_rule 0 = .ok (.aload_n 0, 1) := by decide +kernel
theorem dX4_rule_1 : decode cX4_rule 1 = .ok (.iload_n 1, 1) := by decide +kernel
theorem dX4_rule_2 : decode cX4_rule 2 = .ok (.iload_n 2, 1) := by decide +kernel
theorem dX4_rule_3 : decode cX4_rule 3 = .ok (.iload_n 3, 1) := by decide +kernel
theorem dX4_rule_4 : decode cX4_rule 4 = .ok (.iload 4, 2) := by decide +kernel
theorem dX4_rule_6 : decode cX4_rule 6 = .ok (.invokevirtual 73, 3) := by decide +kernel
theorem dX4_rule_9 : decode cX4_rule 9 = .ok (.ifCond .eq 13, 3) := by decide +kernel
theorem dX4_rule_12 : decode cX4_rule 12 = .ok (.aload_n 0, 1) := by decide +kernel
theorem dX4_rule_13 : decode cX4_rule 13 = .ok (.getfield 19, 3) := by decide +kernel
theorem dX4_rule_16 : decode cX4_rule 16 = .ok (.invokevirtual 77, 3) := by decide +kernel
theorem dX4_rule_19 : decode cX4_rule 19 = .ok (.ifCond .eq 5, 3) := by decide +kernel
theorem dX4_rule_22 : decode cX4_rule 22 = .ok (.iconst 0, 1) := by decide +kernel
theorem dX4_rule_23 : decode cX4_rule 23 = .ok (.ireturn, 1) := by decide +kernel
theorem dX4_rule_24 : decode cX4_rule 24 = .ok (.aload_n 0, 1) := by decide +kernel
theorem dX4_rule_25 : decode cX4_rule 25 = .ok (.getfield 19, 3) := by decide +kernel
theorem dX4_rule_28 : decode cX4_rule 28 = .ok (.iload_n 1, 1) := by decide +kernel
theorem dX4_rule_29 : decode cX4_rule 29 = .ok (.iload_n 2, 1) := by decide +kernel
theorem dX4_rule_30 : decode cX4_rule 30 = .ok (.iload_n 3, 1) := by decide +kernel
theorem dX4_rule_31 : decode cX4_rule 31 = .ok (.iload 4, 2) := by decide +kernel
theorem dX4_rule_33 : decode cX4_rule 33 = .ok (.invokevirtual 78, 3) := by decide +kernel
theorem dX4_rule_36 : decode cX4_rule 36 = .ok (.iconst 1, 1) := by decide +kernel
theorem dX4_rule_37 : decode cX4_rule 37 = .ok (.ireturn, 1) := by decide +kernel
theorem dX4_isRule_0 : decode cX4_isRule 0 = .ok (.iload_n 1, 1) := by decide +kernel
theorem dX4_isRule_1 : decode cX4_isRule 1 = .ok (.ifCond .lt 19, 3) := by decide +kernel
theorem dX4_isRule_4 : decode cX4_isRule 4 = .ok (.iload_n 1, 1) := by decide +kernel
theorem dX4_isRule_5 : decode cX4_isRule 5 = .ok (.iconst 3, 1) := by decide +kernel
theorem dX4_isRule_6 : decode cX4_isRule 6 = .ok (.if_icmp .gt 14, 3) := by decide +kernel
theorem dX4_isRule_9 : decode cX4_isRule 9 = .ok (.aload_n 0, 1) := by decide +kernel
theorem dX4_isRule_10 : decode cX4_isRule 10 = .ok (.getfield 12, 3) := by decide +kernel
theorem dX4_isRule_13 : decode cX4_isRule 13 = .ok (.iload_n 2, 1) := by decide +kernel
theorem dX4_isRule_14 : decode cX4_isRule 14 = .ok (.invokevirtual 81, 3) := by decide +kernel
theorem dX4_isRule_17 : decode cX4_isRule 17 = .ok (.ifCond .ne 5, 3) := by decide +kernel
theorem dX4_isRule_20 : decode cX4_isRule 20 = .ok (.iconst 0, 1) := by decide +kernel
theorem dX4_isRule_21 : decode cX4_isRule 21 = .ok (.ireturn, 1) := by decide +kernel
theorem dX4_isRule_22 : decode cX4_isRule 22 = .ok (.iload_n 1, 1) := by decide +kernel
theorem dX4_isRule_23 : decode cX4_isRule 23 = .ok (.ifCond .eq 8, 3) := by decide +kernel
theorem dX4_isRule_26 : decode cX4_isRule 26 = .ok (.iload_n 1, 1) := by decide +kernel
theorem dX4_isRule_27 : decode cX4_isRule 27 = .ok (.iconst 1, 1) := by decide +kernel
theorem dX4_isRule_28 : decode cX4_isRule 28 = .ok (.if_icmp .ne 7, 3) := by decide +kernel
theorem dX4_isRule_31 : decode cX4_isRule 31 = .ok (.iconst 1, 1) := by decide +kernel
theorem dX4_isRule_32 : decode cX4_isRule 32 = .ok (.goto 4, 3) := by decide +kernel
theorem dX4_isRule_35 : decode cX4_isRule 35 = .ok (.iconst 0, 1) := by decide +kernel
theorem dX4_isRule_36 : decode cX4_isRule 36 = .ok (.istore 5, 2) := by decide +kernel
theorem dX4_isRule_38 : decode cX4_isRule 38 = .ok (.iload 5, 2) := by decide +kernel
theorem dX4_isRule_40 : decode cX4_isRule 40 = .ok (.ifCond .eq 21, 3) := by decide +kernel
theorem dX4_isRule_43 : decode cX4_isRule 43 = .ok (.aload_n 0, 1) := by decide +kernel
theorem dX4_isRule_44 : decode cX4_isRule 44 = .ok (.getfield 12, 3) := by decide +kernel
theorem dX4_isRule_47 : decode cX4_isRule 47 = .ok (.iload_n 3, 1) := by decide +kernel
theorem dX4_isRule_48 : decode cX4_isRule 48 = .ok (.invokevirtual 81, 3) := by decide +kernel
theorem dX4_isRule_51 : decode cX4_isRule 51 = .ok (.ifCond .eq 8, 3) := by decide +kernel
theorem dX4_isRule_54 : decode cX4_isRule 54 = .ok (.iload_n 2, 1) := by decide +kernel
theorem dX4_isRule_55 : decode cX4_isRule 55 = .ok (.iload_n 3, 1) := by decide +kernel
theorem dX4_isRule_56 : decode cX4_isRule 56 = .ok (.if_icmp .ne 5, 3) := by decide +kernel
theorem dX4_isRule_59 : decode cX4_isRule 59 = .ok (.iconst 0, 1) := by decide +kernel
theorem dX4_isRule_60 : decode cX4_isRule 60 = .ok (.ireturn, 1) := by decide +kernel
theorem dX4_isRule_61 : decode cX4_isRule 61 = .ok (.iload_n 1, 1) := by decide +kernel
theorem dX4_isRule_62 : decode cX4_isRule 62 = .ok (.iconst 1, 1) := by decide +kernel
theorem dX4_isRule_63 : decode cX4_isRule 63 = .ok (.if_icmp .eq 11, 3) := by decide +kernel
theorem dX4_isRule_66 : decode cX4_isRule 66 = .ok (.iload 4, 2) := by decide +kernel
theorem dX4_isRule_68 : decode cX4_isRule 68 = .ok (.invokestatic 97, 3) := by decide +kernel
theorem dX4_isRule_71 : decode cX4_isRule 71 = .ok (.ifCond .eq 7, 3) := by decide +kernel
theorem dX4_isRule_74 : decode cX4_isRule 74 = .ok (.iconst 1, 1) := by decide +kernel
theorem dX4_isRule_75 : decode cX4_isRule 75 = .ok (.goto 4, 3) := by decide +kernel
theorem dX4_isRule_78 : decode cX4_isRule 78 = .ok (.iconst 0, 1) := by decide +kernel
theorem dX4_isRule_79 : decode cX4_isRule 79 = .ok (.ireturn, 1) := by decide +kernel
theorem dX0_has_0 : decode cX0_has 0 = .ok (.iload_n 1, 1) := by decide +kernel
theorem dX0_has_1 : decode cX0_has 1 = .ok (.ifCond .lt 15, 3) := by decide +kernel
theorem dX0_has_4 : decode cX0_has 4 = .ok (.iload_n 1, 1) := by decide +kernel
theorem dX0_has_5 : decode cX0_has 5 = .ok (.aload_n 0, 1) := by decide +kernel
theorem dX0_has_6 : decode cX0_has 6 = .ok (.getfield 25, 3) := by decide +kernel
theorem dX0_has_9 : decode cX0_has 9 = .ok (.if_icmp .ge 7, 3) := by decide +kernel
theorem dX0_has_12 : decode cX0_has 12 = .ok (.iconst 1, 1) := by decide +kernel
theorem dX0_has_13 : decode cX0_has 13 = .ok (.goto 4, 3) := by decide +kernel
theorem dX0_has_16 : decode cX0_has 16 = .ok (.iconst 0, 1) := by decide +kernel
theorem dX0_has_17 : decode cX0_has 17 = .ok (.ireturn, 1) := by decide +kernel
theorem dX4_isNumber_0 : decode cX4_isNumber 0 = .ok (.iload_n 0, 1) := by decide +kernel
theorem dX4_isNumber_1 : decode cX4_isNumber 1 = .ok (.ifCond .lt 13, 3) := by decide +kernel
theorem dX4_isNumber_4 : decode cX4_isNumber 4 = .ok (.iload_n 0, 1) := by decide +kernel
theorem dX4_isNumber_5 : decode cX4_isNumber 5 = .ok (.bipush 10, 2) := by decide +kernel
theorem dX4_isNumber_7 : decode cX4_isNumber 7 = .ok (.if_icmp .gt 7, 3) := by decide +kernel
theorem dX4_isNumber_10 : decode cX4_isNumber 10 = .ok (.iconst 1, 1) := by decide +kernel
theorem dX4_isNumber_11 : decode cX4_isNumber 11 = .ok (.goto 4, 3) := by decide +kernel
theorem dX4_isNumber_14 : decode cX4_isNumber 14 = .ok (.iconst 0, 1) := by decide +kernel
theorem dX4_isNumber_15 : decode cX4_isNumber 15 = .ok (.ireturn, 1) := by decide +kernel
theorem dX1_isFull_0 : decode cX1_isFull 0 = .ok (.aload_n 0, 1) := by decide +kernel
theorem dX1_isFull_1 : decode cX1_isFull 1 = .ok (.getfield 24, 3) := by decide +kernel
theorem dX1_isFull_4 : decode cX1_isFull 4 = .ok (.bipush 8, 2) := by decide +kernel
theorem dX1_isFull_6 : decode cX1_isFull 6 = .ok (.if_icmp .lt 7, 3) := by decide +kernel
theorem dX1_isFull_9 : decode cX1_isFull 9 = .ok (.iconst 1, 1) := by decide +kernel
theorem dX1_isFull_10 : decode cX1_isFull 10 = .ok (.goto 4, 3) := by decide +kernel
theorem dX1_isFull_13 : decode cX1_isFull 13 = .ok (.iconst 0, 1) := by decide +kernel
theorem dX1_isFull_14 : decode cX1_isFull 14 = .ok (.ireturn, 1) := by decide +kernel
theorem dX1_add_0 : decode cX1_add 0 = .ok (.aload_n 0, 1) := by decide +kernel
theorem dX1_add_1 : decode cX1_add 1 = .ok (.getfield 9, 3) := by decide +kernel
theorem dX1_add_4 : decode cX1_add 4 = .ok (.aload_n 0, 1) := by decide +kernel
theorem dX1_add_5 : decode cX1_add 5 = .ok (.getfield 24, 3) := by decide +kernel
theorem dX1_add_8 : decode cX1_add 8 = .ok (.iload_n 1, 1) := by decide +kernel
theorem dX1_add_9 : decode cX1_add 9 = .ok (.iastore, 1) := by decide +kernel
theorem dX1_add_10 : decode cX1_add 10 = .ok (.aload_n 0, 1) := by decide +kernel
theorem dX1_add_11 : decode cX1_add 11 = .ok (.getfield 15, 3) := by decide +kernel
theorem dX1_add_14 : decode cX1_add 14 = .ok (.aload_n 0, 1) := by decide +kernel
theorem dX1_add_15 : decode cX1_add 15 = .ok (.getfield 24, 3) := by decide +kernel
theorem dX1_add_18 : decode cX1_add 18 = .ok (.iload_n 2, 1) := by decide +kernel
theorem dX1_add_19 : decode cX1_add 19 = .ok (.iastore, 1) := by decide +kernel
theorem dX1_add_20 : decode cX1_add 20 = .ok (.aload_n 0, 1) := by decide +kernel
theorem dX1_add_21 : decode cX1_add 21 = .ok (.getfield 18, 3) := by decide +kernel
theorem dX1_add_24 : decode cX1_add 24 = .ok (.aload_n 0, 1) := by decide +kernel
theorem dX1_add_25 : decode cX1_add 25 = .ok (.getfield 24, 3) := by decide +kernel
theorem dX1_add_28 : decode cX1_add 28 = .ok (.iload_n 3, 1) := by decide +kernel
theorem dX1_add_29 : decode cX1_add 29 = .ok (.iastore, 1) := by decide +kernel
theorem dX1_add_30 : decode cX1_add 30 = .ok (.aload_n 0, 1) := by decide +kernel
theorem dX1_add_31 : decode cX1_add 31 = .ok (.getfield 21, 3) := by decide +kernel
theorem dX1_add_34 : decode cX1_add 34 = .ok (.aload_n 0, 1) := by decide +kernel
theorem dX1_add_35 : decode cX1_add 35 = .ok (.getfield 24, 3) := by decide +kernel
theorem dX1_add_38 : decode cX1_add 38 = .ok (.iload 4, 2) := by decide +kernel
theorem dX1_add_40 : decode cX1_add 40 = .ok (.iastore, 1) := by decide +kernel
theorem dX1_add_41 : decode cX1_add 41 = .ok (.aload_n 0, 1) := by decide +kernel
theorem dX1_add_42 : decode cX1_add 42 = .ok (.dup, 1) := by decide +kernel
theorem dX1_add_43 : decode cX1_add 43 = .ok (.getfield 24, 3) := by decide +kernel
theorem dX1_add_46 : decode cX1_add 46 = .ok (.iconst 1, 1) := by decide +kernel
theorem dX1_add_47 : decode cX1_add 47 = .ok (.iadd, 1) := by decide +kernel
theorem dX1_add_48 : decode cX1_add 48 = .ok (.putfield 24, 3) := by decide +kernel
theorem dX1_add_51 : decode cX1_add 51 = .ok (.return_, 1) := by decide +kernel
theorem dX4_freeze_0 : decode cX4_freeze 0 = .ok (.aload_n 0, 1) := by decide +kernel
theorem dX4_freeze_1 : decode cX4_freeze 1 = .ok (.getfield 12, 3) := by decide +kernel
theorem dX4_freeze_4 : decode cX4_freeze 4 = .ok (.iload_n 1, 1) := by decide +kernel
theorem dX4_freeze_5 : decode cX4_freeze 5 = .ok (.invokevirtual 81, 3) := by decide +kernel
theorem dX4_freeze_8 : decode cX4_freeze 8 = .ok (.ifCond .eq 15, 3) := by decide +kernel
theorem dX4_freeze_11 : decode cX4_freeze 11 = .ok (.aload_n 0, 1) := by decide +kernel
theorem dX4_freeze_12 : decode cX4_freeze 12 = .ok (.getfield 12, 3) := by decide +kernel
theorem dX4_freeze_15 : decode cX4_freeze 15 = .ok (.getfield 84, 3) := by decide +kernel
theorem dX4_freeze_18 : decode cX4_freeze 18 = .ok (.iload_n 1, 1) := by decide +kernel
theorem dX4_freeze_19 : decode cX4_freeze 19 = .ok (.baload, 1) := by decide +kernel
theorem dX4_freeze_20 : decode cX4_freeze 20 = .ok (.ifCond .eq 5, 3) := by decide +kernel
theorem dX4_freeze_23 : decode cX4_freeze 23 = .ok (.iconst 0, 1) := by decide +kernel
theorem dX4_freeze_24 : decode cX4_freeze 24 = .ok (.ireturn, 1) := by decide +kernel
theorem dX4_freeze_25 : decode cX4_freeze 25 = .ok (.aload_n 0, 1) := by decide +kernel
theorem dX4_freeze_26 : decode cX4_freeze 26 = .ok (.getfield 12, 3) := by decide +kernel
theorem dX4_freeze_29 : decode cX4_freeze 29 = .ok (.getfield 84, 3) := by decide +kernel
theorem dX4_freeze_32 : decode cX4_freeze 32 = .ok (.iload_n 1, 1) := by decide +kernel
theorem dX4_freeze_33 : decode cX4_freeze 33 = .ok (.iconst 1, 1) := by decide +kernel
theorem dX4_freeze_34 : decode cX4_freeze 34 = .ok (.bastore, 1) := by decide +kernel
theorem dX4_freeze_35 : decode cX4_freeze 35 = .ok (.iconst 1, 1) := by decide +kernel
theorem dX4_freeze_36 : decode cX4_freeze 36 = .ok (.ireturn, 1) := by decide +kernel
theorem dX4_out_0 : decode cX4_out 0 = .ok (.aload_n 0, 1) := by decide +kernel
theorem dX4_out_1 : decode cX4_out 1 = .ok (.iload_n 1, 1) := by decide +kernel
theorem dX4_out_2 : decode cX4_out 2 = .ok (.invokevirtual 58, 3) := by decide +kernel
theorem dX4_out_5 : decode cX4_out 5 = .ok (.ifCond .eq 29, 3) := by decide +kernel
theorem dX4_out_8 : decode cX4_out 8 = .ok (.iload_n 2, 1) := by decide +kernel
theorem dX4_out_9 : decode cX4_out 9 = .ok (.ifCond .lt 25, 3) := by decide +kernel
theorem dX4_out_12 : decode cX4_out 12 = .ok (.iload_n 2, 1) := by decide +kernel
theorem dX4_out_13 : decode cX4_out 13 = .ok (.iload_n 3, 1) := by decide +kernel
theorem dX4_out_14 : decode cX4_out 14 = .ok (.if_icmp .ge 20, 3) := by decide +kernel
theorem dX4_out_17 : decode cX4_out 17 = .ok (.iload_n 3, 1) := by decide +kernel
theorem dX4_out_18 : decode cX4_out 18 = .ok (.aload_n 0, 1) := by decide +kernel
theorem dX4_out_19 : decode cX4_out 19 = .ok (.getfield 55, 3) := by decide +kernel
theorem dX4_out_22 : decode cX4_out 22 = .ok (.if_icmp .gt 12, 3) := by decide +kernel
theorem dX4_out_25 : decode cX4_out 25 = .ok (.aload_n 0, 1) := by decide +kernel
theorem dX4_out_26 : decode cX4_out 26 = .ok (.getfield 88, 3) := by decide +kernel
theorem dX4_out_29 : decode cX4_out 29 = .ok (.bipush 12, 2) := by decide +kernel
theorem dX4_out_31 : decode cX4_out 31 = .ok (.if_icmp .lt 5, 3) := by decide +kernel
theorem dX4_out_34 : decode cX4_out 34 = .ok (.iconst 0, 1) := by decide +kernel
theorem dX4_out_35 : decode cX4_out 35 = .ok (.ireturn, 1) := by decide +kernel
theorem dX4_out_36 : decode cX4_out 36 = .ok (.aload_n 0, 1) := by decide +kernel
theorem dX4_out_37 : decode cX4_out 37 = .ok (.dup, 1) := by decide +kernel
theorem dX4_out_38 : decode cX4_out 38 = .ok (.getfield 88, 3) := by decide +kernel
theorem dX4_out_41 : decode cX4_out 41 = .ok (.iconst 1, 1) := by decide +kernel
theorem dX4_out_42 : decode cX4_out 42 = .ok (.iadd, 1) := by decide +kernel
theorem dX4_out_43 : decode cX4_out 43 = .ok (.putfield 88, 3) := by decide +kernel
theorem dX4_out_46 : decode cX4_out 46 = .ok (.aload_n 0, 1) := by decide +kernel
theorem dX4_out_47 : decode cX4_out 47 = .ok (.dup, 1) := by decide +kernel
theorem dX4_out_48 : decode cX4_out 48 = .ok (.getfield 91, 3) := by decide +kernel
theorem dX4_out_51 : decode cX4_out 51 = .ok (.iload_n 2, 1) := by decide +kernel
theorem dX4_out_52 : decode cX4_out 52 = .ok (.iload_n 3, 1) := by decide +kernel
theorem dX4_out_53 : decode cX4_out 53 = .ok (.iconst 1, 1) := by decide +kernel
theorem dX4_out_54 : decode cX4_out 54 = .ok (.isub, 1) := by decide +kernel
theorem dX4_out_55 : decode cX4_out 55 = .ok (.invokestatic 94, 3) := by decide +kernel
theorem dX4_out_58 : decode cX4_out 58 = .ok (.iload_n 1, 1) := by decide +kernel
theorem dX4_out_59 : decode cX4_out 59 = .ok (.bipush 10, 2) := by decide +kernel
theorem dX4_out_61 : decode cX4_out 61 = .ok (.imul, 1) := by decide +kernel
theorem dX4_out_62 : decode cX4_out 62 = .ok (.ishl, 1) := by decide +kernel
theorem dX4_out_63 : decode cX4_out 63 = .ok (.ior, 1) := by decide +kernel
theorem dX4_out_64 : decode cX4_out 64 = .ok (.putfield 91, 3) := by decide +kernel
theorem dX4_out_67 : decode cX4_out 67 = .ok (.iconst 1, 1) := by decide +kernel
theorem dX4_out_68 : decode cX4_out 68 = .ok (.ireturn, 1) := by decide +kernel
theorem dX4_daysFromTo_0 : decode cX4_daysFromTo 0 = .ok (.iload_n 0, 1) := by decide +kernel
theorem dX4_daysFromTo_1 : decode cX4_daysFromTo 1 = .ok (.iconst 0, 1) := by decide +kernel
theorem dX4_daysFromTo_2 : decode cX4_daysFromTo 2 = .ok (.invokestatic 48, 3) := by decide +kernel
theorem dX4_daysFromTo_5 : decode cX4_daysFromTo 5 = .ok (.istore_n 2, 1) := by decide +kernel
theorem dX4_daysFromTo_6 : decode cX4_daysFromTo 6 = .ok (.iload_n 1, 1) := by decide +kernel
theorem dX4_daysFromTo_7 : decode cX4_daysFromTo 7 = .ok (.bipush 9, 2) := by decide +kernel
theorem dX4_daysFromTo_9 : decode cX4_daysFromTo 9 = .ok (.invokestatic 42, 3) := by decide +kernel
theorem dX4_daysFromTo_12 : decode cX4_daysFromTo 12 = .ok (.istore_n 3, 1) := by decide +kernel
theorem dX4_daysFromTo_13 : decode cX4_daysFromTo 13 = .ok (.iload_n 2, 1) := by decide +kernel
theorem dX4_daysFromTo_14 : decode cX4_daysFromTo 14 = .ok (.iload_n 3, 1) := by decide +kernel
theorem dX4_daysFromTo_15 : decode cX4_daysFromTo 15 = .ok (.if_icmp .le 7, 3) := by decide +kernel
theorem dX4_daysFromTo_18 : decode cX4_daysFromTo 18 = .ok (.iconst 0, 1) := by decide +kernel
theorem dX4_daysFromTo_19 : decode cX4_daysFromTo 19 = .ok (.goto 12, 3) := by decide +kernel
theorem dX4_daysFromTo_22 : decode cX4_daysFromTo 22 = .ok (.iconst 1, 1) := by decide +kernel
theorem dX4_daysFromTo_23 : decode cX4_daysFromTo 23 = .ok (.iload_n 3, 1) := by decide +kernel
theorem dX4_daysFromTo_24 : decode cX4_daysFromTo 24 = .ok (.iconst 1, 1) := by decide +kernel
theorem dX4_daysFromTo_25 : decode cX4_daysFromTo 25 = .ok (.iadd, 1) := by decide +kernel
theorem dX4_daysFromTo_26 : decode cX4_daysFromTo 26 = .ok (.ishl, 1) := by decide +kernel
theorem dX4_daysFromTo_27 : decode cX4_daysFromTo 27 = .ok (.iconst 1, 1) := by decide +kernel
theorem dX4_daysFromTo_28 : decode cX4_daysFromTo 28 = .ok (.iload_n 2, 1) := by decide +kernel
theorem dX4_daysFromTo_29 : decode cX4_daysFromTo 29 = .ok (.ishl, 1) := by decide +kernel
theorem dX4_daysFromTo_30 : decode cX4_daysFromTo 30 = .ok (.isub, 1) := by decide +kernel
theorem dX4_daysFromTo_31 : decode cX4_daysFromTo 31 = .ok (.ireturn, 1) := by decide +kernel
theorem dX4_late_0 : decode cX4_late 0 = .ok (.aload_n 0, 1) := by decide +kernel
theorem dX4_late_1 : decode cX4_late 1 = .ok (.getfield 12, 3) := by decide +kernel
theorem dX4_late_4 : decode cX4_late 4 = .ok (.iload_n 1, 1) := by decide +kernel
theorem dX4_late_5 : decode cX4_late 5 = .ok (.invokevirtual 81, 3) := by decide +kernel
theorem dX4_late_8 : decode cX4_late 8 = .ok (.ifCond .eq 10, 3) := by decide +kernel
theorem dX4_late_11 : decode cX4_late 11 = .ok (.iload_n 2, 1) := by decide +kernel
theorem dX4_late_12 : decode cX4_late 12 = .ok (.invokestatic 97, 3) := by decide +kernel
theorem dX4_late_15 : decode cX4_late 15 = .ok (.ifCond .ne 5, 3) := by decide +kernel
theorem dX4_late_18 : decode cX4_late 18 = .ok (.iconst 0, 1) := by decide +kernel
theorem dX4_late_19 : decode cX4_late 19 = .ok (.ireturn, 1) := by decide +kernel
theorem dX4_late_20 : decode cX4_late 20 = .ok (.aload_n 0, 1) := by decide +kernel
theorem dX4_late_21 : decode cX4_late 21 = .ok (.getfield 12, 3) := by decide +kernel
theorem dX4_late_24 : decode cX4_late 24 = .ok (.getfield 100, 3) := by decide +kernel
theorem dX4_late_27 : decode cX4_late 27 = .ok (.iload_n 1, 1) := by decide +kernel
theorem dX4_late_28 : decode cX4_late 28 = .ok (.aload_n 0, 1) := by decide +kernel
theorem dX4_late_29 : decode cX4_late 29 = .ok (.getfield 12, 3) := by decide +kernel
theorem dX4_late_32 : decode cX4_late 32 = .ok (.getfield 104, 3) := by decide +kernel
theorem dX4_late_35 : decode cX4_late 35 = .ok (.iload_n 1, 1) := by decide +kernel
theorem dX4_late_36 : decode cX4_late 36 = .ok (.iaload, 1) := by decide +kernel
theorem dX4_late_37 : decode cX4_late 37 = .ok (.invokestatic 107, 3) := by decide +kernel
theorem dX4_late_40 : decode cX4_late 40 = .ok (.iload_n 2, 1) := by decide +kernel
theorem dX4_late_41 : decode cX4_late 41 = .ok (.iadd, 1) := by decide +kernel
theorem dX4_late_42 : decode cX4_late 42 = .ok (.iastore, 1) := by decide +kernel
theorem dX4_late_43 : decode cX4_late 43 = .ok (.iconst 1, 1) := by decide +kernel
theorem dX4_late_44 : decode cX4_late 44 = .ok (.ireturn, 1) := by decide +kernel
theorem dX4_startOfPlace_0 : decode cX4_startOfPlace 0 = .ok (.iload_n 0, 1) := by decide +kernel
theorem dX4_startOfPlace_1 : decode cX4_startOfPlace 1 = .ok (.bipush 10, 2) := by decide +kernel
theorem dX4_startOfPlace_3 : decode cX4_startOfPlace 3 = .ok (.irem, 1) := by decide +kernel
theorem dX4_startOfPlace_4 : decode cX4_startOfPlace 4 = .ok (.ireturn, 1) := by decide +kernel
theorem dX4_run_0 : decode cX4_run 0 = .ok (.lload_n 1, 1) := by decide +kernel
theorem dX4_run_1 : decode cX4_run 1 = .ok (.lconst 0, 1) := by decide +kernel
theorem dX4_run_2 : decode cX4_run 2 = .ok (.lcmp, 1) := by decide +kernel
theorem dX4_run_3 : decode cX4_run 3 = .ok (.ifCond .lt 11, 3) := by decide +kernel
theorem dX4_run_6 : decode cX4_run 6 = .ok (.lload_n 1, 1) := by decide +kernel
theorem dX4_run_7 : decode cX4_run 7 = .ok (.ldc2_w 111, 3) := by decide +kernel
theorem dX4_run_10 : decode cX4_run 10 = .ok (.lcmp, 1) := by decide +kernel
theorem dX4_run_11 : decode cX4_run 11 = .ok (.ifCond .le 7, 3) := by decide +kernel
theorem dX4_run_14 : decode cX4_run 14 = .ok (.sipush (-200), 3) := by decide +kernel
theorem dX4_run_17 : decode cX4_run 17 = .ok (.ireturn, 1) := by decide +kernel
theorem dX4_run_18 : decode cX4_run 18 = .ok (.aload_n 0, 1) := by decide +kernel
theorem dX4_run_19 : decode cX4_run 19 = .ok (.getfield 26, 3) := by decide +kernel
theorem dX4_run_22 : decode cX4_run 22 = .ok (.aload_n 0, 1) := by decide +kernel
theorem dX4_run_23 : decode cX4_run 23 = .ok (.getfield 12, 3) := by decide +kernel
theorem dX4_run_26 : decode cX4_run 26 = .ok (.aload_n 0, 1) := by decide +kernel
theorem dX4_run_27 : decode cX4_run 27 = .ok (.getfield 51, 3) := by decide +kernel
theorem dX4_run_30 : decode cX4_run 30 = .ok (.aload_n 0, 1) := by decide +kernel
theorem dX4_run_31 : decode cX4_run 31 = .ok (.getfield 55, 3) := by decide +kernel
theorem dX4_run_34 : decode cX4_run 34 = .ok (.aload_n 0, 1) := by decide +kernel
theorem dX4_run_35 : decode cX4_run 35 = .ok (.getfield 91, 3) := by decide +kernel
theorem dX4_run_38 : decode cX4_run 38 = .ok (.invokevirtual 113, 3) := by decide +kernel
theorem dX4_run_41 : decode cX4_run 41 = .ok (.aload_n 0, 1) := by decide +kernel
theorem dX4_run_42 : decode cX4_run 42 = .ok (.getfield 26, 3) := by decide +kernel
theorem dX4_run_45 : decode cX4_run 45 = .ok (.aload_n 0, 1) := by decide +kernel
theorem dX4_run_46 : decode cX4_run 46 = .ok (.getfield 19, 3) := by decide +kernel
theorem dX4_run_49 : decode cX4_run 49 = .ok (.iconst (-1), 1) := by decide +kernel
theorem dX4_run_50 : decode cX4_run 50 = .ok (.invokevirtual 117, 3) := by decide +kernel
theorem dX4_run_53 : decode cX4_run 53 = .ok (.aload_n 0, 1) := by decide +kernel
theorem dX4_run_54 : decode cX4_run 54 = .ok (.getfield 26, 3) := by decide +kernel
theorem dX4_run_57 : decode cX4_run 57 = .ok (.invokevirtual 121, 3) := by decide +kernel
theorem dX4_run_60 : decode cX4_run 60 = .ok (.ifCond .ne 15, 3) := by decide +kernel
theorem dX4_run_63 : decode cX4_run 63 = .ok (.aload_n 0, 1) := by decide +kernel
theorem dX4_run_64 : decode cX4_run 64 = .ok (.iconst 5, 1) := by decide +kernel
theorem dX4_run_65 : decode cX4_run 65 = .ok (.putfield 124, 3) := by decide +kernel
theorem dX4_run_68 : decode cX4_run 68 = .ok (.iconst (-1), 1) := by decide +kernel
theorem dX4_run_69 : decode cX4_run 69 = .ok (.aload_n 0, 1) := by decide +kernel
theorem dX4_run_70 : decode cX4_run 70 = .ok (.invokevirtual 127, 3) := by decide +kernel
theorem dX4_run_73 : decode cX4_run 73 = .ok (.isub, 1) := by decide +kernel
theorem dX4_run_74 : decode cX4_run 74 = .ok (.ireturn, 1) := by decide +kernel
theorem dX4_run_75 : decode cX4_run 75 = .ok (.lload_n 1, 1) := by decide +kernel
theorem dX4_run_76 : decode cX4_run 76 = .ok (.l2i, 1) := by decide +kernel
theorem dX4_run_77 : decode cX4_run 77 = .ok (.istore_n 3, 1) := by decide +kernel
theorem dX4_run_78 : decode cX4_run 78 = .ok (.aload_n 0, 1) := by decide +kernel
theorem dX4_run_79 : decode cX4_run 79 = .ok (.getfield 26, 3) := by decide +kernel
theorem dX4_run_82 : decode cX4_run 82 = .ok (.iload_n 3, 1) := by decide +kernel
theorem dX4_run_83 : decode cX4_run 83 = .ok (.invokevirtual 131, 3) := by decide +kernel
theorem dX4_run_86 : decode cX4_run 86 = .ok (.ifCond .ne 13, 3) := by decide +kernel
theorem dX4_run_89 : decode cX4_run 89 = .ok (.aload_n 0, 1) := by decide +kernel
theorem dX4_run_90 : decode cX4_run 90 = .ok (.iload_n 3, 1) := by decide +kernel
theorem dX4_run_91 : decode cX4_run 91 = .ok (.iconst 1, 1) := by decide +kernel
theorem dX4_run_92 : decode cX4_run 92 = .ok (.iadd, 1) := by decide +kernel
theorem dX4_run_93 : decode cX4_run 93 = .ok (.putfield 124, 3) := by decide +kernel
theorem dX4_run_96 : decode cX4_run 96 = .ok (.bipush (-100), 2) := by decide +kernel
theorem dX4_run_98 : decode cX4_run 98 = .ok (.ireturn, 1) := by decide +kernel
theorem dX4_run_99 : decode cX4_run 99 = .ok (.aload_n 0, 1) := by decide +kernel
theorem dX4_run_100 : decode cX4_run 100 = .ok (.invokevirtual 134, 3) := by decide +kernel
theorem dX4_run_103 : decode cX4_run 103 = .ok (.aload_n 0, 1) := by decide +kernel
theorem dX4_run_104 : decode cX4_run 104 = .ok (.getfield 124, 3) := by decide +kernel
theorem dX4_run_107 : decode cX4_run 107 = .ok (.ireturn, 1) := by decide +kernel
theorem dX2_load_0 : decode cX2_load 0 = .ok (.aload_n 0, 1) := by decide +kernel
theorem dX2_load_1 : decode cX2_load 1 = .ok (.aload_n 1, 1) := by decide +kernel
theorem dX2_load_2 : decode cX2_load 2 = .ok (.getfield 40, 3) := by decide +kernel
theorem dX2_load_5 : decode cX2_load 5 = .ok (.putfield 45, 3) := by decide +kernel
theorem dX2_load_8 : decode cX2_load 8 = .ok (.iconst 0, 1) := by decide +kernel
theorem dX2_load_9 : decode cX2_load 9 = .ok (.istore 5, 2) := by decide +kernel
theorem dX2_load_11 : decode cX2_load 11 = .ok (.iload 5, 2) := by decide +kernel
theorem dX2_load_13 : decode cX2_load 13 = .ok (.aload_n 0, 1) := by decide +kernel
theorem dX2_load_14 : decode cX2_load 14 = .ok (.getfield 45, 3) := by decide +kernel
theorem dX2_load_17 : decode cX2_load 17 = .ok (.if_icmp .ge 102, 3) := by decide +kernel
theorem dX2_load_20 : decode cX2_load 20 = .ok (.aload_n 1, 1) := by decide +kernel
theorem dX2_load_21 : decode cX2_load 21 = .ok (.getfield 46, 3) := by decide +kernel
theorem dX2_load_24 : decode cX2_load 24 = .ok (.iload 5, 2) := by decide +kernel
theorem dX2_load_26 : decode cX2_load 26 = .ok (.iaload, 1) := by decide +kernel
theorem dX2_load_27 : decode cX2_load 27 = .ok (.istore 6, 2) := by decide +kernel
theorem dX2_load_29 : decode cX2_load 29 = .ok (.aload_n 1, 1) := by decide +kernel
theorem dX2_load_30 : decode cX2_load 30 = .ok (.getfield 47, 3) := by decide +kernel
theorem dX2_load_33 : decode cX2_load 33 = .ok (.iload 5, 2) := by decide +kernel
theorem dX2_load_35 : decode cX2_load 35 = .ok (.iaload, 1) := by decide +kernel
theorem dX2_load_36 : decode cX2_load 36 = .ok (.iload_n 3, 1) := by decide +kernel
theorem dX2_load_37 : decode cX2_load 37 = .ok (.iload 6, 2) := by decide +kernel
theorem dX2_load_39 : decode cX2_load 39 = .ok (.isub, 1) := by decide +kernel
theorem dX2_load_40 : decode cX2_load 40 = .ok (.invokestatic 50, 3) := by decide +kernel
theorem dX2_load_43 : decode cX2_load 43 = .ok (.istore 7, 2) := by decide +kernel
theorem dX2_load_45 : decode cX2_load 45 = .ok (.iload 7, 2) := by decide +kernel
theorem dX2_load_47 : decode cX2_load 47 = .ok (.iload 6, 2) := by decide +kernel
theorem dX2_load_49 : decode cX2_load 49 = .ok (.iload_n 2, 1) := by decide +kernel
theorem dX2_load_50 : decode cX2_load 50 = .ok (.iload 4, 2) := by decide +kernel
theorem dX2_load_52 : decode cX2_load 52 = .ok (.invokestatic 54, 3) := by decide +kernel
theorem dX2_load_55 : decode cX2_load 55 = .ok (.istore 8, 2) := by decide +kernel
theorem dX2_load_57 : decode cX2_load 57 = .ok (.aload_n 1, 1) := by decide +kernel
theorem dX2_load_58 : decode cX2_load 58 = .ok (.getfield 58, 3) := by decide +kernel
theorem dX2_load_61 : decode cX2_load 61 = .ok (.iload 5, 2) := by decide +kernel
theorem dX2_load_63 : decode cX2_load 63 = .ok (.iaload, 1) := by decide +kernel
theorem dX2_load_64 : decode cX2_load 64 = .ok (.istore 9, 2) := by decide +kernel
theorem dX2_load_66 : decode cX2_load 66 = .ok (.aload_n 0, 1) := by decide +kernel
theorem dX2_load_67 : decode cX2_load 67 = .ok (.getfield 15, 3) := by decide +kernel
theorem dX2_load_70 : decode cX2_load 70 = .ok (.iload 5, 2) := by decide +kernel
theorem dX2_load_72 : decode cX2_load 72 = .ok (.iload 6, 2) := by decide +kernel
theorem dX2_load_74 : decode cX2_load 74 = .ok (.iastore, 1) := by decide +kernel
theorem dX2_load_75 : decode cX2_load 75 = .ok (.aload_n 0, 1) := by decide +kernel
theorem dX2_load_76 : decode cX2_load 76 = .ok (.getfield 18, 3) := by decide +kernel
theorem dX2_load_79 : decode cX2_load 79 = .ok (.iload 5, 2) := by decide +kernel
theorem dX2_load_81 : decode cX2_load 81 = .ok (.iload 9, 2) := by decide +kernel
theorem dX2_load_83 : decode cX2_load 83 = .ok (.iastore, 1) := by decide +kernel
theorem dX2_load_84 : decode cX2_load 84 = .ok (.aload_n 0, 1) := by decide +kernel
theorem dX2_load_85 : decode cX2_load 85 = .ok (.getfield 21, 3) := by decide +kernel
theorem dX2_load_88 : decode cX2_load 88 = .ok (.iload 5, 2) := by decide +kernel
theorem dX2_load_90 : decode cX2_load 90 = .ok (.aload_n 1, 1) := by decide +kernel
theorem dX2_load_91 : decode cX2_load 91 = .ok (.getfield 61, 3) := by decide +kernel
theorem dX2_load_94 : decode cX2_load 94 = .ok (.iload 5, 2) := by decide +kernel
theorem dX2_load_96 : decode cX2_load 96 = .ok (.baload, 1) := by decide +kernel
theorem dX2_load_97 : decode cX2_load 97 = .ok (.ifCond .eq 13, 3) := by decide +kernel
theorem dX2_load_100 : decode cX2_load 100 = .ok (.iload 8, 2) := by decide +kernel
theorem dX2_load_102 : decode cX2_load 102 = .ok (.iconst 1, 1) := by decide +kernel
theorem dX2_load_103 : decode cX2_load 103 = .ok (.iload 9, 2) := by decide +kernel
theorem dX2_load_105 : decode cX2_load 105 = .ok (.ishl, 1) := by decide +kernel
theorem dX2_load_106 : decode cX2_load 106 = .ok (.iand, 1) := by decide +kernel
theorem dX2_load_107 : decode cX2_load 107 = .ok (.goto 5, 3) := by decide +kernel
theorem dX2_load_110 : decode cX2_load 110 = .ok (.iload 8, 2) := by decide +kernel
theorem dX2_load_112 : decode cX2_load 112 = .ok (.iastore, 1) := by decide +kernel
theorem dX2_load_113 : decode cX2_load 113 = .ok (.iinc 5 1, 3) := by decide +kernel
theorem dX2_load_116 : decode cX2_load 116 = .ok (.goto (-105), 3) := by decide +kernel
theorem dX2_load_119 : decode cX2_load 119 = .ok (.return_, 1) := by decide +kernel
theorem dX2_freePlaces_0 : decode cX2_freePlaces 0 = .ok (.iconst 0, 1) := by decide +kernel
theorem dX2_freePlaces_1 : decode cX2_freePlaces 1 = .ok (.iload_n 1, 1) := by decide +kernel
theorem dX2_freePlaces_2 : decode cX2_freePlaces 2 = .ok (.iconst 1, 1) := by decide +kernel
theorem dX2_freePlaces_3 : decode cX2_freePlaces 3 = .ok (.isub, 1) := by decide +kernel
theorem dX2_freePlaces_4 : decode cX2_freePlaces 4 = .ok (.invokestatic 50, 3) := by decide +kernel
theorem dX2_freePlaces_7 : decode cX2_freePlaces 7 = .ok (.istore 4, 2) := by decide +kernel
theorem dX2_freePlaces_9 : decode cX2_freePlaces 9 = .ok (.iconst 0, 1) := by decide +kernel
theorem dX2_freePlaces_10 : decode cX2_freePlaces 10 = .ok (.istore 5, 2) := by decide +kernel
theorem dX2_freePlaces_12 : decode cX2_freePlaces 12 = .ok (.iconst 0, 1) := by decide +kernel
theorem dX2_freePlaces_13 : decode cX2_freePlaces 13 = .ok (.istore 6, 2) := by decide +kernel
theorem dX2_freePlaces_15 : decode cX2_freePlaces 15 = .ok (.iload 6, 2) := by decide +kernel
theorem dX2_freePlaces_17 : decode cX2_freePlaces 17 = .ok (.iload_n 2, 1) := by decide +kernel
theorem dX2_freePlaces_18 : decode cX2_freePlaces 18 = .ok (.bipush 10, 2) := by decide +kernel
theorem dX2_freePlaces_20 : decode cX2_freePlaces 20 = .ok (.imul, 1) := by decide +kernel
theorem dX2_freePlaces_21 : decode cX2_freePlaces 21 = .ok (.if_icmp .ge 52, 3) := by decide +kernel
theorem dX2_freePlaces_24 : decode cX2_freePlaces 24 = .ok (.iload_n 0, 1) := by decide +kernel
theorem dX2_freePlaces_25 : decode cX2_freePlaces 25 = .ok (.iload 6, 2) := by decide +kernel
theorem dX2_freePlaces_27 : decode cX2_freePlaces 27 = .ok (.invokestatic 65, 3) := by decide +kernel
theorem dX2_freePlaces_30 : decode cX2_freePlaces 30 = .ok (.ishr, 1) := by decide +kernel
theorem dX2_freePlaces_31 : decode cX2_freePlaces 31 = .ok (.iconst 1, 1) := by decide +kernel
theorem dX2_freePlaces_32 : decode cX2_freePlaces 32 = .ok (.iand, 1) := by decide +kernel
theorem dX2_freePlaces_33 : decode cX2_freePlaces 33 = .ok (.ifCond .eq 7, 3) := by decide +kernel
theorem dX2_freePlaces_36 : decode cX2_freePlaces 36 = .ok (.iconst 1, 1) := by decide +kernel
theorem dX2_freePlaces_37 : decode cX2_freePlaces 37 = .ok (.goto 4, 3) := by decide +kernel
theorem dX2_freePlaces_40 : decode cX2_freePlaces 40 = .ok (.iconst 0, 1) := by decide +kernel
theorem dX2_freePlaces_41 : decode cX2_freePlaces 41 = .ok (.istore 7, 2) := by decide +kernel
theorem dX2_freePlaces_43 : decode cX2_freePlaces 43 = .ok (.iload 7, 2) := by decide +kernel
theorem dX2_freePlaces_45 : decode cX2_freePlaces 45 = .ok (.ifCond .eq 22, 3) := by decide +kernel
theorem dX2_freePlaces_48 : decode cX2_freePlaces 48 = .ok (.iload_n 3, 1) := by decide +kernel
theorem dX2_freePlaces_49 : decode cX2_freePlaces 49 = .ok (.iload 6, 2) := by decide +kernel
theorem dX2_freePlaces_51 : decode cX2_freePlaces 51 = .ok (.ishr, 1) := by decide +kernel
theorem dX2_freePlaces_52 : decode cX2_freePlaces 52 = .ok (.iload 4, 2) := by decide +kernel
theorem dX2_freePlaces_54 : decode cX2_freePlaces 54 = .ok (.iand, 1) := by decide +kernel
theorem dX2_freePlaces_55 : decode cX2_freePlaces 55 = .ok (.ifCond .ne 12, 3) := by decide +kernel
theorem dX2_freePlaces_58 : decode cX2_freePlaces 58 = .ok (.iload 5, 2) := by decide +kernel
theorem dX2_freePlaces_60 : decode cX2_freePlaces 60 = .ok (.iconst 1, 1) := by decide +kernel
theorem dX2_freePlaces_61 : decode cX2_freePlaces 61 = .ok (.iload 6, 2) := by decide +kernel
theorem dX2_freePlaces_63 : decode cX2_freePlaces 63 = .ok (.ishl, 1) := by decide +kernel
theorem dX2_freePlaces_64 : decode cX2_freePlaces 64 = .ok (.ior, 1) := by decide +kernel
theorem dX2_freePlaces_65 : decode cX2_freePlaces 65 = .ok (.istore 5, 2) := by decide +kernel
theorem dX2_freePlaces_67 : decode cX2_freePlaces 67 = .ok (.iinc 6 1, 3) := by decide +kernel
theorem dX2_freePlaces_70 : decode cX2_freePlaces 70 = .ok (.goto (-55), 3) := by decide +kernel
theorem dX2_freePlaces_73 : decode cX2_freePlaces 73 = .ok (.iload 5, 2) := by decide +kernel
theorem dX2_freePlaces_75 : decode cX2_freePlaces 75 = .ok (.ireturn, 1) := by decide +kernel
theorem dX2_take_0 : decode cX2_take 0 = .ok (.aload_n 0, 1) := by decide +kernel
theorem dX2_take_1 : decode cX2_take 1 = .ok (.getfield 24, 3) := by decide +kernel
theorem dX2_take_4 : decode cX2_take 4 = .ok (.bipush (-10), 2) := by decide +kernel
theorem dX2_take_6 : decode cX2_take 6 = .ok (.invokestatic 69, 3) := by decide +kernel
theorem dX2_take_9 : decode cX2_take 9 = .ok (.aload_n 0, 1) := by decide +kernel
theorem dX2_take_10 : decode cX2_take 10 = .ok (.getfield 27, 3) := by decide +kernel
theorem dX2_take_13 : decode cX2_take 13 = .ok (.iconst 0, 1) := by decide +kernel
theorem dX2_take_14 : decode cX2_take 14 = .ok (.invokestatic 69, 3) := by decide +kernel
theorem dX2_take_17 : decode cX2_take 17 = .ok (.aload_n 0, 1) := by decide +kernel
theorem dX2_take_18 : decode cX2_take 18 = .ok (.getfield 21, 3) := by decide +kernel
theorem dX2_take_21 : decode cX2_take 21 = .ok (.iconst 0, 1) := by decide +kernel
theorem dX2_take_22 : decode cX2_take 22 = .ok (.aload_n 0, 1) := by decide +kernel
theorem dX2_take_23 : decode cX2_take 23 = .ok (.getfield 30, 3) := by decide +kernel
theorem dX2_take_26 : decode cX2_take 26 = .ok (.iconst 0, 1) := by decide +kernel
theorem dX2_take_27 : decode cX2_take 27 = .ok (.aload_n 0, 1) := by decide +kernel
theorem dX2_take_28 : decode cX2_take 28 = .ok (.getfield 45, 3) := by decide +kernel
theorem dX2_take_31 : decode cX2_take 31 = .ok (.invokestatic 75, 3) := by decide +kernel
theorem dX2_take_34 : decode cX2_take 34 = .ok (.iconst 0, 1) := by decide +kernel
theorem dX2_take_35 : decode cX2_take 35 = .ok (.istore_n 3, 1) := by decide +kernel
theorem dX2_take_36 : decode cX2_take 36 = .ok (.iload_n 3, 1) := by decide +kernel
theorem dX2_take_37 : decode cX2_take 37 = .ok (.aload_n 1, 1) := by decide +kernel
theorem dX2_take_38 : decode cX2_take 38 = .ok (.getfield 81, 3) := by decide +kernel
theorem dX2_take_41 : decode cX2_take 41 = .ok (.if_icmp .ge 42, 3) := by decide +kernel
theorem dX2_take_44 : decode cX2_take 44 = .ok (.iload_n 3, 1) := by decide +kernel
theorem dX2_take_45 : decode cX2_take 45 = .ok (.iload_n 2, 1) := by decide +kernel
theorem dX2_take_46 : decode cX2_take 46 = .ok (.if_icmp .eq 31, 3) := by decide +kernel
theorem dX2_take_49 : decode cX2_take 49 = .ok (.aload_n 0, 1) := by decide +kernel
theorem dX2_take_50 : decode cX2_take 50 = .ok (.aload_n 1, 1) := by decide +kernel
theorem dX2_take_51 : decode cX2_take 51 = .ok (.getfield 84, 3) := by decide +kernel
theorem dX2_take_54 : decode cX2_take 54 = .ok (.iload_n 3, 1) := by decide +kernel
theorem dX2_take_55 : decode cX2_take 55 = .ok (.iaload, 1) := by decide +kernel
theorem dX2_take_56 : decode cX2_take 56 = .ok (.aload_n 1, 1) := by decide +kernel
theorem dX2_take_57 : decode cX2_take 57 = .ok (.getfield 87, 3) := by decide +kernel
theorem dX2_take_60 : decode cX2_take 60 = .ok (.iload_n 3, 1) := by decide +kernel
theorem dX2_take_61 : decode cX2_take 61 = .ok (.iaload, 1) := by decide +kernel
theorem dX2_take_62 : decode cX2_take 62 = .ok (.aload_n 1, 1) := by decide +kernel
theorem dX2_take_63 : decode cX2_take 63 = .ok (.getfield 90, 3) := by decide +kernel
theorem dX2_take_66 : decode cX2_take 66 = .ok (.iload_n 3, 1) := by decide +kernel
theorem dX2_take_67 : decode cX2_take 67 = .ok (.iaload, 1) := by decide +kernel
theorem dX2_take_68 : decode cX2_take 68 = .ok (.aload_n 1, 1) := by decide +kernel
theorem dX2_take_69 : decode cX2_take 69 = .ok (.getfield 93, 3) := by decide +kernel
theorem dX2_take_72 : decode cX2_take 72 = .ok (.iload_n 3, 1) := by decide +kernel
theorem dX2_take_73 : decode cX2_take 73 = .ok (.iaload, 1) := by decide +kernel
theorem dX2_take_74 : decode cX2_take 74 = .ok (.invokevirtual 96, 3) := by decide +kernel
theorem dX2_take_77 : decode cX2_take 77 = .ok (.iinc 3 1, 3) := by decide +kernel
theorem dX2_take_80 : decode cX2_take 80 = .ok (.goto (-44), 3) := by decide +kernel
theorem dX2_take_83 : decode cX2_take 83 = .ok (.iconst 0, 1) := by decide +kernel
theorem dX2_take_84 : decode cX2_take 84 = .ok (.istore_n 3, 1) := by decide +kernel
theorem dX2_take_85 : decode cX2_take 85 = .ok (.iload_n 3, 1) := by decide +kernel
theorem dX2_take_86 : decode cX2_take 86 = .ok (.bipush 10, 2) := by decide +kernel
theorem dX2_take_88 : decode cX2_take 88 = .ok (.if_icmp .ge 13, 3) := by decide +kernel
theorem dX2_take_91 : decode cX2_take 91 = .ok (.aload_n 0, 1) := by decide +kernel
theorem dX2_take_92 : decode cX2_take 92 = .ok (.invokevirtual 100, 3) := by decide +kernel
theorem dX2_take_95 : decode cX2_take 95 = .ok (.iinc 3 1, 3) := by decide +kernel
theorem dX2_take_98 : decode cX2_take 98 = .ok (.goto (-13), 3) := by decide +kernel
theorem dX2_take_101 : decode cX2_take 101 = .ok (.return_, 1) := by decide +kernel
theorem dJ7_fill_0 : decode cJ7_fill 0 = .ok (.iconst 0, 1) := by decide +kernel
theorem dJ7_fill_1 : decode cJ7_fill 1 = .ok (.istore_n 2, 1) := by decide +kernel
theorem dJ7_fill_2 : decode cJ7_fill 2 = .ok (.aload_n 0, 1) := by decide +kernel
theorem dJ7_fill_3 : decode cJ7_fill 3 = .ok (.arraylength, 1) := by decide +kernel
theorem dJ7_fill_4 : decode cJ7_fill 4 = .ok (.istore_n 3, 1) := by decide +kernel
theorem dJ7_fill_5 : decode cJ7_fill 5 = .ok (.iload_n 2, 1) := by decide +kernel
theorem dJ7_fill_6 : decode cJ7_fill 6 = .ok (.iload_n 3, 1) := by decide +kernel
theorem dJ7_fill_7 : decode cJ7_fill 7 = .ok (.if_icmp .ge 13, 3) := by decide +kernel
theorem dJ7_fill_10 : decode cJ7_fill 10 = .ok (.aload_n 0, 1) := by decide +kernel
theorem dJ7_fill_11 : decode cJ7_fill 11 = .ok (.iload_n 2, 1) := by decide +kernel
theorem dJ7_fill_12 : decode cJ7_fill 12 = .ok (.iload_n 1, 1) := by decide +kernel
theorem dJ7_fill_13 : decode cJ7_fill 13 = .ok (.iastore, 1) := by decide +kernel
theorem dJ7_fill_14 : decode cJ7_fill 14 = .ok (.iinc 2 1, 3) := by decide +kernel
theorem dJ7_fill_17 : decode cJ7_fill 17 = .ok (.goto (-12), 3) := by decide +kernel
theorem dJ7_fill_20 : decode cJ7_fill 20 = .ok (.return_, 1) := by decide +kernel
theorem dX2_takeOne_0 : decode cX2_takeOne 0 = .ok (.iload_n 1, 1) := by decide +kernel
theorem dX2_takeOne_1 : decode cX2_takeOne 1 = .ok (.ifCond .ne 32, 3) := by decide +kernel
theorem dX2_takeOne_4 : decode cX2_takeOne 4 = .ok (.iload_n 2, 1) := by decide +kernel
theorem dX2_takeOne_5 : decode cX2_takeOne 5 = .ok (.iconst 4, 1) := by decide +kernel
theorem dX2_takeOne_6 : decode cX2_takeOne 6 = .ok (.imul, 1) := by decide +kernel
theorem dX2_takeOne_7 : decode cX2_takeOne 7 = .ok (.iload_n 3, 1) := by decide +kernel
theorem dX2_takeOne_8 : decode cX2_takeOne 8 = .ok (.iadd, 1) := by decide +kernel
theorem dX2_takeOne_9 : decode cX2_takeOne 9 = .ok (.istore 5, 2) := by decide +kernel
theorem dX2_takeOne_11 : decode cX2_takeOne 11 = .ok (.aload_n 0, 1) := by decide +kernel
theorem dX2_takeOne_12 : decode cX2_takeOne 12 = .ok (.getfield 24, 3) := by decide +kernel
theorem dX2_takeOne_15 : decode cX2_takeOne 15 = .ok (.iload 5, 2) := by decide +kernel
theorem dX2_takeOne_17 : decode cX2_takeOne 17 = .ok (.aload_n 0, 1) := by decide +kernel
theorem dX2_takeOne_18 : decode cX2_takeOne 18 = .ok (.getfield 24, 3) := by decide +kernel
theorem dX2_takeOne_21 : decode cX2_takeOne 21 = .ok (.iload 5, 2) := by decide +kernel
theorem dX2_takeOne_23 : decode cX2_takeOne 23 = .ok (.iaload, 1) := by decide +kernel
theorem dX2_takeOne_24 : decode cX2_takeOne 24 = .ok (.iload 4, 2) := by decide +kernel
theorem dX2_takeOne_26 : decode cX2_takeOne 26 = .ok (.invokestatic 103, 3) := by decide +kernel
theorem dX2_takeOne_29 : decode cX2_takeOne 29 = .ok (.iastore, 1) := by decide +kernel
theorem dX2_takeOne_30 : decode cX2_takeOne 30 = .ok (.goto 92, 3) := by decide +kernel
theorem dX2_takeOne_33 : decode cX2_takeOne 33 = .ok (.iload_n 1, 1) := by decide +kernel
theorem dX2_takeOne_34 : decode cX2_takeOne 34 = .ok (.iconst 1, 1) := by decide +kernel
theorem dX2_takeOne_35 : decode cX2_takeOne 35 = .ok (.if_icmp .ne 30, 3) := by decide +kernel
theorem dX2_takeOne_38 : decode cX2_takeOne 38 = .ok (.aload_n 0, 1) := by decide +kernel
theorem dX2_takeOne_39 : decode cX2_takeOne 39 = .ok (.getfield 27, 3) := by decide +kernel
theorem dX2_takeOne_42 : decode cX2_takeOne 42 = .ok (.iload_n 2, 1) := by decide +kernel
theorem dX2_takeOne_43 : decode cX2_takeOne 43 = .ok (.dup2, 1) := by decide +kernel
theorem dX2_takeOne_44 : decode cX2_takeOne 44 = .ok (.iaload, 1) := by decide +kernel
theorem dX2_takeOne_45 : decode cX2_takeOne 45 = .ok (.iconst 1, 1) := by decide +kernel
theorem dX2_takeOne_46 : decode cX2_takeOne 46 = .ok (.iload_n 3, 1) := by decide +kernel
theorem dX2_takeOne_47 : decode cX2_takeOne 47 = .ok (.ishl, 1) := by decide +kernel
theorem dX2_takeOne_48 : decode cX2_takeOne 48 = .ok (.ior, 1) := by decide +kernel
theorem dX2_takeOne_49 : decode cX2_takeOne 49 = .ok (.iastore, 1) := by decide +kernel
theorem dX2_takeOne_50 : decode cX2_takeOne 50 = .ok (.aload_n 0, 1) := by decide +kernel
theorem dX2_takeOne_51 : decode cX2_takeOne 51 = .ok (.getfield 27, 3) := by decide +kernel
theorem dX2_takeOne_54 : decode cX2_takeOne 54 = .ok (.iload_n 3, 1) := by decide +kernel
theorem dX2_takeOne_55 : decode cX2_takeOne 55 = .ok (.dup2, 1) := by decide +kernel
theorem dX2_takeOne_56 : decode cX2_takeOne 56 = .ok (.iaload, 1) := by decide +kernel
theorem dX2_takeOne_57 : decode cX2_takeOne 57 = .ok (.iconst 1, 1) := by decide +kernel
theorem dX2_takeOne_58 : decode cX2_takeOne 58 = .ok (.iload_n 2, 1) := by decide +kernel
theorem dX2_takeOne_59 : decode cX2_takeOne 59 = .ok (.ishl, 1) := by decide +kernel
theorem dX2_takeOne_60 : decode cX2_takeOne 60 = .ok (.ior, 1) := by decide +kernel
theorem dX2_takeOne_61 : decode cX2_takeOne 61 = .ok (.iastore, 1) := by decide +kernel
theorem dX2_takeOne_62 : decode cX2_takeOne 62 = .ok (.goto 60, 3) := by decide +kernel
theorem dX2_takeOne_65 : decode cX2_takeOne 65 = .ok (.iload_n 1, 1) := by decide +kernel
theorem dX2_takeOne_66 : decode cX2_takeOne 66 = .ok (.iconst 2, 1) := by decide +kernel
theorem dX2_takeOne_67 : decode cX2_takeOne 67 = .ok (.if_icmp .ne 31, 3) := by decide +kernel
theorem dX2_takeOne_70 : decode cX2_takeOne 70 = .ok (.aload_n 0, 1) := by decide +kernel
theorem dX2_takeOne_71 : decode cX2_takeOne 71 = .ok (.getfield 30, 3) := by decide +kernel
theorem dX2_takeOne_74 : decode cX2_takeOne 74 = .ok (.iload_n 2, 1) := by decide +kernel
theorem dX2_takeOne_75 : decode cX2_takeOne 75 = .ok (.dup2, 1) := by decide +kernel
theorem dX2_takeOne_76 : decode cX2_takeOne 76 = .ok (.iaload, 1) := by decide +kernel
theorem dX2_takeOne_77 : decode cX2_takeOne 77 = .ok (.iconst 0, 1) := by decide +kernel
theorem dX2_takeOne_78 : decode cX2_takeOne 78 = .ok (.iload 4, 2) := by decide +kernel
theorem dX2_takeOne_80 : decode cX2_takeOne 80 = .ok (.aload_n 0, 1) := by decide +kernel
theorem dX2_takeOne_81 : decode cX2_takeOne 81 = .ok (.getfield 15, 3) := by decide +kernel
theorem dX2_takeOne_84 : decode cX2_takeOne 84 = .ok (.iload_n 2, 1) := by decide +kernel
theorem dX2_takeOne_85 : decode cX2_takeOne 85 = .ok (.iaload, 1) := by decide +kernel
theorem dX2_takeOne_86 : decode cX2_takeOne 86 = .ok (.isub, 1) := by decide +kernel
theorem dX2_takeOne_87 : decode cX2_takeOne 87 = .ok (.invokestatic 50, 3) := by decide +kernel
theorem dX2_takeOne_90 : decode cX2_takeOne 90 = .ok (.invokestatic 108, 3) := by decide +kernel
theorem dX2_takeOne_93 : decode cX2_takeOne 93 = .ok (.iand, 1) := by decide +kernel
theorem dX2_takeOne_94 : decode cX2_takeOne 94 = .ok (.iastore, 1) := by decide +kernel
theorem dX2_takeOne_95 : decode cX2_takeOne 95 = .ok (.goto 27, 3) := by decide +kernel
theorem dX2_takeOne_98 : decode cX2_takeOne 98 = .ok (.iload_n 1, 1) := by decide +kernel
theorem dX2_takeOne_99 : decode cX2_takeOne 99 = .ok (.iconst 3, 1) := by decide +kernel
theorem dX2_takeOne_100 : decode cX2_takeOne 100 = .ok (.if_icmp .ne 22, 3) := by decide +kernel
theorem dX2_takeOne_103 : decode cX2_takeOne 103 = .ok (.aload_n 0, 1) := by decide +kernel
theorem dX2_takeOne_104 : decode cX2_takeOne 104 = .ok (.getfield 30, 3) := by decide +kernel
theorem dX2_takeOne_107 : decode cX2_takeOne 107 = .ok (.iload_n 2, 1) := by decide +kernel
theorem dX2_takeOne_108 : decode cX2_takeOne 108 = .ok (.dup2, 1) := by decide +kernel
theorem dX2_takeOne_109 : decode cX2_takeOne 109 = .ok (.iaload, 1) := by decide +kernel
theorem dX2_takeOne_110 : decode cX2_takeOne 110 = .ok (.iload 4, 2) := by decide +kernel
theorem dX2_takeOne_112 : decode cX2_takeOne 112 = .ok (.bipush 9, 2) := by decide +kernel
theorem dX2_takeOne_114 : decode cX2_takeOne 114 = .ok (.invokestatic 50, 3) := by decide +kernel
theorem dX2_takeOne_117 : decode cX2_takeOne 117 = .ok (.invokestatic 108, 3) := by decide +kernel
theorem dX2_takeOne_120 : decode cX2_takeOne 120 = .ok (.iand, 1) := by decide +kernel
theorem dX2_takeOne_121 : decode cX2_takeOne 121 = .ok (.iastore, 1) := by decide +kernel
theorem dX2_takeOne_122 : decode cX2_takeOne 122 = .ok (.return_, 1) := by decide +kernel
theorem dX2_inEveryTank_0 : decode cX2_inEveryTank 0 = .ok (.iload_n 0, 1) := by decide +kernel
theorem dX2_inEveryTank_1 : decode cX2_inEveryTank 1 = .ok (.ldc 156, 2) := by decide +kernel
theorem dX2_inEveryTank_3 : decode cX2_inEveryTank 3 = .ok (.imul, 1) := by decide +kernel
theorem dX2_inEveryTank_4 : decode cX2_inEveryTank 4 = .ok (.ireturn, 1) := by decide +kernel
theorem dX2_closeByLags_0 : decode cX2_closeByLags 0 = .ok (.iconst 0, 1) := by decide +kernel
theorem dX2_closeByLags_1 : decode cX2_closeByLags 1 = .ok (.istore_n 1, 1) := by decide +kernel
theorem dX2_closeByLags_2 : decode cX2_closeByLags 2 = .ok (.iload_n 1, 1) := by decide +kernel
theorem dX2_closeByLags_3 : decode cX2_closeByLags 3 = .ok (.aload_n 0, 1) := by decide +kernel
theorem dX2_closeByLags_4 : decode cX2_closeByLags 4 = .ok (.getfield 45, 3) := by decide +kernel
theorem dX2_closeByLags_7 : decode cX2_closeByLags 7 = .ok (.if_icmp .ge 109, 3) := by decide +kernel
theorem dX2_closeByLags_10 : decode cX2_closeByLags 10 = .ok (.iconst 0, 1) := by decide +kernel
theorem dX2_closeByLags_11 : decode cX2_closeByLags 11 = .ok (.istore_n 2, 1) := by decide +kernel
theorem dX2_closeByLags_12 : decode cX2_closeByLags 12 = .ok (.iload_n 2, 1) := by decide +kernel
theorem dX2_closeByLags_13 : decode cX2_closeByLags 13 = .ok (.aload_n 0, 1) := by decide +kernel
theorem dX2_closeByLags_14 : decode cX2_closeByLags 14 = .ok (.getfield 45, 3) := by decide +kernel
theorem dX2_closeByLags_17 : decode cX2_closeByLags 17 = .ok (.if_icmp .ge 93, 3) := by decide +kernel
theorem dX2_closeByLags_20 : decode cX2_closeByLags 20 = .ok (.aload_n 0, 1) := by decide +kernel
theorem dX2_closeByLags_21 : decode cX2_closeByLags 21 = .ok (.getfield 24, 3) := by decide +kernel
theorem dX2_closeByLags_24 : decode cX2_closeByLags 24 = .ok (.iload_n 1, 1) := by decide +kernel
theorem dX2_closeByLags_25 : decode cX2_closeByLags 25 = .ok (.iconst 4, 1) := by decide +kernel
theorem dX2_closeByLags_26 : decode cX2_closeByLags 26 = .ok (.imul, 1) := by decide +kernel
theorem dX2_closeByLags_27 : decode cX2_closeByLags 27 = .ok (.iload_n 2, 1) := by decide +kernel
theorem dX2_closeByLags_28 : decode cX2_closeByLags 28 = .ok (.iadd, 1) := by decide +kernel
end
section
theorem dX2_closeByLags_29 : decode cX2_closeByLags 29 = .ok (.iaload, 1) := by decide +kernel
theorem dX2_closeByLags_30 : decode cX2_closeByLags 30 = .ok (.istore_n 3, 1) := by decide +kernel
theorem dX2_closeByLags_31 : decode cX2_closeByLags 31 = .ok (.iload_n 3, 1) := by decide +kernel
theorem dX2_closeByLags_32 : decode cX2_closeByLags 32 = .ok (.bipush (-10), 2) := by decide +kernel
theorem dX2_closeByLags_34 : decode cX2_closeByLags 34 = .ok (.if_icmp .eq 70, 3) := by decide +kernel
theorem dX2_closeByLags_37 : decode cX2_closeByLags 37 = .ok (.aload_n 0, 1) := by decide +kernel
theorem dX2_closeByLags_38 : decode cX2_closeByLags 38 = .ok (.getfield 15, 3) := by decide +kernel
theorem dX2_closeByLags_41 : decode cX2_closeByLags 41 = .ok (.iload_n 2, 1) := by decide +kernel
theorem dX2_closeByLags_42 : decode cX2_closeByLags 42 = .ok (.iaload, 1) := by decide +kernel
theorem dX2_closeByLags_43 : decode cX2_closeByLags 43 = .ok (.iload_n 3, 1) := by decide +kernel
theorem dX2_closeByLags_44 : decode cX2_closeByLags 44 = .ok (.iadd, 1) := by decide +kernel
theorem dX2_closeByLags_45 : decode cX2_closeByLags 45 = .ok (.istore 4, 2) := by decide +kernel
theorem dX2_closeByLags_47 : decode cX2_closeByLags 47 = .ok (.aload_n 0, 1) := by decide +kernel
theorem dX2_closeByLags_48 : decode cX2_closeByLags 48 = .ok (.getfield 30, 3) := by decide +kernel
theorem dX2_closeByLags_51 : decode cX2_closeByLags 51 = .ok (.iload_n 1, 1) := by decide +kernel
theorem dX2_closeByLags_52 : decode cX2_closeByLags 52 = .ok (.dup2, 1) := by decide +kernel
theorem dX2_closeByLags_53 : decode cX2_closeByLags 53 = .ok (.iaload, 1) := by decide +kernel
theorem dX2_closeByLags_54 : decode cX2_closeByLags 54 = .ok (.aload_n 0, 1) := by decide +kernel
theorem dX2_closeByLags_55 : decode cX2_closeByLags 55 = .ok (.getfield 30, 3) := by decide +kernel
theorem dX2_closeByLags_58 : decode cX2_closeByLags 58 = .ok (.iload_n 2, 1) := by decide +kernel
theorem dX2_closeByLags_59 : decode cX2_closeByLags 59 = .ok (.iaload, 1) := by decide +kernel
theorem dX2_closeByLags_60 : decode cX2_closeByLags 60 = .ok (.invokestatic 111, 3) := by decide +kernel
theorem dX2_closeByLags_63 : decode cX2_closeByLags 63 = .ok (.iload 4, 2) := by decide +kernel
theorem dX2_closeByLags_65 : decode cX2_closeByLags 65 = .ok (.iadd, 1) := by decide +kernel
theorem dX2_closeByLags_66 : decode cX2_closeByLags 66 = .ok (.bipush 9, 2) := by decide +kernel
theorem dX2_closeByLags_68 : decode cX2_closeByLags 68 = .ok (.invokestatic 50, 3) := by decide +kernel
theorem dX2_closeByLags_71 : decode cX2_closeByLags 71 = .ok (.invokestatic 108, 3) := by decide +kernel
theorem dX2_closeByLags_74 : decode cX2_closeByLags 74 = .ok (.iand, 1) := by decide +kernel
theorem dX2_closeByLags_75 : decode cX2_closeByLags 75 = .ok (.iastore, 1) := by decide +kernel
theorem dX2_closeByLags_76 : decode cX2_closeByLags 76 = .ok (.aload_n 0, 1) := by decide +kernel
theorem dX2_closeByLags_77 : decode cX2_closeByLags 77 = .ok (.getfield 30, 3) := by decide +kernel
theorem dX2_closeByLags_80 : decode cX2_closeByLags 80 = .ok (.iload_n 2, 1) := by decide +kernel
theorem dX2_closeByLags_81 : decode cX2_closeByLags 81 = .ok (.dup2, 1) := by decide +kernel
theorem dX2_closeByLags_82 : decode cX2_closeByLags 82 = .ok (.iaload, 1) := by decide +kernel
theorem dX2_closeByLags_83 : decode cX2_closeByLags 83 = .ok (.iconst 0, 1) := by decide +kernel
theorem dX2_closeByLags_84 : decode cX2_closeByLags 84 = .ok (.aload_n 0, 1) := by decide +kernel
theorem dX2_closeByLags_85 : decode cX2_closeByLags 85 = .ok (.getfield 30, 3) := by decide +kernel
theorem dX2_closeByLags_88 : decode cX2_closeByLags 88 = .ok (.iload_n 1, 1) := by decide +kernel
theorem dX2_closeByLags_89 : decode cX2_closeByLags 89 = .ok (.iaload, 1) := by decide +kernel
theorem dX2_closeByLags_90 : decode cX2_closeByLags 90 = .ok (.invokestatic 114, 3) := by decide +kernel
theorem dX2_closeByLags_93 : decode cX2_closeByLags 93 = .ok (.iload 4, 2) := by decide +kernel
theorem dX2_closeByLags_95 : decode cX2_closeByLags 95 = .ok (.isub, 1) := by decide +kernel
theorem dX2_closeByLags_96 : decode cX2_closeByLags 96 = .ok (.invokestatic 50, 3) := by decide +kernel
theorem dX2_closeByLags_99 : decode cX2_closeByLags 99 = .ok (.invokestatic 108, 3) := by decide +kernel
theorem dX2_closeByLags_102 : decode cX2_closeByLags 102 = .ok (.iand, 1) := by decide +kernel
theorem dX2_closeByLags_103 : decode cX2_closeByLags 103 = .ok (.iastore, 1) := by decide +kernel
theorem dX2_closeByLags_104 : decode cX2_closeByLags 104 = .ok (.iinc 2 1, 3) := by decide +kernel
theorem dX2_closeByLags_107 : decode cX2_closeByLags 107 = .ok (.goto (-95), 3) := by decide +kernel
theorem dX2_closeByLags_110 : decode cX2_closeByLags 110 = .ok (.iinc 1 1, 3) := by decide +kernel
theorem dX2_closeByLags_113 : decode cX2_closeByLags 113 = .ok (.goto (-111), 3) := by decide +kernel
theorem dX2_closeByLags_116 : decode cX2_closeByLags 116 = .ok (.return_, 1) := by decide +kernel
theorem dX2_firstStart_0 : decode cX2_firstStart 0 = .ok (.iload_n 0, 1) := by decide +kernel
theorem dX2_firstStart_1 : decode cX2_firstStart 1 = .ok (.invokestatic 117, 3) := by decide +kernel
theorem dX2_firstStart_4 : decode cX2_firstStart 4 = .ok (.invokestatic 120, 3) := by decide +kernel
theorem dX2_firstStart_7 : decode cX2_firstStart 7 = .ok (.ireturn, 1) := by decide +kernel
theorem dX2_startsIn_0 : decode cX2_startsIn 0 = .ok (.iload_n 0, 1) := by decide +kernel
theorem dX2_startsIn_1 : decode cX2_startsIn 1 = .ok (.iload_n 0, 1) := by decide +kernel
theorem dX2_startsIn_2 : decode cX2_startsIn 2 = .ok (.bipush 10, 2) := by decide +kernel
theorem dX2_startsIn_4 : decode cX2_startsIn 4 = .ok (.ishr, 1) := by decide +kernel
theorem dX2_startsIn_5 : decode cX2_startsIn 5 = .ok (.ior, 1) := by decide +kernel
theorem dX2_startsIn_6 : decode cX2_startsIn 6 = .ok (.iload_n 0, 1) := by decide +kernel
theorem dX2_startsIn_7 : decode cX2_startsIn 7 = .ok (.bipush 20, 2) := by decide +kernel
theorem dX2_startsIn_9 : decode cX2_startsIn 9 = .ok (.ishr, 1) := by decide +kernel
theorem dX2_startsIn_10 : decode cX2_startsIn 10 = .ok (.ior, 1) := by decide +kernel
theorem dX2_startsIn_11 : decode cX2_startsIn 11 = .ok (.sipush 1023, 3) := by decide +kernel
theorem dX2_startsIn_14 : decode cX2_startsIn 14 = .ok (.iand, 1) := by decide +kernel
theorem dX2_startsIn_15 : decode cX2_startsIn 15 = .ok (.ireturn, 1) := by decide +kernel
theorem dJ6_numberOfTrailingZeros_0 : decode cJ6_numberOfTrailingZeros 0 = .ok (.iload_n 0, 1) := by decide +kernel
theorem dJ6_numberOfTrailingZeros_1 : decode cJ6_numberOfTrailingZeros 1 = .ok (.iconst (-1), 1) := by decide +kernel
theorem dJ6_numberOfTrailingZeros_2 : decode cJ6_numberOfTrailingZeros 2 = .ok (.ixor, 1) := by decide +kernel
theorem dJ6_numberOfTrailingZeros_3 : decode cJ6_numberOfTrailingZeros 3 = .ok (.iload_n 0, 1) := by decide +kernel
theorem dJ6_numberOfTrailingZeros_4 : decode cJ6_numberOfTrailingZeros 4 = .ok (.iconst 1, 1) := by decide +kernel
theorem dJ6_numberOfTrailingZeros_5 : decode cJ6_numberOfTrailingZeros 5 = .ok (.isub, 1) := by decide +kernel
theorem dJ6_numberOfTrailingZeros_6 : decode cJ6_numberOfTrailingZeros 6 = .ok (.iand, 1) := by decide +kernel
theorem dJ6_numberOfTrailingZeros_7 : decode cJ6_numberOfTrailingZeros 7 = .ok (.istore_n 0, 1) := by decide +kernel
theorem dJ6_numberOfTrailingZeros_8 : decode cJ6_numberOfTrailingZeros 8 = .ok (.iload_n 0, 1) := by decide +kernel
theorem dJ6_numberOfTrailingZeros_9 : decode cJ6_numberOfTrailingZeros 9 = .ok (.ifCond .gt 8, 3) := by decide +kernel
theorem dJ6_numberOfTrailingZeros_12 : decode cJ6_numberOfTrailingZeros 12 = .ok (.iload_n 0, 1) := by decide +kernel
theorem dJ6_numberOfTrailingZeros_13 : decode cJ6_numberOfTrailingZeros 13 = .ok (.bipush 32, 2) := by decide +kernel
theorem dJ6_numberOfTrailingZeros_15 : decode cJ6_numberOfTrailingZeros 15 = .ok (.iand, 1) := by decide +kernel
theorem dJ6_numberOfTrailingZeros_16 : decode cJ6_numberOfTrailingZeros 16 = .ok (.ireturn, 1) := by decide +kernel
theorem dJ6_numberOfTrailingZeros_17 : decode cJ6_numberOfTrailingZeros 17 = .ok (.iconst 1, 1) := by decide +kernel
theorem dJ6_numberOfTrailingZeros_18 : decode cJ6_numberOfTrailingZeros 18 = .ok (.istore_n 1, 1) := by decide +kernel
theorem dJ6_numberOfTrailingZeros_19 : decode cJ6_numberOfTrailingZeros 19 = .ok (.iload_n 0, 1) := by decide +kernel
theorem dJ6_numberOfTrailingZeros_20 : decode cJ6_numberOfTrailingZeros 20 = .ok (.ldc_w 264, 3) := by decide +kernel
theorem dJ6_numberOfTrailingZeros_23 : decode cJ6_numberOfTrailingZeros 23 = .ok (.if_icmp .le 11, 3) := by decide +kernel
theorem dJ6_numberOfTrailingZeros_26 : decode cJ6_numberOfTrailingZeros 26 = .ok (.iinc 1 16, 3) := by decide +kernel
theorem dJ6_numberOfTrailingZeros_29 : decode cJ6_numberOfTrailingZeros 29 = .ok (.iload_n 0, 1) := by decide +kernel
theorem dJ6_numberOfTrailingZeros_30 : decode cJ6_numberOfTrailingZeros 30 = .ok (.bipush 16, 2) := by decide +kernel
theorem dJ6_numberOfTrailingZeros_32 : decode cJ6_numberOfTrailingZeros 32 = .ok (.iushr, 1) := by decide +kernel
theorem dJ6_numberOfTrailingZeros_33 : decode cJ6_numberOfTrailingZeros 33 = .ok (.istore_n 0, 1) := by decide +kernel
theorem dJ6_numberOfTrailingZeros_34 : decode cJ6_numberOfTrailingZeros 34 = .ok (.iload_n 0, 1) := by decide +kernel
theorem dJ6_numberOfTrailingZeros_35 : decode cJ6_numberOfTrailingZeros 35 = .ok (.sipush 256, 3) := by decide +kernel
theorem dJ6_numberOfTrailingZeros_38 : decode cJ6_numberOfTrailingZeros 38 = .ok (.if_icmp .le 11, 3) := by decide +kernel
theorem dJ6_numberOfTrailingZeros_41 : decode cJ6_numberOfTrailingZeros 41 = .ok (.iinc 1 8, 3) := by decide +kernel
theorem dJ6_numberOfTrailingZeros_44 : decode cJ6_numberOfTrailingZeros 44 = .ok (.iload_n 0, 1) := by decide +kernel
theorem dJ6_numberOfTrailingZeros_45 : decode cJ6_numberOfTrailingZeros 45 = .ok (.bipush 8, 2) := by decide +kernel
theorem dJ6_numberOfTrailingZeros_47 : decode cJ6_numberOfTrailingZeros 47 = .ok (.iushr, 1) := by decide +kernel
theorem dJ6_numberOfTrailingZeros_48 : decode cJ6_numberOfTrailingZeros 48 = .ok (.istore_n 0, 1) := by decide +kernel
theorem dJ6_numberOfTrailingZeros_49 : decode cJ6_numberOfTrailingZeros 49 = .ok (.iload_n 0, 1) := by decide +kernel
theorem dJ6_numberOfTrailingZeros_50 : decode cJ6_numberOfTrailingZeros 50 = .ok (.bipush 16, 2) := by decide +kernel
theorem dJ6_numberOfTrailingZeros_52 : decode cJ6_numberOfTrailingZeros 52 = .ok (.if_icmp .le 10, 3) := by decide +kernel
theorem dJ6_numberOfTrailingZeros_55 : decode cJ6_numberOfTrailingZeros 55 = .ok (.iinc 1 4, 3) := by decide +kernel
theorem dJ6_numberOfTrailingZeros_58 : decode cJ6_numberOfTrailingZeros 58 = .ok (.iload_n 0, 1) := by decide +kernel
theorem dJ6_numberOfTrailingZeros_59 : decode cJ6_numberOfTrailingZeros 59 = .ok (.iconst 4, 1) := by decide +kernel
theorem dJ6_numberOfTrailingZeros_60 : decode cJ6_numberOfTrailingZeros 60 = .ok (.iushr, 1) := by decide +kernel
theorem dJ6_numberOfTrailingZeros_61 : decode cJ6_numberOfTrailingZeros 61 = .ok (.istore_n 0, 1) := by decide +kernel
theorem dJ6_numberOfTrailingZeros_62 : decode cJ6_numberOfTrailingZeros 62 = .ok (.iload_n 0, 1) := by decide +kernel
theorem dJ6_numberOfTrailingZeros_63 : decode cJ6_numberOfTrailingZeros 63 = .ok (.iconst 4, 1) := by decide +kernel
theorem dJ6_numberOfTrailingZeros_64 : decode cJ6_numberOfTrailingZeros 64 = .ok (.if_icmp .le 10, 3) := by decide +kernel
theorem dJ6_numberOfTrailingZeros_67 : decode cJ6_numberOfTrailingZeros 67 = .ok (.iinc 1 2, 3) := by decide +kernel
theorem dJ6_numberOfTrailingZeros_70 : decode cJ6_numberOfTrailingZeros 70 = .ok (.iload_n 0, 1) := by decide +kernel
theorem dJ6_numberOfTrailingZeros_71 : decode cJ6_numberOfTrailingZeros 71 = .ok (.iconst 2, 1) := by decide +kernel
theorem dJ6_numberOfTrailingZeros_72 : decode cJ6_numberOfTrailingZeros 72 = .ok (.iushr, 1) := by decide +kernel
theorem dJ6_numberOfTrailingZeros_73 : decode cJ6_numberOfTrailingZeros 73 = .ok (.istore_n 0, 1) := by decide +kernel
theorem dJ6_numberOfTrailingZeros_74 : decode cJ6_numberOfTrailingZeros 74 = .ok (.iload_n 1, 1) := by decide +kernel
theorem dJ6_numberOfTrailingZeros_75 : decode cJ6_numberOfTrailingZeros 75 = .ok (.iload_n 0, 1) := by decide +kernel
theorem dJ6_numberOfTrailingZeros_76 : decode cJ6_numberOfTrailingZeros 76 = .ok (.iconst 1, 1) := by decide +kernel
theorem dJ6_numberOfTrailingZeros_77 : decode cJ6_numberOfTrailingZeros 77 = .ok (.iushr, 1) := by decide +kernel
theorem dJ6_numberOfTrailingZeros_78 : decode cJ6_numberOfTrailingZeros 78 = .ok (.iadd, 1) := by decide +kernel
theorem dJ6_numberOfTrailingZeros_79 : decode cJ6_numberOfTrailingZeros 79 = .ok (.ireturn, 1) := by decide +kernel
theorem dX2_lastStart_0 : decode cX2_lastStart 0 = .ok (.bipush 31, 2) := by decide +kernel
theorem dX2_lastStart_2 : decode cX2_lastStart 2 = .ok (.iload_n 0, 1) := by decide +kernel
theorem dX2_lastStart_3 : decode cX2_lastStart 3 = .ok (.invokestatic 117, 3) := by decide +kernel
theorem dX2_lastStart_6 : decode cX2_lastStart 6 = .ok (.invokestatic 125, 3) := by decide +kernel
theorem dX2_lastStart_9 : decode cX2_lastStart 9 = .ok (.isub, 1) := by decide +kernel
theorem dX2_lastStart_10 : decode cX2_lastStart 10 = .ok (.ireturn, 1) := by decide +kernel
theorem dJ6_numberOfLeadingZeros_0 : decode cJ6_numberOfLeadingZeros 0 = .ok (.iload_n 0, 1) := by decide +kernel
theorem dJ6_numberOfLeadingZeros_1 : decode cJ6_numberOfLeadingZeros 1 = .ok (.ifCond .gt 14, 3) := by decide +kernel
theorem dJ6_numberOfLeadingZeros_4 : decode cJ6_numberOfLeadingZeros 4 = .ok (.iload_n 0, 1) := by decide +kernel
theorem dJ6_numberOfLeadingZeros_5 : decode cJ6_numberOfLeadingZeros 5 = .ok (.ifCond .ne 8, 3) := by decide +kernel
theorem dJ6_numberOfLeadingZeros_8 : decode cJ6_numberOfLeadingZeros 8 = .ok (.bipush 32, 2) := by decide +kernel
theorem dJ6_numberOfLeadingZeros_10 : decode cJ6_numberOfLeadingZeros 10 = .ok (.goto 4, 3) := by decide +kernel
theorem dJ6_numberOfLeadingZeros_13 : decode cJ6_numberOfLeadingZeros 13 = .ok (.iconst 0, 1) := by decide +kernel
theorem dJ6_numberOfLeadingZeros_14 : decode cJ6_numberOfLeadingZeros 14 = .ok (.ireturn, 1) := by decide +kernel
theorem dJ6_numberOfLeadingZeros_15 : decode cJ6_numberOfLeadingZeros 15 = .ok (.bipush 31, 2) := by decide +kernel
theorem dJ6_numberOfLeadingZeros_17 : decode cJ6_numberOfLeadingZeros 17 = .ok (.istore_n 1, 1) := by decide +kernel
theorem dJ6_numberOfLeadingZeros_18 : decode cJ6_numberOfLeadingZeros 18 = .ok (.iload_n 0, 1) := by decide +kernel
theorem dJ6_numberOfLeadingZeros_19 : decode cJ6_numberOfLeadingZeros 19 = .ok (.ldc_w 264, 3) := by decide +kernel
theorem dJ6_numberOfLeadingZeros_22 : decode cJ6_numberOfLeadingZeros 22 = .ok (.if_icmp .lt 11, 3) := by decide +kernel
theorem dJ6_numberOfLeadingZeros_25 : decode cJ6_numberOfLeadingZeros 25 = .ok (.iinc 1 (-16), 3) := by decide +kernel
theorem dJ6_numberOfLeadingZeros_28 : decode cJ6_numberOfLeadingZeros 28 = .ok (.iload_n 0, 1) := by decide +kernel
theorem dJ6_numberOfLeadingZeros_29 : decode cJ6_numberOfLeadingZeros 29 = .ok (.bipush 16, 2) := by decide +kernel
theorem dJ6_numberOfLeadingZeros_31 : decode cJ6_numberOfLeadingZeros 31 = .ok (.iushr, 1) := by decide +kernel
theorem dJ6_numberOfLeadingZeros_32 : decode cJ6_numberOfLeadingZeros 32 = .ok (.istore_n 0, 1) := by decide +kernel
theorem dJ6_numberOfLeadingZeros_33 : decode cJ6_numberOfLeadingZeros 33 = .ok (.iload_n 0, 1) := by decide +kernel
theorem dJ6_numberOfLeadingZeros_34 : decode cJ6_numberOfLeadingZeros 34 = .ok (.sipush 256, 3) := by decide +kernel
theorem dJ6_numberOfLeadingZeros_37 : decode cJ6_numberOfLeadingZeros 37 = .ok (.if_icmp .lt 11, 3) := by decide +kernel
theorem dJ6_numberOfLeadingZeros_40 : decode cJ6_numberOfLeadingZeros 40 = .ok (.iinc 1 (-8), 3) := by decide +kernel
theorem dJ6_numberOfLeadingZeros_43 : decode cJ6_numberOfLeadingZeros 43 = .ok (.iload_n 0, 1) := by decide +kernel
theorem dJ6_numberOfLeadingZeros_44 : decode cJ6_numberOfLeadingZeros 44 = .ok (.bipush 8, 2) := by decide +kernel
theorem dJ6_numberOfLeadingZeros_46 : decode cJ6_numberOfLeadingZeros 46 = .ok (.iushr, 1) := by decide +kernel
theorem dJ6_numberOfLeadingZeros_47 : decode cJ6_numberOfLeadingZeros 47 = .ok (.istore_n 0, 1) := by decide +kernel
theorem dJ6_numberOfLeadingZeros_48 : decode cJ6_numberOfLeadingZeros 48 = .ok (.iload_n 0, 1) := by decide +kernel
theorem dJ6_numberOfLeadingZeros_49 : decode cJ6_numberOfLeadingZeros 49 = .ok (.bipush 16, 2) := by decide +kernel
theorem dJ6_numberOfLeadingZeros_51 : decode cJ6_numberOfLeadingZeros 51 = .ok (.if_icmp .lt 10, 3) := by decide +kernel
theorem dJ6_numberOfLeadingZeros_54 : decode cJ6_numberOfLeadingZeros 54 = .ok (.iinc 1 (-4), 3) := by decide +kernel
theorem dJ6_numberOfLeadingZeros_57 : decode cJ6_numberOfLeadingZeros 57 = .ok (.iload_n 0, 1) := by decide +kernel
theorem dJ6_numberOfLeadingZeros_58 : decode cJ6_numberOfLeadingZeros 58 = .ok (.iconst 4, 1) := by decide +kernel
theorem dJ6_numberOfLeadingZeros_59 : decode cJ6_numberOfLeadingZeros 59 = .ok (.iushr, 1) := by decide +kernel
theorem dJ6_numberOfLeadingZeros_60 : decode cJ6_numberOfLeadingZeros 60 = .ok (.istore_n 0, 1) := by decide +kernel
theorem dJ6_numberOfLeadingZeros_61 : decode cJ6_numberOfLeadingZeros 61 = .ok (.iload_n 0, 1) := by decide +kernel
theorem dJ6_numberOfLeadingZeros_62 : decode cJ6_numberOfLeadingZeros 62 = .ok (.iconst 4, 1) := by decide +kernel
theorem dJ6_numberOfLeadingZeros_63 : decode cJ6_numberOfLeadingZeros 63 = .ok (.if_icmp .lt 10, 3) := by decide +kernel
theorem dJ6_numberOfLeadingZeros_66 : decode cJ6_numberOfLeadingZeros 66 = .ok (.iinc 1 (-2), 3) := by decide +kernel
theorem dJ6_numberOfLeadingZeros_69 : decode cJ6_numberOfLeadingZeros 69 = .ok (.iload_n 0, 1) := by decide +kernel
theorem dJ6_numberOfLeadingZeros_70 : decode cJ6_numberOfLeadingZeros 70 = .ok (.iconst 2, 1) := by decide +kernel
theorem dJ6_numberOfLeadingZeros_71 : decode cJ6_numberOfLeadingZeros 71 = .ok (.iushr, 1) := by decide +kernel
theorem dJ6_numberOfLeadingZeros_72 : decode cJ6_numberOfLeadingZeros 72 = .ok (.istore_n 0, 1) := by decide +kernel
theorem dJ6_numberOfLeadingZeros_73 : decode cJ6_numberOfLeadingZeros 73 = .ok (.iload_n 1, 1) := by decide +kernel
theorem dJ6_numberOfLeadingZeros_74 : decode cJ6_numberOfLeadingZeros 74 = .ok (.iload_n 0, 1) := by decide +kernel
theorem dJ6_numberOfLeadingZeros_75 : decode cJ6_numberOfLeadingZeros 75 = .ok (.iconst 1, 1) := by decide +kernel
theorem dJ6_numberOfLeadingZeros_76 : decode cJ6_numberOfLeadingZeros 76 = .ok (.iushr, 1) := by decide +kernel
theorem dJ6_numberOfLeadingZeros_77 : decode cJ6_numberOfLeadingZeros 77 = .ok (.isub, 1) := by decide +kernel
theorem dJ6_numberOfLeadingZeros_78 : decode cJ6_numberOfLeadingZeros 78 = .ok (.ireturn, 1) := by decide +kernel
theorem dX2_findsAny_0 : decode cX2_findsAny 0 = .ok (.aload_n 0, 1) := by decide +kernel
theorem dX2_findsAny_1 : decode cX2_findsAny 1 = .ok (.iconst 0, 1) := by decide +kernel
theorem dX2_findsAny_2 : decode cX2_findsAny 2 = .ok (.invokevirtual 128, 3) := by decide +kernel
theorem dX2_findsAny_5 : decode cX2_findsAny 5 = .ok (.ireturn, 1) := by decide +kernel
theorem dX2_canPutFrom_0 : decode cX2_canPutFrom 0 = .ok (.iload_n 1, 1) := by decide +kernel
theorem dX2_canPutFrom_1 : decode cX2_canPutFrom 1 = .ok (.aload_n 0, 1) := by decide +kernel
theorem dX2_canPutFrom_2 : decode cX2_canPutFrom 2 = .ok (.getfield 45, 3) := by decide +kernel
theorem dX2_canPutFrom_5 : decode cX2_canPutFrom 5 = .ok (.if_icmp .lt 5, 3) := by decide +kernel
theorem dX2_canPutFrom_8 : decode cX2_canPutFrom 8 = .ok (.iconst 1, 1) := by decide +kernel
theorem dX2_canPutFrom_9 : decode cX2_canPutFrom 9 = .ok (.ireturn, 1) := by decide +kernel
theorem dX2_canPutFrom_10 : decode cX2_canPutFrom 10 = .ok (.aload_n 0, 1) := by decide +kernel
theorem dX2_canPutFrom_11 : decode cX2_canPutFrom 11 = .ok (.getfield 30, 3) := by decide +kernel
theorem dX2_canPutFrom_14 : decode cX2_canPutFrom 14 = .ok (.iload_n 1, 1) := by decide +kernel
theorem dX2_canPutFrom_15 : decode cX2_canPutFrom 15 = .ok (.iconst 4, 1) := by decide +kernel
theorem dX2_canPutFrom_16 : decode cX2_canPutFrom 16 = .ok (.imul, 1) := by decide +kernel
theorem dX2_canPutFrom_17 : decode cX2_canPutFrom 17 = .ok (.iload_n 1, 1) := by decide +kernel
theorem dX2_canPutFrom_18 : decode cX2_canPutFrom 18 = .ok (.iadd, 1) := by decide +kernel
theorem dX2_canPutFrom_19 : decode cX2_canPutFrom 19 = .ok (.iaload, 1) := by decide +kernel
theorem dX2_canPutFrom_20 : decode cX2_canPutFrom 20 = .ok (.istore_n 2, 1) := by decide +kernel
theorem dX2_canPutFrom_21 : decode cX2_canPutFrom 21 = .ok (.iconst 0, 1) := by decide +kernel
theorem dX2_canPutFrom_22 : decode cX2_canPutFrom 22 = .ok (.istore_n 3, 1) := by decide +kernel
theorem dX2_canPutFrom_23 : decode cX2_canPutFrom 23 = .ok (.iload_n 3, 1) := by decide +kernel
theorem dX2_canPutFrom_24 : decode cX2_canPutFrom 24 = .ok (.bipush 30, 2) := by decide +kernel
theorem dX2_canPutFrom_26 : decode cX2_canPutFrom 26 = .ok (.if_icmp .ge 50, 3) := by decide +kernel
theorem dX2_canPutFrom_29 : decode cX2_canPutFrom 29 = .ok (.iload_n 2, 1) := by decide +kernel
theorem dX2_canPutFrom_30 : decode cX2_canPutFrom 30 = .ok (.iload_n 3, 1) := by decide +kernel
theorem dX2_canPutFrom_31 : decode cX2_canPutFrom 31 = .ok (.ishr, 1) := by decide +kernel
theorem dX2_canPutFrom_32 : decode cX2_canPutFrom 32 = .ok (.iconst 1, 1) := by decide +kernel
theorem dX2_canPutFrom_33 : decode cX2_canPutFrom 33 = .ok (.iand, 1) := by decide +kernel
theorem dX2_canPutFrom_34 : decode cX2_canPutFrom 34 = .ok (.ifCond .eq 7, 3) := by decide +kernel
theorem dX2_canPutFrom_37 : decode cX2_canPutFrom 37 = .ok (.iconst 1, 1) := by decide +kernel
theorem dX2_canPutFrom_38 : decode cX2_canPutFrom 38 = .ok (.goto 4, 3) := by decide +kernel
theorem dX2_canPutFrom_41 : decode cX2_canPutFrom 41 = .ok (.iconst 0, 1) := by decide +kernel
theorem dX2_canPutFrom_42 : decode cX2_canPutFrom 42 = .ok (.istore 4, 2) := by decide +kernel
theorem dX2_canPutFrom_44 : decode cX2_canPutFrom 44 = .ok (.iload 4, 2) := by decide +kernel
theorem dX2_canPutFrom_46 : decode cX2_canPutFrom 46 = .ok (.ifCond .eq 24, 3) := by decide +kernel
theorem dX2_canPutFrom_49 : decode cX2_canPutFrom 49 = .ok (.aload_n 0, 1) := by decide +kernel
theorem dX2_canPutFrom_50 : decode cX2_canPutFrom 50 = .ok (.iload_n 1, 1) := by decide +kernel
theorem dX2_canPutFrom_51 : decode cX2_canPutFrom 51 = .ok (.iload_n 3, 1) := by decide +kernel
theorem dX2_canPutFrom_52 : decode cX2_canPutFrom 52 = .ok (.invokevirtual 136, 3) := by decide +kernel
theorem dX2_canPutFrom_55 : decode cX2_canPutFrom 55 = .ok (.ifCond .eq 15, 3) := by decide +kernel
theorem dX2_canPutFrom_58 : decode cX2_canPutFrom 58 = .ok (.aload_n 0, 1) := by decide +kernel
theorem dX2_canPutFrom_59 : decode cX2_canPutFrom 59 = .ok (.iload_n 1, 1) := by decide +kernel
theorem dX2_canPutFrom_60 : decode cX2_canPutFrom 60 = .ok (.iconst 1, 1) := by decide +kernel
theorem dX2_canPutFrom_61 : decode cX2_canPutFrom 61 = .ok (.iadd, 1) := by decide +kernel
theorem dX2_canPutFrom_62 : decode cX2_canPutFrom 62 = .ok (.invokevirtual 128, 3) := by decide +kernel
theorem dX2_canPutFrom_65 : decode cX2_canPutFrom 65 = .ok (.ifCond .eq 5, 3) := by decide +kernel
theorem dX2_canPutFrom_68 : decode cX2_canPutFrom 68 = .ok (.iconst 1, 1) := by decide +kernel
theorem dX2_canPutFrom_69 : decode cX2_canPutFrom 69 = .ok (.ireturn, 1) := by decide +kernel
theorem dX2_canPutFrom_70 : decode cX2_canPutFrom 70 = .ok (.iinc 3 1, 3) := by decide +kernel
theorem dX2_canPutFrom_73 : decode cX2_canPutFrom 73 = .ok (.goto (-50), 3) := by decide +kernel
theorem dX2_canPutFrom_76 : decode cX2_canPutFrom 76 = .ok (.iconst 0, 1) := by decide +kernel
theorem dX2_canPutFrom_77 : decode cX2_canPutFrom 77 = .ok (.ireturn, 1) := by decide +kernel
theorem dX2_leavesRoom_0 : decode cX2_leavesRoom 0 = .ok (.iload_n 1, 1) := by decide +kernel
theorem dX2_leavesRoom_1 : decode cX2_leavesRoom 1 = .ok (.iconst 4, 1) := by decide +kernel
theorem dX2_leavesRoom_2 : decode cX2_leavesRoom 2 = .ok (.imul, 1) := by decide +kernel
theorem dX2_leavesRoom_3 : decode cX2_leavesRoom 3 = .ok (.istore_n 3, 1) := by decide +kernel
theorem dX2_leavesRoom_4 : decode cX2_leavesRoom 4 = .ok (.iload_n 1, 1) := by decide +kernel
theorem dX2_leavesRoom_5 : decode cX2_leavesRoom 5 = .ok (.iconst 1, 1) := by decide +kernel
theorem dX2_leavesRoom_6 : decode cX2_leavesRoom 6 = .ok (.iadd, 1) := by decide +kernel
theorem dX2_leavesRoom_7 : decode cX2_leavesRoom 7 = .ok (.istore 4, 2) := by decide +kernel
theorem dX2_leavesRoom_9 : decode cX2_leavesRoom 9 = .ok (.iload 4, 2) := by decide +kernel
theorem dX2_leavesRoom_11 : decode cX2_leavesRoom 11 = .ok (.aload_n 0, 1) := by decide +kernel
theorem dX2_leavesRoom_12 : decode cX2_leavesRoom 12 = .ok (.getfield 45, 3) := by decide +kernel
theorem dX2_leavesRoom_15 : decode cX2_leavesRoom 15 = .ok (.if_icmp .ge 49, 3) := by decide +kernel
theorem dX2_leavesRoom_18 : decode cX2_leavesRoom 18 = .ok (.aload_n 0, 1) := by decide +kernel
theorem dX2_leavesRoom_19 : decode cX2_leavesRoom 19 = .ok (.getfield 30, 3) := by decide +kernel
theorem dX2_leavesRoom_22 : decode cX2_leavesRoom 22 = .ok (.iload_n 3, 1) := by decide +kernel
theorem dX2_leavesRoom_23 : decode cX2_leavesRoom 23 = .ok (.iload 4, 2) := by decide +kernel
theorem dX2_leavesRoom_25 : decode cX2_leavesRoom 25 = .ok (.iadd, 1) := by decide +kernel
theorem dX2_leavesRoom_26 : decode cX2_leavesRoom 26 = .ok (.iaload, 1) := by decide +kernel
theorem dX2_leavesRoom_27 : decode cX2_leavesRoom 27 = .ok (.aload_n 0, 1) := by decide +kernel
theorem dX2_leavesRoom_28 : decode cX2_leavesRoom 28 = .ok (.iload_n 1, 1) := by decide +kernel
theorem dX2_leavesRoom_29 : decode cX2_leavesRoom 29 = .ok (.iload_n 2, 1) := by decide +kernel
theorem dX2_leavesRoom_30 : decode cX2_leavesRoom 30 = .ok (.iload 4, 2) := by decide +kernel
theorem dX2_leavesRoom_32 : decode cX2_leavesRoom 32 = .ok (.invokevirtual 152, 3) := by decide +kernel
theorem dX2_leavesRoom_35 : decode cX2_leavesRoom 35 = .ok (.iand, 1) := by decide +kernel
theorem dX2_leavesRoom_36 : decode cX2_leavesRoom 36 = .ok (.istore 5, 2) := by decide +kernel
theorem dX2_leavesRoom_38 : decode cX2_leavesRoom 38 = .ok (.iload 5, 2) := by decide +kernel
theorem dX2_leavesRoom_40 : decode cX2_leavesRoom 40 = .ok (.ifCond .ne 5, 3) := by decide +kernel
theorem dX2_leavesRoom_43 : decode cX2_leavesRoom 43 = .ok (.iconst 0, 1) := by decide +kernel
theorem dX2_leavesRoom_44 : decode cX2_leavesRoom 44 = .ok (.ireturn, 1) := by decide +kernel
theorem dX2_leavesRoom_45 : decode cX2_leavesRoom 45 = .ok (.aload_n 0, 1) := by decide +kernel
theorem dX2_leavesRoom_46 : decode cX2_leavesRoom 46 = .ok (.getfield 30, 3) := by decide +kernel
theorem dX2_leavesRoom_49 : decode cX2_leavesRoom 49 = .ok (.iload_n 3, 1) := by decide +kernel
theorem dX2_leavesRoom_50 : decode cX2_leavesRoom 50 = .ok (.iconst 4, 1) := by decide +kernel
theorem dX2_leavesRoom_51 : decode cX2_leavesRoom 51 = .ok (.iadd, 1) := by decide +kernel
theorem dX2_leavesRoom_52 : decode cX2_leavesRoom 52 = .ok (.iload 4, 2) := by decide +kernel
theorem dX2_leavesRoom_54 : decode cX2_leavesRoom 54 = .ok (.iadd, 1) := by decide +kernel
theorem dX2_leavesRoom_55 : decode cX2_leavesRoom 55 = .ok (.iload 5, 2) := by decide +kernel
theorem dX2_leavesRoom_57 : decode cX2_leavesRoom 57 = .ok (.iastore, 1) := by decide +kernel
theorem dX2_leavesRoom_58 : decode cX2_leavesRoom 58 = .ok (.iinc 4 1, 3) := by decide +kernel
theorem dX2_leavesRoom_61 : decode cX2_leavesRoom 61 = .ok (.goto (-52), 3) := by decide +kernel
theorem dX2_leavesRoom_64 : decode cX2_leavesRoom 64 = .ok (.iconst 1, 1) := by decide +kernel
theorem dX2_leavesRoom_65 : decode cX2_leavesRoom 65 = .ok (.ireturn, 1) := by decide +kernel
theorem dX2_openBeside_0 : decode cX2_openBeside 0 = .ok (.iload_n 2, 1) := by decide +kernel
theorem dX2_openBeside_1 : decode cX2_openBeside 1 = .ok (.invokestatic 65, 3) := by decide +kernel
theorem dX2_openBeside_4 : decode cX2_openBeside 4 = .ok (.istore 4, 2) := by decide +kernel
theorem dX2_openBeside_6 : decode cX2_openBeside 6 = .ok (.iload 4, 2) := by decide +kernel
theorem dX2_openBeside_8 : decode cX2_openBeside 8 = .ok (.aload_n 0, 1) := by decide +kernel
theorem dX2_openBeside_9 : decode cX2_openBeside 9 = .ok (.getfield 15, 3) := by decide +kernel
theorem dX2_openBeside_12 : decode cX2_openBeside 12 = .ok (.iload_n 1, 1) := by decide +kernel
theorem dX2_openBeside_13 : decode cX2_openBeside 13 = .ok (.iaload, 1) := by decide +kernel
theorem dX2_openBeside_14 : decode cX2_openBeside 14 = .ok (.iadd, 1) := by decide +kernel
theorem dX2_openBeside_15 : decode cX2_openBeside 15 = .ok (.istore 5, 2) := by decide +kernel
theorem dX2_openBeside_17 : decode cX2_openBeside 17 = .ok (.iload 5, 2) := by decide +kernel
theorem dX2_openBeside_19 : decode cX2_openBeside 19 = .ok (.aload_n 0, 1) := by decide +kernel
theorem dX2_openBeside_20 : decode cX2_openBeside 20 = .ok (.getfield 24, 3) := by decide +kernel
theorem dX2_openBeside_23 : decode cX2_openBeside 23 = .ok (.iload_n 3, 1) := by decide +kernel
theorem dX2_openBeside_24 : decode cX2_openBeside 24 = .ok (.iconst 4, 1) := by decide +kernel
theorem dX2_openBeside_25 : decode cX2_openBeside 25 = .ok (.imul, 1) := by decide +kernel
theorem dX2_openBeside_26 : decode cX2_openBeside 26 = .ok (.iload_n 1, 1) := by decide +kernel
theorem dX2_openBeside_27 : decode cX2_openBeside 27 = .ok (.iadd, 1) := by decide +kernel
theorem dX2_openBeside_28 : decode cX2_openBeside 28 = .ok (.iaload, 1) := by decide +kernel
theorem dX2_openBeside_29 : decode cX2_openBeside 29 = .ok (.iadd, 1) := by decide +kernel
theorem dX2_openBeside_30 : decode cX2_openBeside 30 = .ok (.istore 6, 2) := by decide +kernel
theorem dX2_openBeside_32 : decode cX2_openBeside 32 = .ok (.iload 4, 2) := by decide +kernel
theorem dX2_openBeside_34 : decode cX2_openBeside 34 = .ok (.aload_n 0, 1) := by decide +kernel
theorem dX2_openBeside_35 : decode cX2_openBeside 35 = .ok (.getfield 24, 3) := by decide +kernel
theorem dX2_openBeside_38 : decode cX2_openBeside 38 = .ok (.iload_n 1, 1) := by decide +kernel
theorem dX2_openBeside_39 : decode cX2_openBeside 39 = .ok (.iconst 4, 1) := by decide +kernel
theorem dX2_openBeside_40 : decode cX2_openBeside 40 = .ok (.imul, 1) := by decide +kernel
theorem dX2_openBeside_41 : decode cX2_openBeside 41 = .ok (.iload_n 3, 1) := by decide +kernel
theorem dX2_openBeside_42 : decode cX2_openBeside 42 = .ok (.iadd, 1) := by decide +kernel
theorem dX2_openBeside_43 : decode cX2_openBeside 43 = .ok (.iaload, 1) := by decide +kernel
theorem dX2_openBeside_44 : decode cX2_openBeside 44 = .ok (.isub, 1) := by decide +kernel
theorem dX2_openBeside_45 : decode cX2_openBeside 45 = .ok (.aload_n 0, 1) := by decide +kernel
theorem dX2_openBeside_46 : decode cX2_openBeside 46 = .ok (.getfield 15, 3) := by decide +kernel
theorem dX2_openBeside_49 : decode cX2_openBeside 49 = .ok (.iload_n 3, 1) := by decide +kernel
theorem dX2_openBeside_50 : decode cX2_openBeside 50 = .ok (.iaload, 1) := by decide +kernel
theorem dX2_openBeside_51 : decode cX2_openBeside 51 = .ok (.isub, 1) := by decide +kernel
theorem dX2_openBeside_52 : decode cX2_openBeside 52 = .ok (.istore 7, 2) := by decide +kernel
theorem dX2_openBeside_54 : decode cX2_openBeside 54 = .ok (.aload_n 0, 1) := by decide +kernel
theorem dX2_openBeside_55 : decode cX2_openBeside 55 = .ok (.getfield 27, 3) := by decide +kernel
theorem dX2_openBeside_58 : decode cX2_openBeside 58 = .ok (.iload_n 1, 1) := by decide +kernel
theorem dX2_openBeside_59 : decode cX2_openBeside 59 = .ok (.iaload, 1) := by decide +kernel
theorem dX2_openBeside_60 : decode cX2_openBeside 60 = .ok (.iload_n 3, 1) := by decide +kernel
theorem dX2_openBeside_61 : decode cX2_openBeside 61 = .ok (.ishr, 1) := by decide +kernel
theorem dX2_openBeside_62 : decode cX2_openBeside 62 = .ok (.iconst 1, 1) := by decide +kernel
theorem dX2_openBeside_63 : decode cX2_openBeside 63 = .ok (.iand, 1) := by decide +kernel
theorem dX2_openBeside_64 : decode cX2_openBeside 64 = .ok (.ifCond .ne 7, 3) := by decide +kernel
theorem dX2_openBeside_67 : decode cX2_openBeside 67 = .ok (.iconst 1, 1) := by decide +kernel
theorem dX2_openBeside_68 : decode cX2_openBeside 68 = .ok (.goto 4, 3) := by decide +kernel
theorem dX2_openBeside_71 : decode cX2_openBeside 71 = .ok (.iconst 0, 1) := by decide +kernel
theorem dX2_openBeside_72 : decode cX2_openBeside 72 = .ok (.istore 8, 2) := by decide +kernel
theorem dX2_openBeside_74 : decode cX2_openBeside 74 = .ok (.iload 8, 2) := by decide +kernel
theorem dX2_openBeside_76 : decode cX2_openBeside 76 = .ok (.ifCond .eq 24, 3) := by decide +kernel
theorem dX2_openBeside_79 : decode cX2_openBeside 79 = .ok (.iload 4, 2) := by decide +kernel
theorem dX2_openBeside_81 : decode cX2_openBeside 81 = .ok (.aload_n 0, 1) := by decide +kernel
theorem dX2_openBeside_82 : decode cX2_openBeside 82 = .ok (.getfield 15, 3) := by decide +kernel
theorem dX2_openBeside_85 : decode cX2_openBeside 85 = .ok (.iload_n 3, 1) := by decide +kernel
theorem dX2_openBeside_86 : decode cX2_openBeside 86 = .ok (.iaload, 1) := by decide +kernel
theorem dX2_openBeside_87 : decode cX2_openBeside 87 = .ok (.isub, 1) := by decide +kernel
theorem dX2_openBeside_88 : decode cX2_openBeside 88 = .ok (.iconst 1, 1) := by decide +kernel
theorem dX2_openBeside_89 : decode cX2_openBeside 89 = .ok (.iadd, 1) := by decide +kernel
theorem dX2_openBeside_90 : decode cX2_openBeside 90 = .ok (.iload 5, 2) := by decide +kernel
theorem dX2_openBeside_92 : decode cX2_openBeside 92 = .ok (.iconst 1, 1) := by decide +kernel
theorem dX2_openBeside_93 : decode cX2_openBeside 93 = .ok (.isub, 1) := by decide +kernel
theorem dX2_openBeside_94 : decode cX2_openBeside 94 = .ok (.invokestatic 50, 3) := by decide +kernel
theorem dX2_openBeside_97 : decode cX2_openBeside 97 = .ok (.goto 6, 3) := by decide +kernel
theorem dX2_openBeside_100 : decode cX2_openBeside 100 = .ok (.sipush 1023, 3) := by decide +kernel
theorem dX2_openBeside_103 : decode cX2_openBeside 103 = .ok (.istore 9, 2) := by decide +kernel
theorem dX2_openBeside_105 : decode cX2_openBeside 105 = .ok (.iload 6, 2) := by decide +kernel
theorem dX2_openBeside_107 : decode cX2_openBeside 107 = .ok (.iload 7, 2) := by decide +kernel
theorem dX2_openBeside_109 : decode cX2_openBeside 109 = .ok (.invokestatic 50, 3) := by decide +kernel
theorem dX2_openBeside_112 : decode cX2_openBeside 112 = .ok (.invokestatic 108, 3) := by decide +kernel
theorem dX2_openBeside_115 : decode cX2_openBeside 115 = .ok (.iload 9, 2) := by decide +kernel
theorem dX2_openBeside_117 : decode cX2_openBeside 117 = .ok (.iload_n 2, 1) := by decide +kernel
theorem dX2_openBeside_118 : decode cX2_openBeside 118 = .ok (.invokestatic 149, 3) := by decide +kernel
theorem dX2_openBeside_121 : decode cX2_openBeside 121 = .ok (.bipush 10, 2) := by decide +kernel
theorem dX2_openBeside_123 : decode cX2_openBeside 123 = .ok (.imul, 1) := by decide +kernel
theorem dX2_openBeside_124 : decode cX2_openBeside 124 = .ok (.ishl, 1) := by decide +kernel
theorem dX2_openBeside_125 : decode cX2_openBeside 125 = .ok (.iconst (-1), 1) := by decide +kernel
theorem dX2_openBeside_126 : decode cX2_openBeside 126 = .ok (.ixor, 1) := by decide +kernel
theorem dX2_openBeside_127 : decode cX2_openBeside 127 = .ok (.iand, 1) := by decide +kernel
theorem dX2_openBeside_128 : decode cX2_openBeside 128 = .ok (.ireturn, 1) := by decide +kernel
theorem dX4_tankOfPlace_0 : decode cX4_tankOfPlace 0 = .ok (.iload_n 0, 1) := by decide +kernel
theorem dX4_tankOfPlace_1 : decode cX4_tankOfPlace 1 = .ok (.bipush 10, 2) := by decide +kernel
theorem dX4_tankOfPlace_3 : decode cX4_tankOfPlace 3 = .ok (.idiv, 1) := by decide +kernel
theorem dX4_tankOfPlace_4 : decode cX4_tankOfPlace 4 = .ok (.ireturn, 1) := by decide +kernel
theorem dX4_firstBar_0 : decode cX4_firstBar 0 = .ok (.iconst 0, 1) := by decide +kernel
theorem dX4_firstBar_1 : decode cX4_firstBar 1 = .ok (.istore_n 1, 1) := by decide +kernel
theorem dX4_firstBar_2 : decode cX4_firstBar 2 = .ok (.iload_n 1, 1) := by decide +kernel
theorem dX4_firstBar_3 : decode cX4_firstBar 3 = .ok (.aload_n 0, 1) := by decide +kernel
theorem dX4_firstBar_4 : decode cX4_firstBar 4 = .ok (.getfield 19, 3) := by decide +kernel
theorem dX4_firstBar_7 : decode cX4_firstBar 7 = .ok (.getfield 167, 3) := by decide +kernel
theorem dX4_firstBar_10 : decode cX4_firstBar 10 = .ok (.if_icmp .ge 33, 3) := by decide +kernel
theorem dX4_firstBar_13 : decode cX4_firstBar 13 = .ok (.aload_n 0, 1) := by decide +kernel
theorem dX4_firstBar_14 : decode cX4_firstBar 14 = .ok (.getfield 26, 3) := by decide +kernel
theorem dX4_firstBar_17 : decode cX4_firstBar 17 = .ok (.aload_n 0, 1) := by decide +kernel
theorem dX4_firstBar_18 : decode cX4_firstBar 18 = .ok (.getfield 19, 3) := by decide +kernel
theorem dX4_firstBar_21 : decode cX4_firstBar 21 = .ok (.iload_n 1, 1) := by decide +kernel
theorem dX4_firstBar_22 : decode cX4_firstBar 22 = .ok (.invokevirtual 117, 3) := by decide +kernel
theorem dX4_firstBar_25 : decode cX4_firstBar 25 = .ok (.aload_n 0, 1) := by decide +kernel
theorem dX4_firstBar_26 : decode cX4_firstBar 26 = .ok (.getfield 26, 3) := by decide +kernel
theorem dX4_firstBar_29 : decode cX4_firstBar 29 = .ok (.invokevirtual 121, 3) := by decide +kernel
theorem dX4_firstBar_32 : decode cX4_firstBar 32 = .ok (.ifCond .eq 5, 3) := by decide +kernel
theorem dX4_firstBar_35 : decode cX4_firstBar 35 = .ok (.iload_n 1, 1) := by decide +kernel
theorem dX4_firstBar_36 : decode cX4_firstBar 36 = .ok (.ireturn, 1) := by decide +kernel
theorem dX4_firstBar_37 : decode cX4_firstBar 37 = .ok (.iinc 1 1, 3) := by decide +kernel
theorem dX4_firstBar_40 : decode cX4_firstBar 40 = .ok (.goto (-38), 3) := by decide +kernel
theorem dX4_firstBar_43 : decode cX4_firstBar 43 = .ok (.aload_n 0, 1) := by decide +kernel
theorem dX4_firstBar_44 : decode cX4_firstBar 44 = .ok (.getfield 19, 3) := by decide +kernel
theorem dX4_firstBar_47 : decode cX4_firstBar 47 = .ok (.getfield 167, 3) := by decide +kernel
theorem dX4_firstBar_50 : decode cX4_firstBar 50 = .ok (.ireturn, 1) := by decide +kernel
theorem dX2_findsBest_0 : decode cX2_findsBest 0 = .ok (.iconst 0, 1) := by decide +kernel
theorem dX2_findsBest_1 : decode cX2_findsBest 1 = .ok (.istore_n 2, 1) := by decide +kernel
theorem dX2_findsBest_2 : decode cX2_findsBest 2 = .ok (.iload_n 2, 1) := by decide +kernel
theorem dX2_findsBest_3 : decode cX2_findsBest 3 = .ok (.iload_n 1, 1) := by decide +kernel
theorem dX2_findsBest_4 : decode cX2_findsBest 4 = .ok (.if_icmp .gt 37, 3) := by decide +kernel
theorem dX2_findsBest_7 : decode cX2_findsBest 7 = .ok (.iload_n 2, 1) := by decide +kernel
theorem dX2_findsBest_8 : decode cX2_findsBest 8 = .ok (.iconst 1, 1) := by decide +kernel
theorem dX2_findsBest_9 : decode cX2_findsBest 9 = .ok (.iadd, 1) := by decide +kernel
theorem dX2_findsBest_10 : decode cX2_findsBest 10 = .ok (.bipush 64, 2) := by decide +kernel
theorem dX2_findsBest_12 : decode cX2_findsBest 12 = .ok (.imul, 1) := by decide +kernel
theorem dX2_findsBest_13 : decode cX2_findsBest 13 = .ok (.istore_n 3, 1) := by decide +kernel
theorem dX2_findsBest_14 : decode cX2_findsBest 14 = .ok (.aload_n 0, 1) := by decide +kernel
theorem dX2_findsBest_15 : decode cX2_findsBest 15 = .ok (.iload_n 3, 1) := by decide +kernel
theorem dX2_findsBest_16 : decode cX2_findsBest 16 = .ok (.putfield 36, 3) := by decide +kernel
theorem dX2_findsBest_19 : decode cX2_findsBest 19 = .ok (.aload_n 0, 1) := by decide +kernel
theorem dX2_findsBest_20 : decode cX2_findsBest 20 = .ok (.iconst 0, 1) := by decide +kernel
theorem dX2_findsBest_21 : decode cX2_findsBest 21 = .ok (.iconst 0, 1) := by decide +kernel
theorem dX2_findsBest_22 : decode cX2_findsBest 22 = .ok (.invokevirtual 132, 3) := by decide +kernel
theorem dX2_findsBest_25 : decode cX2_findsBest 25 = .ok (.aload_n 0, 1) := by decide +kernel
theorem dX2_findsBest_26 : decode cX2_findsBest 26 = .ok (.getfield 36, 3) := by decide +kernel
theorem dX2_findsBest_29 : decode cX2_findsBest 29 = .ok (.iload_n 3, 1) := by decide +kernel
theorem dX2_findsBest_30 : decode cX2_findsBest 30 = .ok (.if_icmp .ge 5, 3) := by decide +kernel
theorem dX2_findsBest_33 : decode cX2_findsBest 33 = .ok (.iconst 1, 1) := by decide +kernel
theorem dX2_findsBest_34 : decode cX2_findsBest 34 = .ok (.ireturn, 1) := by decide +kernel
theorem dX2_findsBest_35 : decode cX2_findsBest 35 = .ok (.iinc 2 1, 3) := by decide +kernel
theorem dX2_findsBest_38 : decode cX2_findsBest 38 = .ok (.goto (-36), 3) := by decide +kernel
theorem dX2_findsBest_41 : decode cX2_findsBest 41 = .ok (.iconst 0, 1) := by decide +kernel
theorem dX2_findsBest_42 : decode cX2_findsBest 42 = .ok (.ireturn, 1) := by decide +kernel
theorem dX2_putBetter_0 : decode cX2_putBetter 0 = .ok (.iload_n 2, 1) := by decide +kernel
theorem dX2_putBetter_1 : decode cX2_putBetter 1 = .ok (.aload_n 0, 1) := by decide +kernel
theorem dX2_putBetter_2 : decode cX2_putBetter 2 = .ok (.iload_n 1, 1) := by decide +kernel
theorem dX2_putBetter_3 : decode cX2_putBetter 3 = .ok (.invokevirtual 140, 3) := by decide +kernel
theorem dX2_putBetter_6 : decode cX2_putBetter 6 = .ok (.iadd, 1) := by decide +kernel
theorem dX2_putBetter_7 : decode cX2_putBetter 7 = .ok (.aload_n 0, 1) := by decide +kernel
theorem dX2_putBetter_8 : decode cX2_putBetter 8 = .ok (.getfield 36, 3) := by decide +kernel
theorem dX2_putBetter_11 : decode cX2_putBetter 11 = .ok (.if_icmp .lt 4, 3) := by decide +kernel
theorem dX2_putBetter_14 : decode cX2_putBetter 14 = .ok (.return_, 1) := by decide +kernel
theorem dX2_putBetter_15 : decode cX2_putBetter 15 = .ok (.iload_n 1, 1) := by decide +kernel
theorem dX2_putBetter_16 : decode cX2_putBetter 16 = .ok (.aload_n 0, 1) := by decide +kernel
theorem dX2_putBetter_17 : decode cX2_putBetter 17 = .ok (.getfield 45, 3) := by decide +kernel
theorem dX2_putBetter_20 : decode cX2_putBetter 20 = .ok (.if_icmp .lt 26, 3) := by decide +kernel
theorem dX2_putBetter_23 : decode cX2_putBetter 23 = .ok (.aload_n 0, 1) := by decide +kernel
theorem dX2_putBetter_24 : decode cX2_putBetter 24 = .ok (.iload_n 2, 1) := by decide +kernel
theorem dX2_putBetter_25 : decode cX2_putBetter 25 = .ok (.putfield 36, 3) := by decide +kernel
theorem dX2_putBetter_28 : decode cX2_putBetter 28 = .ok (.aload_n 0, 1) := by decide +kernel
theorem dX2_putBetter_29 : decode cX2_putBetter 29 = .ok (.getfield 33, 3) := by decide +kernel
theorem dX2_putBetter_32 : decode cX2_putBetter 32 = .ok (.iconst 0, 1) := by decide +kernel
theorem dX2_putBetter_33 : decode cX2_putBetter 33 = .ok (.aload_n 0, 1) := by decide +kernel
theorem dX2_putBetter_34 : decode cX2_putBetter 34 = .ok (.getfield 9, 3) := by decide +kernel
theorem dX2_putBetter_37 : decode cX2_putBetter 37 = .ok (.iconst 0, 1) := by decide +kernel
theorem dX2_putBetter_38 : decode cX2_putBetter 38 = .ok (.aload_n 0, 1) := by decide +kernel
theorem dX2_putBetter_39 : decode cX2_putBetter 39 = .ok (.getfield 45, 3) := by decide +kernel
theorem dX2_putBetter_42 : decode cX2_putBetter 42 = .ok (.invokestatic 75, 3) := by decide +kernel
theorem dX2_putBetter_45 : decode cX2_putBetter 45 = .ok (.return_, 1) := by decide +kernel
theorem dX2_putBetter_46 : decode cX2_putBetter 46 = .ok (.aload_n 0, 1) := by decide +kernel
theorem dX2_putBetter_47 : decode cX2_putBetter 47 = .ok (.getfield 30, 3) := by decide +kernel
theorem dX2_putBetter_50 : decode cX2_putBetter 50 = .ok (.iload_n 1, 1) := by decide +kernel
theorem dX2_putBetter_51 : decode cX2_putBetter 51 = .ok (.iconst 4, 1) := by decide +kernel
theorem dX2_putBetter_52 : decode cX2_putBetter 52 = .ok (.imul, 1) := by decide +kernel
theorem dX2_putBetter_53 : decode cX2_putBetter 53 = .ok (.iload_n 1, 1) := by decide +kernel
theorem dX2_putBetter_54 : decode cX2_putBetter 54 = .ok (.iadd, 1) := by decide +kernel
theorem dX2_putBetter_55 : decode cX2_putBetter 55 = .ok (.iaload, 1) := by decide +kernel
theorem dX2_putBetter_56 : decode cX2_putBetter 56 = .ok (.istore_n 3, 1) := by decide +kernel
theorem dX2_putBetter_57 : decode cX2_putBetter 57 = .ok (.iconst 0, 1) := by decide +kernel
theorem dX2_putBetter_58 : decode cX2_putBetter 58 = .ok (.istore 4, 2) := by decide +kernel
theorem dX2_putBetter_60 : decode cX2_putBetter 60 = .ok (.iload 4, 2) := by decide +kernel
theorem dX2_putBetter_62 : decode cX2_putBetter 62 = .ok (.bipush 30, 2) := by decide +kernel
theorem dX2_putBetter_64 : decode cX2_putBetter 64 = .ok (.if_icmp .ge 65, 3) := by decide +kernel
theorem dX2_putBetter_67 : decode cX2_putBetter 67 = .ok (.iload_n 3, 1) := by decide +kernel
theorem dX2_putBetter_68 : decode cX2_putBetter 68 = .ok (.iload 4, 2) := by decide +kernel
theorem dX2_putBetter_70 : decode cX2_putBetter 70 = .ok (.ishr, 1) := by decide +kernel
theorem dX2_putBetter_71 : decode cX2_putBetter 71 = .ok (.iconst 1, 1) := by decide +kernel
theorem dX2_putBetter_72 : decode cX2_putBetter 72 = .ok (.iand, 1) := by decide +kernel
theorem dX2_putBetter_73 : decode cX2_putBetter 73 = .ok (.ifCond .eq 50, 3) := by decide +kernel
theorem dX2_putBetter_76 : decode cX2_putBetter 76 = .ok (.iload_n 2, 1) := by decide +kernel
theorem dX2_putBetter_77 : decode cX2_putBetter 77 = .ok (.aload_n 0, 1) := by decide +kernel
theorem dX2_putBetter_78 : decode cX2_putBetter 78 = .ok (.iload_n 1, 1) := by decide +kernel
theorem dX2_putBetter_79 : decode cX2_putBetter 79 = .ok (.iload 4, 2) := by decide +kernel
theorem dX2_putBetter_81 : decode cX2_putBetter 81 = .ok (.invokevirtual 143, 3) := by decide +kernel
theorem dX2_putBetter_84 : decode cX2_putBetter 84 = .ok (.iadd, 1) := by decide +kernel
theorem dX2_putBetter_85 : decode cX2_putBetter 85 = .ok (.istore 5, 2) := by decide +kernel
theorem dX2_putBetter_87 : decode cX2_putBetter 87 = .ok (.iload 5, 2) := by decide +kernel
theorem dX2_putBetter_89 : decode cX2_putBetter 89 = .ok (.aload_n 0, 1) := by decide +kernel
theorem dX2_putBetter_90 : decode cX2_putBetter 90 = .ok (.getfield 36, 3) := by decide +kernel
theorem dX2_putBetter_93 : decode cX2_putBetter 93 = .ok (.if_icmp .ge 30, 3) := by decide +kernel
theorem dX2_putBetter_96 : decode cX2_putBetter 96 = .ok (.aload_n 0, 1) := by decide +kernel
theorem dX2_putBetter_97 : decode cX2_putBetter 97 = .ok (.iload_n 1, 1) := by decide +kernel
theorem dX2_putBetter_98 : decode cX2_putBetter 98 = .ok (.iload 4, 2) := by decide +kernel
theorem dX2_putBetter_100 : decode cX2_putBetter 100 = .ok (.invokevirtual 136, 3) := by decide +kernel
theorem dX2_putBetter_103 : decode cX2_putBetter 103 = .ok (.ifCond .eq 20, 3) := by decide +kernel
theorem dX2_putBetter_106 : decode cX2_putBetter 106 = .ok (.aload_n 0, 1) := by decide +kernel
theorem dX2_putBetter_107 : decode cX2_putBetter 107 = .ok (.getfield 33, 3) := by decide +kernel
theorem dX2_putBetter_110 : decode cX2_putBetter 110 = .ok (.iload_n 1, 1) := by decide +kernel
theorem dX2_putBetter_111 : decode cX2_putBetter 111 = .ok (.iload 4, 2) := by decide +kernel
theorem dX2_putBetter_113 : decode cX2_putBetter 113 = .ok (.iastore, 1) := by decide +kernel
theorem dX2_putBetter_114 : decode cX2_putBetter 114 = .ok (.aload_n 0, 1) := by decide +kernel
theorem dX2_putBetter_115 : decode cX2_putBetter 115 = .ok (.iload_n 1, 1) := by decide +kernel
theorem dX2_putBetter_116 : decode cX2_putBetter 116 = .ok (.iconst 1, 1) := by decide +kernel
theorem dX2_putBetter_117 : decode cX2_putBetter 117 = .ok (.iadd, 1) := by decide +kernel
theorem dX2_putBetter_118 : decode cX2_putBetter 118 = .ok (.iload 5, 2) := by decide +kernel
theorem dX2_putBetter_120 : decode cX2_putBetter 120 = .ok (.invokevirtual 132, 3) := by decide +kernel
theorem dX2_putBetter_123 : decode cX2_putBetter 123 = .ok (.iinc 4 1, 3) := by decide +kernel
theorem dX2_putBetter_126 : decode cX2_putBetter 126 = .ok (.goto (-66), 3) := by decide +kernel
theorem dX2_putBetter_129 : decode cX2_putBetter 129 = .ok (.return_, 1) := by decide +kernel
theorem dX2_leastWeightFrom_0 : decode cX2_leastWeightFrom 0 = .ok (.iconst 0, 1) := by decide +kernel
theorem dX2_leastWeightFrom_1 : decode cX2_leastWeightFrom 1 = .ok (.istore_n 2, 1) := by decide +kernel
theorem dX2_leastWeightFrom_2 : decode cX2_leastWeightFrom 2 = .ok (.iload_n 1, 1) := by decide +kernel
theorem dX2_leastWeightFrom_3 : decode cX2_leastWeightFrom 3 = .ok (.istore_n 3, 1) := by decide +kernel
theorem dX2_leastWeightFrom_4 : decode cX2_leastWeightFrom 4 = .ok (.iload_n 3, 1) := by decide +kernel
theorem dX2_leastWeightFrom_5 : decode cX2_leastWeightFrom 5 = .ok (.aload_n 0, 1) := by decide +kernel
theorem dX2_leastWeightFrom_6 : decode cX2_leastWeightFrom 6 = .ok (.getfield 45, 3) := by decide +kernel
theorem dX2_leastWeightFrom_9 : decode cX2_leastWeightFrom 9 = .ok (.if_icmp .ge 34, 3) := by decide +kernel
theorem dX2_leastWeightFrom_12 : decode cX2_leastWeightFrom 12 = .ok (.aload_n 0, 1) := by decide +kernel
theorem dX2_leastWeightFrom_13 : decode cX2_leastWeightFrom 13 = .ok (.getfield 30, 3) := by decide +kernel
theorem dX2_leastWeightFrom_16 : decode cX2_leastWeightFrom 16 = .ok (.iload_n 1, 1) := by decide +kernel
theorem dX2_leastWeightFrom_17 : decode cX2_leastWeightFrom 17 = .ok (.iconst 4, 1) := by decide +kernel
theorem dX2_leastWeightFrom_18 : decode cX2_leastWeightFrom 18 = .ok (.imul, 1) := by decide +kernel
theorem dX2_leastWeightFrom_19 : decode cX2_leastWeightFrom 19 = .ok (.iload_n 3, 1) := by decide +kernel
theorem dX2_leastWeightFrom_20 : decode cX2_leastWeightFrom 20 = .ok (.iadd, 1) := by decide +kernel
theorem dX2_leastWeightFrom_21 : decode cX2_leastWeightFrom 21 = .ok (.iaload, 1) := by decide +kernel
theorem dX2_leastWeightFrom_22 : decode cX2_leastWeightFrom 22 = .ok (.aload_n 0, 1) := by decide +kernel
theorem dX2_leastWeightFrom_23 : decode cX2_leastWeightFrom 23 = .ok (.getfield 18, 3) := by decide +kernel
theorem dX2_leastWeightFrom_26 : decode cX2_leastWeightFrom 26 = .ok (.iload_n 3, 1) := by decide +kernel
theorem dX2_leastWeightFrom_27 : decode cX2_leastWeightFrom 27 = .ok (.iaload, 1) := by decide +kernel
theorem dX2_leastWeightFrom_28 : decode cX2_leastWeightFrom 28 = .ok (.ishr, 1) := by decide +kernel
theorem dX2_leastWeightFrom_29 : decode cX2_leastWeightFrom 29 = .ok (.iconst 1, 1) := by decide +kernel
theorem dX2_leastWeightFrom_30 : decode cX2_leastWeightFrom 30 = .ok (.iand, 1) := by decide +kernel
theorem dX2_leastWeightFrom_31 : decode cX2_leastWeightFrom 31 = .ok (.ifCond .ne 6, 3) := by decide +kernel
theorem dX2_leastWeightFrom_34 : decode cX2_leastWeightFrom 34 = .ok (.iinc 2 65, 3) := by decide +kernel
theorem dX2_leastWeightFrom_37 : decode cX2_leastWeightFrom 37 = .ok (.iinc 3 1, 3) := by decide +kernel
theorem dX2_leastWeightFrom_40 : decode cX2_leastWeightFrom 40 = .ok (.goto (-36), 3) := by decide +kernel
theorem dX2_leastWeightFrom_43 : decode cX2_leastWeightFrom 43 = .ok (.iload_n 2, 1) := by decide +kernel
theorem dX2_leastWeightFrom_44 : decode cX2_leastWeightFrom 44 = .ok (.ireturn, 1) := by decide +kernel
theorem dX2_weightAt_0 : decode cX2_weightAt 0 = .ok (.aload_n 0, 1) := by decide +kernel
theorem dX2_weightAt_1 : decode cX2_weightAt 1 = .ok (.getfield 18, 3) := by decide +kernel
theorem dX2_weightAt_4 : decode cX2_weightAt 4 = .ok (.iload_n 1, 1) := by decide +kernel
theorem dX2_weightAt_5 : decode cX2_weightAt 5 = .ok (.iaload, 1) := by decide +kernel
theorem dX2_weightAt_6 : decode cX2_weightAt 6 = .ok (.istore_n 3, 1) := by decide +kernel
theorem dX2_weightAt_7 : decode cX2_weightAt 7 = .ok (.iload_n 2, 1) := by decide +kernel
theorem dX2_weightAt_8 : decode cX2_weightAt 8 = .ok (.iload_n 3, 1) := by decide +kernel
theorem dX2_weightAt_9 : decode cX2_weightAt 9 = .ok (.if_icmp .ne 5, 3) := by decide +kernel
theorem dX2_weightAt_12 : decode cX2_weightAt 12 = .ok (.iconst 0, 1) := by decide +kernel
theorem dX2_weightAt_13 : decode cX2_weightAt 13 = .ok (.ireturn, 1) := by decide +kernel
theorem dX2_weightAt_14 : decode cX2_weightAt 14 = .ok (.iload_n 2, 1) := by decide +kernel
theorem dX2_weightAt_15 : decode cX2_weightAt 15 = .ok (.invokestatic 65, 3) := by decide +kernel
theorem dX2_weightAt_18 : decode cX2_weightAt 18 = .ok (.iload_n 3, 1) := by decide +kernel
theorem dX2_weightAt_19 : decode cX2_weightAt 19 = .ok (.invokestatic 65, 3) := by decide +kernel
theorem dX2_weightAt_22 : decode cX2_weightAt 22 = .ok (.isub, 1) := by decide +kernel
theorem dX2_weightAt_23 : decode cX2_weightAt 23 = .ok (.invokestatic 146, 3) := by decide +kernel
theorem dX2_weightAt_26 : decode cX2_weightAt 26 = .ok (.istore 4, 2) := by decide +kernel
theorem dX2_weightAt_28 : decode cX2_weightAt 28 = .ok (.bipush 64, 2) := by decide +kernel
theorem dX2_weightAt_30 : decode cX2_weightAt 30 = .ok (.iload 4, 2) := by decide +kernel
theorem dX2_weightAt_32 : decode cX2_weightAt 32 = .ok (.iadd, 1) := by decide +kernel
theorem dX2_weightAt_33 : decode cX2_weightAt 33 = .ok (.iload_n 2, 1) := by decide +kernel
theorem dX2_weightAt_34 : decode cX2_weightAt 34 = .ok (.invokestatic 149, 3) := by decide +kernel
theorem dX2_weightAt_37 : decode cX2_weightAt 37 = .ok (.iload_n 3, 1) := by decide +kernel
theorem dX2_weightAt_38 : decode cX2_weightAt 38 = .ok (.invokestatic 149, 3) := by decide +kernel
theorem dX2_weightAt_41 : decode cX2_weightAt 41 = .ok (.if_icmp .ne 7, 3) := by decide +kernel
theorem dX2_weightAt_44 : decode cX2_weightAt 44 = .ok (.iconst 0, 1) := by decide +kernel
theorem dX2_weightAt_45 : decode cX2_weightAt 45 = .ok (.goto 4, 3) := by decide +kernel
theorem dX2_weightAt_48 : decode cX2_weightAt 48 = .ok (.iconst 3, 1) := by decide +kernel
theorem dX2_weightAt_49 : decode cX2_weightAt 49 = .ok (.iadd, 1) := by decide +kernel
theorem dX2_weightAt_50 : decode cX2_weightAt 50 = .ok (.ireturn, 1) := by decide +kernel
theorem dX4_adoptFound_0 : decode cX4_adoptFound 0 = .ok (.aload_n 0, 1) := by decide +kernel
theorem dX4_adoptFound_1 : decode cX4_adoptFound 1 = .ok (.getfield 35, 3) := by decide +kernel
theorem dX4_adoptFound_4 : decode cX4_adoptFound 4 = .ok (.invokevirtual 153, 3) := by decide +kernel
theorem dX4_adoptFound_7 : decode cX4_adoptFound 7 = .ok (.ifCond .eq 10, 3) := by decide +kernel
theorem dX4_adoptFound_10 : decode cX4_adoptFound 10 = .ok (.aload_n 0, 1) := by decide +kernel
theorem dX4_adoptFound_11 : decode cX4_adoptFound 11 = .ok (.getfield 35, 3) := by decide +kernel
theorem dX4_adoptFound_14 : decode cX4_adoptFound 14 = .ok (.invokevirtual 170, 3) := by decide +kernel
theorem dX4_adoptFound_17 : decode cX4_adoptFound 17 = .ok (.aload_n 0, 1) := by decide +kernel
theorem dX4_adoptFound_18 : decode cX4_adoptFound 18 = .ok (.getfield 35, 3) := by decide +kernel
theorem dX4_adoptFound_21 : decode cX4_adoptFound 21 = .ok (.aload_n 0, 1) := by decide +kernel
theorem dX4_adoptFound_22 : decode cX4_adoptFound 22 = .ok (.getfield 12, 3) := by decide +kernel
theorem dX4_adoptFound_25 : decode cX4_adoptFound 25 = .ok (.invokevirtual 154, 3) := by decide +kernel
theorem dX4_adoptFound_28 : decode cX4_adoptFound 28 = .ok (.istore_n 1, 1) := by decide +kernel
theorem dX4_adoptFound_29 : decode cX4_adoptFound 29 = .ok (.aload_n 0, 1) := by decide +kernel
theorem dX4_adoptFound_30 : decode cX4_adoptFound 30 = .ok (.getfield 12, 3) := by decide +kernel
theorem dX4_adoptFound_33 : decode cX4_adoptFound 33 = .ok (.aload_n 0, 1) := by decide +kernel
theorem dX4_adoptFound_34 : decode cX4_adoptFound 34 = .ok (.getfield 26, 3) := by decide +kernel
theorem dX4_adoptFound_37 : decode cX4_adoptFound 37 = .ok (.getfield 173, 3) := by decide +kernel
theorem dX4_adoptFound_40 : decode cX4_adoptFound 40 = .ok (.invokevirtual 176, 3) := by decide +kernel
theorem dX4_adoptFound_43 : decode cX4_adoptFound 43 = .ok (.aload_n 0, 1) := by decide +kernel
theorem dX4_adoptFound_44 : decode cX4_adoptFound 44 = .ok (.aload_n 0, 1) := by decide +kernel
theorem dX4_adoptFound_45 : decode cX4_adoptFound 45 = .ok (.getfield 35, 3) := by decide +kernel
theorem dX4_adoptFound_48 : decode cX4_adoptFound 48 = .ok (.iload_n 1, 1) := by decide +kernel
theorem dX4_adoptFound_49 : decode cX4_adoptFound 49 = .ok (.aload_n 0, 1) := by decide +kernel
theorem dX4_adoptFound_50 : decode cX4_adoptFound 50 = .ok (.getfield 12, 3) := by decide +kernel
theorem dX4_adoptFound_53 : decode cX4_adoptFound 53 = .ok (.invokevirtual 159, 3) := by decide +kernel
theorem dX4_adoptFound_56 : decode cX4_adoptFound 56 = .ok (.putfield 140, 3) := by decide +kernel
theorem dX4_adoptFound_59 : decode cX4_adoptFound 59 = .ok (.aload_n 0, 1) := by decide +kernel
theorem dX4_adoptFound_60 : decode cX4_adoptFound 60 = .ok (.aload_n 0, 1) := by decide +kernel
theorem dX4_adoptFound_61 : decode cX4_adoptFound 61 = .ok (.getfield 26, 3) := by decide +kernel
theorem dX4_adoptFound_64 : decode cX4_adoptFound 64 = .ok (.invokevirtual 180, 3) := by decide +kernel
theorem dX4_adoptFound_67 : decode cX4_adoptFound 67 = .ok (.putfield 124, 3) := by decide +kernel
theorem dX4_adoptFound_70 : decode cX4_adoptFound 70 = .ok (.aload_n 0, 1) := by decide +kernel
theorem dX4_adoptFound_71 : decode cX4_adoptFound 71 = .ok (.aload_n 0, 1) := by decide +kernel
theorem dX4_adoptFound_72 : decode cX4_adoptFound 72 = .ok (.getfield 26, 3) := by decide +kernel
theorem dX4_adoptFound_75 : decode cX4_adoptFound 75 = .ok (.invokevirtual 183, 3) := by decide +kernel
theorem dX4_adoptFound_78 : decode cX4_adoptFound 78 = .ok (.i2l, 1) := by decide +kernel
theorem dX4_adoptFound_79 : decode cX4_adoptFound 79 = .ok (.putfield 163, 3) := by decide +kernel
theorem dX4_adoptFound_82 : decode cX4_adoptFound 82 = .ok (.return_, 1) := by decide +kernel
theorem dX3_isFull_0 : decode cX3_isFull 0 = .ok (.aload_n 0, 1) := by decide +kernel
theorem dX3_isFull_1 : decode cX3_isFull 1 = .ok (.getfield 28, 3) := by decide +kernel
theorem dX3_isFull_4 : decode cX3_isFull 4 = .ok (.aload_n 0, 1) := by decide +kernel
theorem dX3_isFull_5 : decode cX3_isFull 5 = .ok (.getfield 15, 3) := by decide +kernel
theorem dX3_isFull_8 : decode cX3_isFull 8 = .ok (.if_icmp .lt 7, 3) := by decide +kernel
theorem dX3_isFull_11 : decode cX3_isFull 11 = .ok (.iconst 1, 1) := by decide +kernel
theorem dX3_isFull_12 : decode cX3_isFull 12 = .ok (.goto 4, 3) := by decide +kernel
theorem dX3_isFull_15 : decode cX3_isFull 15 = .ok (.iconst 0, 1) := by decide +kernel
theorem dX3_isFull_16 : decode cX3_isFull 16 = .ok (.ireturn, 1) := by decide +kernel
theorem dX3_dropOldest_0 : decode cX3_dropOldest 0 = .ok (.aload_n 0, 1) := by decide +kernel
theorem dX3_dropOldest_1 : decode cX3_dropOldest 1 = .ok (.dup, 1) := by decide +kernel
theorem dX3_dropOldest_2 : decode cX3_dropOldest 2 = .ok (.getfield 28, 3) := by decide +kernel
theorem dX3_dropOldest_5 : decode cX3_dropOldest 5 = .ok (.iconst 1, 1) := by decide +kernel
theorem dX3_dropOldest_6 : decode cX3_dropOldest 6 = .ok (.isub, 1) := by decide +kernel
theorem dX3_dropOldest_7 : decode cX3_dropOldest 7 = .ok (.putfield 28, 3) := by decide +kernel
theorem dX3_dropOldest_10 : decode cX3_dropOldest 10 = .ok (.aload_n 0, 1) := by decide +kernel
theorem dX3_dropOldest_11 : decode cX3_dropOldest 11 = .ok (.getfield 21, 3) := by decide +kernel
theorem dX3_dropOldest_14 : decode cX3_dropOldest 14 = .ok (.iconst 1, 1) := by decide +kernel
theorem dX3_dropOldest_15 : decode cX3_dropOldest 15 = .ok (.aload_n 0, 1) := by decide +kernel
theorem dX3_dropOldest_16 : decode cX3_dropOldest 16 = .ok (.getfield 21, 3) := by decide +kernel
theorem dX3_dropOldest_19 : decode cX3_dropOldest 19 = .ok (.iconst 0, 1) := by decide +kernel
theorem dX3_dropOldest_20 : decode cX3_dropOldest 20 = .ok (.aload_n 0, 1) := by decide +kernel
theorem dX3_dropOldest_21 : decode cX3_dropOldest 21 = .ok (.getfield 28, 3) := by decide +kernel
theorem dX3_dropOldest_24 : decode cX3_dropOldest 24 = .ok (.invokestatic 35, 3) := by decide +kernel
theorem dX3_dropOldest_27 : decode cX3_dropOldest 27 = .ok (.aload_n 0, 1) := by decide +kernel
theorem dX3_dropOldest_28 : decode cX3_dropOldest 28 = .ok (.getfield 25, 3) := by decide +kernel
theorem dX3_dropOldest_31 : decode cX3_dropOldest 31 = .ok (.iconst 4, 1) := by decide +kernel
theorem dX3_dropOldest_32 : decode cX3_dropOldest 32 = .ok (.aload_n 0, 1) := by decide +kernel
theorem dX3_dropOldest_33 : decode cX3_dropOldest 33 = .ok (.getfield 25, 3) := by decide +kernel
theorem dX3_dropOldest_36 : decode cX3_dropOldest 36 = .ok (.iconst 0, 1) := by decide +kernel
theorem dX3_dropOldest_37 : decode cX3_dropOldest 37 = .ok (.aload_n 0, 1) := by decide +kernel
theorem dX3_dropOldest_38 : decode cX3_dropOldest 38 = .ok (.getfield 28, 3) := by decide +kernel
theorem dX3_dropOldest_41 : decode cX3_dropOldest 41 = .ok (.iconst 4, 1) := by decide +kernel
theorem dX3_dropOldest_42 : decode cX3_dropOldest 42 = .ok (.imul, 1) := by decide +kernel
theorem dX3_dropOldest_43 : decode cX3_dropOldest 43 = .ok (.invokestatic 35, 3) := by decide +kernel
theorem dX3_dropOldest_46 : decode cX3_dropOldest 46 = .ok (.return_, 1) := by decide +kernel
theorem dX3_put_0 : decode cX3_put 0 = .ok (.aload_n 0, 1) := by decide +kernel
theorem dX3_put_1 : decode cX3_put 1 = .ok (.getfield 21, 3) := by decide +kernel
theorem dX3_put_4 : decode cX3_put 4 = .ok (.aload_n 0, 1) := by decide +kernel
theorem dX3_put_5 : decode cX3_put 5 = .ok (.getfield 28, 3) := by decide +kernel
theorem dX3_put_8 : decode cX3_put 8 = .ok (.aload_n 1, 1) := by decide +kernel
theorem dX3_put_9 : decode cX3_put 9 = .ok (.getfield 31, 3) := by decide +kernel
theorem dX3_put_12 : decode cX3_put 12 = .ok (.iastore, 1) := by decide +kernel
theorem dX3_put_13 : decode cX3_put 13 = .ok (.aload_n 1, 1) := by decide +kernel
theorem dX3_put_14 : decode cX3_put 14 = .ok (.getfield 34, 3) := by decide +kernel
theorem dX3_put_17 : decode cX3_put 17 = .ok (.iconst 0, 1) := by decide +kernel
theorem dX3_put_18 : decode cX3_put 18 = .ok (.aload_n 0, 1) := by decide +kernel
theorem dX3_put_19 : decode cX3_put 19 = .ok (.getfield 25, 3) := by decide +kernel
theorem dX3_put_22 : decode cX3_put 22 = .ok (.aload_n 0, 1) := by decide +kernel
theorem dX3_put_23 : decode cX3_put 23 = .ok (.getfield 28, 3) := by decide +kernel
theorem dX3_put_26 : decode cX3_put 26 = .ok (.iconst 4, 1) := by decide +kernel
theorem dX3_put_27 : decode cX3_put 27 = .ok (.imul, 1) := by decide +kernel
theorem dX3_put_28 : decode cX3_put 28 = .ok (.aload_n 1, 1) := by decide +kernel
theorem dX3_put_29 : decode cX3_put 29 = .ok (.getfield 31, 3) := by decide +kernel
theorem dX3_put_32 : decode cX3_put 32 = .ok (.invokestatic 35, 3) := by decide +kernel
theorem dX3_put_35 : decode cX3_put 35 = .ok (.aload_n 0, 1) := by decide +kernel
theorem dX3_put_36 : decode cX3_put 36 = .ok (.dup, 1) := by decide +kernel
theorem dX3_put_37 : decode cX3_put 37 = .ok (.getfield 28, 3) := by decide +kernel
theorem dX3_put_40 : decode cX3_put 40 = .ok (.iconst 1, 1) := by decide +kernel
theorem dX3_put_41 : decode cX3_put 41 = .ok (.iadd, 1) := by decide +kernel
theorem dX3_put_42 : decode cX3_put 42 = .ok (.putfield 28, 3) := by decide +kernel
theorem dX3_put_45 : decode cX3_put 45 = .ok (.aload_n 0, 1) := by decide +kernel
theorem dX3_put_46 : decode cX3_put 46 = .ok (.getfield 28, 3) := by decide +kernel
theorem dX3_put_49 : decode cX3_put 49 = .ok (.iconst 1, 1) := by decide +kernel
theorem dX3_put_50 : decode cX3_put 50 = .ok (.isub, 1) := by decide +kernel
theorem dX3_put_51 : decode cX3_put 51 = .ok (.ireturn, 1) := by decide +kernel
theorem dX0_setPlaces_0 : decode cX0_setPlaces 0 = .ok (.aload_n 1, 1) := by decide +kernel
theorem dX0_setPlaces_1 : decode cX0_setPlaces 1 = .ok (.iconst 0, 1) := by decide +kernel
theorem dX0_setPlaces_2 : decode cX0_setPlaces 2 = .ok (.aload_n 0, 1) := by decide +kernel
theorem dX0_setPlaces_3 : decode cX0_setPlaces 3 = .ok (.getfield 15, 3) := by decide +kernel
theorem dX0_setPlaces_6 : decode cX0_setPlaces 6 = .ok (.iconst 0, 1) := by decide +kernel
theorem dX0_setPlaces_7 : decode cX0_setPlaces 7 = .ok (.aload_n 0, 1) := by decide +kernel
theorem dX0_setPlaces_8 : decode cX0_setPlaces 8 = .ok (.getfield 25, 3) := by decide +kernel
theorem dX0_setPlaces_11 : decode cX0_setPlaces 11 = .ok (.invokestatic 29, 3) := by decide +kernel
theorem dX0_setPlaces_14 : decode cX0_setPlaces 14 = .ok (.return_, 1) := by decide +kernel
theorem dX3_otherPlaces_0 : decode cX3_otherPlaces 0 = .ok (.iconst 0, 1) := by decide +kernel
theorem dX3_otherPlaces_1 : decode cX3_otherPlaces 1 = .ok (.istore_n 3, 1) := by decide +kernel
theorem dX3_otherPlaces_2 : decode cX3_otherPlaces 2 = .ok (.iconst 0, 1) := by decide +kernel
theorem dX3_otherPlaces_3 : decode cX3_otherPlaces 3 = .ok (.istore 4, 2) := by decide +kernel
theorem dX3_otherPlaces_5 : decode cX3_otherPlaces 5 = .ok (.iload 4, 2) := by decide +kernel
theorem dX3_otherPlaces_7 : decode cX3_otherPlaces 7 = .ok (.aload_n 2, 1) := by decide +kernel
theorem dX3_otherPlaces_8 : decode cX3_otherPlaces 8 = .ok (.getfield 31, 3) := by decide +kernel
theorem dX3_otherPlaces_11 : decode cX3_otherPlaces 11 = .ok (.if_icmp .ge 60, 3) := by decide +kernel
theorem dX3_otherPlaces_14 : decode cX3_otherPlaces 14 = .ok (.iload 4, 2) := by decide +kernel
theorem dX3_otherPlaces_16 : decode cX3_otherPlaces 16 = .ok (.aload_n 0, 1) := by decide +kernel
theorem dX3_otherPlaces_17 : decode cX3_otherPlaces 17 = .ok (.getfield 21, 3) := by decide +kernel
theorem dX3_otherPlaces_20 : decode cX3_otherPlaces 20 = .ok (.iload_n 1, 1) := by decide +kernel
theorem dX3_otherPlaces_21 : decode cX3_otherPlaces 21 = .ok (.iaload, 1) := by decide +kernel
theorem dX3_otherPlaces_22 : decode cX3_otherPlaces 22 = .ok (.if_icmp .ge 7, 3) := by decide +kernel
theorem dX3_otherPlaces_25 : decode cX3_otherPlaces 25 = .ok (.iconst 1, 1) := by decide +kernel
theorem dX3_otherPlaces_26 : decode cX3_otherPlaces 26 = .ok (.goto 4, 3) := by decide +kernel
theorem dX3_otherPlaces_29 : decode cX3_otherPlaces 29 = .ok (.iconst 0, 1) := by decide +kernel
theorem dX3_otherPlaces_30 : decode cX3_otherPlaces 30 = .ok (.istore 5, 2) := by decide +kernel
theorem dX3_otherPlaces_32 : decode cX3_otherPlaces 32 = .ok (.iload 5, 2) := by decide +kernel
theorem dX3_otherPlaces_34 : decode cX3_otherPlaces 34 = .ok (.ifCond .eq 24, 3) := by decide +kernel
theorem dX3_otherPlaces_37 : decode cX3_otherPlaces 37 = .ok (.aload_n 0, 1) := by decide +kernel
theorem dX3_otherPlaces_38 : decode cX3_otherPlaces 38 = .ok (.getfield 25, 3) := by decide +kernel
theorem dX3_otherPlaces_41 : decode cX3_otherPlaces 41 = .ok (.iload_n 1, 1) := by decide +kernel
theorem dX3_otherPlaces_42 : decode cX3_otherPlaces 42 = .ok (.iconst 4, 1) := by decide +kernel
theorem dX3_otherPlaces_43 : decode cX3_otherPlaces 43 = .ok (.imul, 1) := by decide +kernel
theorem dX3_otherPlaces_44 : decode cX3_otherPlaces 44 = .ok (.iload 4, 2) := by decide +kernel
theorem dX3_otherPlaces_46 : decode cX3_otherPlaces 46 = .ok (.iadd, 1) := by decide +kernel
theorem dX3_otherPlaces_47 : decode cX3_otherPlaces 47 = .ok (.iaload, 1) := by decide +kernel
theorem dX3_otherPlaces_48 : decode cX3_otherPlaces 48 = .ok (.aload_n 2, 1) := by decide +kernel
theorem dX3_otherPlaces_49 : decode cX3_otherPlaces 49 = .ok (.getfield 34, 3) := by decide +kernel
theorem dX3_otherPlaces_52 : decode cX3_otherPlaces 52 = .ok (.iload 4, 2) := by decide +kernel
theorem dX3_otherPlaces_54 : decode cX3_otherPlaces 54 = .ok (.iaload, 1) := by decide +kernel
theorem dX3_otherPlaces_55 : decode cX3_otherPlaces 55 = .ok (.if_icmp .eq 10, 3) := by decide +kernel
theorem dX3_otherPlaces_58 : decode cX3_otherPlaces 58 = .ok (.iload_n 3, 1) := by decide +kernel
theorem dX3_otherPlaces_59 : decode cX3_otherPlaces 59 = .ok (.iconst 1, 1) := by decide +kernel
theorem dX3_otherPlaces_60 : decode cX3_otherPlaces 60 = .ok (.iload 4, 2) := by decide +kernel
theorem dX3_otherPlaces_62 : decode cX3_otherPlaces 62 = .ok (.ishl, 1) := by decide +kernel
theorem dX3_otherPlaces_63 : decode cX3_otherPlaces 63 = .ok (.ior, 1) := by decide +kernel
theorem dX3_otherPlaces_64 : decode cX3_otherPlaces 64 = .ok (.istore_n 3, 1) := by decide +kernel
theorem dX3_otherPlaces_65 : decode cX3_otherPlaces 65 = .ok (.iinc 4 1, 3) := by decide +kernel
theorem dX3_otherPlaces_68 : decode cX3_otherPlaces 68 = .ok (.goto (-63), 3) := by decide +kernel
theorem dX3_otherPlaces_71 : decode cX3_otherPlaces 71 = .ok (.iload_n 3, 1) := by decide +kernel
theorem dX3_otherPlaces_72 : decode cX3_otherPlaces 72 = .ok (.ireturn, 1) := by decide +kernel
theorem dX2_bestChanges_0 : decode cX2_bestChanges 0 = .ok (.aload_n 0, 1) := by decide +kernel
theorem dX2_bestChanges_1 : decode cX2_bestChanges 1 = .ok (.getfield 36, 3) := by decide +kernel
theorem dX2_bestChanges_4 : decode cX2_bestChanges 4 = .ok (.bipush 64, 2) := by decide +kernel
theorem dX2_bestChanges_6 : decode cX2_bestChanges 6 = .ok (.idiv, 1) := by decide +kernel
theorem dX2_bestChanges_7 : decode cX2_bestChanges 7 = .ok (.ireturn, 1) := by decide +kernel
theorem dX2_bestCost_0 : decode cX2_bestCost 0 = .ok (.aload_n 0, 1) := by decide +kernel
theorem dX2_bestCost_1 : decode cX2_bestCost 1 = .ok (.getfield 36, 3) := by decide +kernel
theorem dX2_bestCost_4 : decode cX2_bestCost 4 = .ok (.bipush 64, 2) := by decide +kernel
theorem dX2_bestCost_6 : decode cX2_bestCost 6 = .ok (.irem, 1) := by decide +kernel
theorem dX2_bestCost_7 : decode cX2_bestCost 7 = .ok (.ireturn, 1) := by decide +kernel
theorem dX4_tankOf_0 : decode cX4_tankOf 0 = .ok (.aload_n 0, 1) := by decide +kernel
theorem dX4_tankOf_1 : decode cX4_tankOf 1 = .ok (.getfield 12, 3) := by decide +kernel
theorem dX4_tankOf_4 : decode cX4_tankOf 4 = .ok (.iload_n 1, 1) := by decide +kernel
theorem dX4_tankOf_5 : decode cX4_tankOf 5 = .ok (.invokevirtual 81, 3) := by decide +kernel
theorem dX4_tankOf_8 : decode cX4_tankOf 8 = .ok (.ifCond .eq 18, 3) := by decide +kernel
theorem dX4_tankOf_11 : decode cX4_tankOf 11 = .ok (.aload_n 0, 1) := by decide +kernel
theorem dX4_tankOf_12 : decode cX4_tankOf 12 = .ok (.getfield 12, 3) := by decide +kernel
theorem dX4_tankOf_15 : decode cX4_tankOf 15 = .ok (.getfield 104, 3) := by decide +kernel
theorem dX4_tankOf_18 : decode cX4_tankOf 18 = .ok (.iload_n 1, 1) := by decide +kernel
theorem dX4_tankOf_19 : decode cX4_tankOf 19 = .ok (.iaload, 1) := by decide +kernel
theorem dX4_tankOf_20 : decode cX4_tankOf 20 = .ok (.invokestatic 137, 3) := by decide +kernel
theorem dX4_tankOf_23 : decode cX4_tankOf 23 = .ok (.goto 4, 3) := by decide +kernel
theorem dX4_tankOf_26 : decode cX4_tankOf 26 = .ok (.iconst (-1), 1) := by decide +kernel
theorem dX4_tankOf_27 : decode cX4_tankOf 27 = .ok (.ireturn, 1) := by decide +kernel
theorem dX4_start_0 : decode cX4_start 0 = .ok (.aload_n 0, 1) := by decide +kernel
theorem dX4_start_1 : decode cX4_start 1 = .ok (.getfield 12, 3) := by decide +kernel
theorem dX4_start_4 : decode cX4_start 4 = .ok (.iload_n 1, 1) := by decide +kernel
theorem dX4_start_5 : decode cX4_start 5 = .ok (.invokevirtual 81, 3) := by decide +kernel
theorem dX4_start_8 : decode cX4_start 8 = .ok (.ifCond .eq 18, 3) := by decide +kernel
theorem dX4_start_11 : decode cX4_start 11 = .ok (.aload_n 0, 1) := by decide +kernel
theorem dX4_start_12 : decode cX4_start 12 = .ok (.getfield 12, 3) := by decide +kernel
theorem dX4_start_15 : decode cX4_start 15 = .ok (.getfield 104, 3) := by decide +kernel
theorem dX4_start_18 : decode cX4_start 18 = .ok (.iload_n 1, 1) := by decide +kernel
theorem dX4_start_19 : decode cX4_start 19 = .ok (.iaload, 1) := by decide +kernel
theorem dX4_start_20 : decode cX4_start 20 = .ok (.invokestatic 107, 3) := by decide +kernel
theorem dX4_start_23 : decode cX4_start 23 = .ok (.goto 4, 3) := by decide +kernel
theorem dX4_start_26 : decode cX4_start 26 = .ok (.iconst (-1), 1) := by decide +kernel
theorem dX4_start_27 : decode cX4_start 27 = .ok (.ireturn, 1) := by decide +kernel
theorem dX4_changed_0 : decode cX4_changed 0 = .ok (.aload_n 0, 1) := by decide +kernel
theorem dX4_changed_1 : decode cX4_changed 1 = .ok (.getfield 140, 3) := by decide +kernel
theorem dX4_changed_4 : decode cX4_changed 4 = .ok (.iload_n 1, 1) := by decide +kernel
theorem dX4_changed_5 : decode cX4_changed 5 = .ok (.invokestatic 143, 3) := by decide +kernel
theorem dX4_changed_8 : decode cX4_changed 8 = .ok (.ireturn, 1) := by decide +kernel
theorem dX4_memberAt_0 : decode cX4_memberAt 0 = .ok (.iconst 0, 1) := by decide +kernel
theorem dX4_memberAt_1 : decode cX4_memberAt 1 = .ok (.istore_n 2, 1) := by decide +kernel
theorem dX4_memberAt_2 : decode cX4_memberAt 2 = .ok (.iconst 0, 1) := by decide +kernel
theorem dX4_memberAt_3 : decode cX4_memberAt 3 = .ok (.istore_n 3, 1) := by decide +kernel
theorem dX4_memberAt_4 : decode cX4_memberAt 4 = .ok (.iload_n 3, 1) := by decide +kernel
theorem dX4_memberAt_5 : decode cX4_memberAt 5 = .ok (.iconst 4, 1) := by decide +kernel
theorem dX4_memberAt_6 : decode cX4_memberAt 6 = .ok (.if_icmp .ge 27, 3) := by decide +kernel
theorem dX4_memberAt_9 : decode cX4_memberAt 9 = .ok (.iload_n 0, 1) := by decide +kernel
theorem dX4_memberAt_10 : decode cX4_memberAt 10 = .ok (.iload_n 3, 1) := by decide +kernel
theorem dX4_memberAt_11 : decode cX4_memberAt 11 = .ok (.ishr, 1) := by decide +kernel
theorem dX4_memberAt_12 : decode cX4_memberAt 12 = .ok (.iconst 1, 1) := by decide +kernel
theorem dX4_memberAt_13 : decode cX4_memberAt 13 = .ok (.iand, 1) := by decide +kernel
theorem dX4_memberAt_14 : decode cX4_memberAt 14 = .ok (.ifCond .eq 13, 3) := by decide +kernel
theorem dX4_memberAt_17 : decode cX4_memberAt 17 = .ok (.iload_n 2, 1) := by decide +kernel
theorem dX4_memberAt_18 : decode cX4_memberAt 18 = .ok (.iload_n 1, 1) := by decide +kernel
theorem dX4_memberAt_19 : decode cX4_memberAt 19 = .ok (.if_icmp .ne 5, 3) := by decide +kernel
theorem dX4_memberAt_22 : decode cX4_memberAt 22 = .ok (.iload_n 3, 1) := by decide +kernel
theorem dX4_memberAt_23 : decode cX4_memberAt 23 = .ok (.ireturn, 1) := by decide +kernel
theorem dX4_memberAt_24 : decode cX4_memberAt 24 = .ok (.iinc 2 1, 3) := by decide +kernel
theorem dX4_memberAt_27 : decode cX4_memberAt 27 = .ok (.iinc 3 1, 3) := by decide +kernel
theorem dX4_memberAt_30 : decode cX4_memberAt 30 = .ok (.goto (-26), 3) := by decide +kernel
theorem dX4_memberAt_33 : decode cX4_memberAt 33 = .ok (.iconst (-1), 1) := by decide +kernel
theorem dX4_memberAt_34 : decode cX4_memberAt 34 = .ok (.ireturn, 1) := by decide +kernel
theorem dX4_bound_0 : decode cX4_bound 0 = .ok (.aload_n 0, 1) := by decide +kernel
theorem dX4_bound_1 : decode cX4_bound 1 = .ok (.getfield 124, 3) := by decide +kernel
theorem dX4_bound_4 : decode cX4_bound 4 = .ok (.ireturn, 1) := by decide +kernel
theorem dX4_undo_0 : decode cX4_undo 0 = .ok (.aload_n 0, 1) := by decide +kernel
theorem dX4_undo_1 : decode cX4_undo 1 = .ok (.getfield 35, 3) := by decide +kernel
theorem dX4_undo_4 : decode cX4_undo 4 = .ok (.invokevirtual 146, 3) := by decide +kernel
theorem dX4_undo_7 : decode cX4_undo 7 = .ok (.ifCond .eq 5, 3) := by decide +kernel
theorem dX4_undo_10 : decode cX4_undo 10 = .ok (.iconst 0, 1) := by decide +kernel
theorem dX4_undo_11 : decode cX4_undo 11 = .ok (.ireturn, 1) := by decide +kernel
theorem dX4_undo_12 : decode cX4_undo 12 = .ok (.aload_n 0, 1) := by decide +kernel
theorem dX4_undo_13 : decode cX4_undo 13 = .ok (.getfield 35, 3) := by decide +kernel
theorem dX4_undo_16 : decode cX4_undo 16 = .ok (.aload_n 0, 1) := by decide +kernel
theorem dX4_undo_17 : decode cX4_undo 17 = .ok (.getfield 12, 3) := by decide +kernel
theorem dX4_undo_20 : decode cX4_undo 20 = .ok (.invokevirtual 149, 3) := by decide +kernel
theorem dX4_undo_23 : decode cX4_undo 23 = .ok (.iconst 1, 1) := by decide +kernel
theorem dX4_undo_24 : decode cX4_undo 24 = .ok (.ireturn, 1) := by decide +kernel
theorem dX3_isEmpty_0 : decode cX3_isEmpty 0 = .ok (.aload_n 0, 1) := by decide +kernel
theorem dX3_isEmpty_1 : decode cX3_isEmpty 1 = .ok (.getfield 28, 3) := by decide +kernel
theorem dX3_isEmpty_4 : decode cX3_isEmpty 4 = .ok (.ifCond .ne 7, 3) := by decide +kernel
theorem dX3_isEmpty_7 : decode cX3_isEmpty 7 = .ok (.iconst 1, 1) := by decide +kernel
theorem dX3_isEmpty_8 : decode cX3_isEmpty 8 = .ok (.goto 4, 3) := by decide +kernel
theorem dX3_isEmpty_11 : decode cX3_isEmpty 11 = .ok (.iconst 0, 1) := by decide +kernel
theorem dX3_isEmpty_12 : decode cX3_isEmpty 12 = .ok (.ireturn, 1) := by decide +kernel
theorem dX3_takeNewestInto_0 : decode cX3_takeNewestInto 0 = .ok (.aload_n 0, 1) := by decide +kernel
theorem dX3_takeNewestInto_1 : decode cX3_takeNewestInto 1 = .ok (.dup, 1) := by decide +kernel
theorem dX3_takeNewestInto_2 : decode cX3_takeNewestInto 2 = .ok (.getfield 28, 3) := by decide +kernel
theorem dX3_takeNewestInto_5 : decode cX3_takeNewestInto 5 = .ok (.iconst 1, 1) := by decide +kernel
theorem dX3_takeNewestInto_6 : decode cX3_takeNewestInto 6 = .ok (.isub, 1) := by decide +kernel
theorem dX3_takeNewestInto_7 : decode cX3_takeNewestInto 7 = .ok (.putfield 28, 3) := by decide +kernel
theorem dX3_takeNewestInto_10 : decode cX3_takeNewestInto 10 = .ok (.aload_n 0, 1) := by decide +kernel
theorem dX3_takeNewestInto_11 : decode cX3_takeNewestInto 11 = .ok (.getfield 25, 3) := by decide +kernel
theorem dX3_takeNewestInto_14 : decode cX3_takeNewestInto 14 = .ok (.aload_n 0, 1) := by decide +kernel
theorem dX3_takeNewestInto_15 : decode cX3_takeNewestInto 15 = .ok (.getfield 28, 3) := by decide +kernel
theorem dX3_takeNewestInto_18 : decode cX3_takeNewestInto 18 = .ok (.iconst 4, 1) := by decide +kernel
end
section
theorem dX3_takeNewestInto_19 : decode cX3_takeNewestInto 19 = .ok (.imul, 1) := by decide +kernel
theorem dX3_takeNewestInto_20 : decode cX3_takeNewestInto 20 = .ok (.aload_n 1, 1) := by decide +kernel
theorem dX3_takeNewestInto_21 : decode cX3_takeNewestInto 21 = .ok (.getfield 34, 3) := by decide +kernel
theorem dX3_takeNewestInto_24 : decode cX3_takeNewestInto 24 = .ok (.iconst 0, 1) := by decide +kernel
theorem dX3_takeNewestInto_25 : decode cX3_takeNewestInto 25 = .ok (.aload_n 0, 1) := by decide +kernel
theorem dX3_takeNewestInto_26 : decode cX3_takeNewestInto 26 = .ok (.getfield 21, 3) := by decide +kernel
theorem dX3_takeNewestInto_29 : decode cX3_takeNewestInto 29 = .ok (.aload_n 0, 1) := by decide +kernel
theorem dX3_takeNewestInto_30 : decode cX3_takeNewestInto 30 = .ok (.getfield 28, 3) := by decide +kernel
theorem dX3_takeNewestInto_33 : decode cX3_takeNewestInto 33 = .ok (.iaload, 1) := by decide +kernel
theorem dX3_takeNewestInto_34 : decode cX3_takeNewestInto 34 = .ok (.invokestatic 35, 3) := by decide +kernel
theorem dX3_takeNewestInto_37 : decode cX3_takeNewestInto 37 = .ok (.return_, 1) := by decide +kernel
theorem dX4_copy_0 : decode cX4_copy 0 = .ok (.aload_n 0, 1) := by decide +kernel
theorem dX4_copy_1 : decode cX4_copy 1 = .ok (.getfield 39, 3) := by decide +kernel
theorem dX4_copy_4 : decode cX4_copy 4 = .ok (.invokevirtual 153, 3) := by decide +kernel
theorem dX4_copy_7 : decode cX4_copy 7 = .ok (.ifCond .eq 8, 3) := by decide +kernel
theorem dX4_copy_10 : decode cX4_copy 10 = .ok (.bipush (-2), 2) := by decide +kernel
theorem dX4_copy_12 : decode cX4_copy 12 = .ok (.goto 14, 3) := by decide +kernel
theorem dX4_copy_15 : decode cX4_copy 15 = .ok (.aload_n 0, 1) := by decide +kernel
theorem dX4_copy_16 : decode cX4_copy 16 = .ok (.getfield 39, 3) := by decide +kernel
theorem dX4_copy_19 : decode cX4_copy 19 = .ok (.aload_n 0, 1) := by decide +kernel
theorem dX4_copy_20 : decode cX4_copy 20 = .ok (.getfield 12, 3) := by decide +kernel
theorem dX4_copy_23 : decode cX4_copy 23 = .ok (.invokevirtual 154, 3) := by decide +kernel
theorem dX4_copy_26 : decode cX4_copy 26 = .ok (.ireturn, 1) := by decide +kernel
theorem dX4_compare_0 : decode cX4_compare 0 = .ok (.aload_n 0, 1) := by decide +kernel
theorem dX4_compare_1 : decode cX4_compare 1 = .ok (.getfield 39, 3) := by decide +kernel
theorem dX4_compare_4 : decode cX4_compare 4 = .ok (.iload_n 1, 1) := by decide +kernel
theorem dX4_compare_5 : decode cX4_compare 5 = .ok (.invokevirtual 158, 3) := by decide +kernel
theorem dX4_compare_8 : decode cX4_compare 8 = .ok (.ifCond .eq 22, 3) := by decide +kernel
theorem dX4_compare_11 : decode cX4_compare 11 = .ok (.aload_n 0, 1) := by decide +kernel
theorem dX4_compare_12 : decode cX4_compare 12 = .ok (.getfield 39, 3) := by decide +kernel
theorem dX4_compare_15 : decode cX4_compare 15 = .ok (.iload_n 1, 1) := by decide +kernel
theorem dX4_compare_16 : decode cX4_compare 16 = .ok (.aload_n 0, 1) := by decide +kernel
theorem dX4_compare_17 : decode cX4_compare 17 = .ok (.getfield 12, 3) := by decide +kernel
theorem dX4_compare_20 : decode cX4_compare 20 = .ok (.invokevirtual 159, 3) := by decide +kernel
theorem dX4_compare_23 : decode cX4_compare 23 = .ok (.iload_n 2, 1) := by decide +kernel
theorem dX4_compare_24 : decode cX4_compare 24 = .ok (.invokestatic 143, 3) := by decide +kernel
theorem dX4_compare_27 : decode cX4_compare 27 = .ok (.goto 4, 3) := by decide +kernel
theorem dX4_compare_30 : decode cX4_compare 30 = .ok (.iconst (-1), 1) := by decide +kernel
theorem dX4_compare_31 : decode cX4_compare 31 = .ok (.ireturn, 1) := by decide +kernel
theorem dX3_has_0 : decode cX3_has 0 = .ok (.iload_n 1, 1) := by decide +kernel
theorem dX3_has_1 : decode cX3_has 1 = .ok (.ifCond .lt 15, 3) := by decide +kernel
theorem dX3_has_4 : decode cX3_has 4 = .ok (.iload_n 1, 1) := by decide +kernel
theorem dX3_has_5 : decode cX3_has 5 = .ok (.aload_n 0, 1) := by decide +kernel
theorem dX3_has_6 : decode cX3_has 6 = .ok (.getfield 28, 3) := by decide +kernel
theorem dX3_has_9 : decode cX3_has 9 = .ok (.if_icmp .ge 7, 3) := by decide +kernel
theorem dX3_has_12 : decode cX3_has 12 = .ok (.iconst 1, 1) := by decide +kernel
theorem dX3_has_13 : decode cX3_has 13 = .ok (.goto 4, 3) := by decide +kernel
theorem dX3_has_16 : decode cX3_has 16 = .ok (.iconst 0, 1) := by decide +kernel
theorem dX3_has_17 : decode cX3_has 17 = .ok (.ireturn, 1) := by decide +kernel
theorem dX4_cost_0 : decode cX4_cost 0 = .ok (.aload_n 0, 1) := by decide +kernel
theorem dX4_cost_1 : decode cX4_cost 1 = .ok (.getfield 163, 3) := by decide +kernel
theorem dX4_cost_4 : decode cX4_cost 4 = .ok (.lreturn, 1) := by decide +kernel
theorem dL_cell_0 : decode cL_cell 0 = .ok (.iload_n 1, 1) := by decide +kernel
theorem dL_cell_1 : decode cL_cell 1 = .ok (.aload_n 0, 1) := by decide +kernel
theorem dL_cell_2 : decode cL_cell 2 = .ok (.arraylength, 1) := by decide +kernel
theorem dL_cell_3 : decode cL_cell 3 = .ok (.if_icmp .ge 9, 3) := by decide +kernel
theorem dL_cell_6 : decode cL_cell 6 = .ok (.aload_n 0, 1) := by decide +kernel
theorem dL_cell_7 : decode cL_cell 7 = .ok (.iload_n 1, 1) := by decide +kernel
theorem dL_cell_8 : decode cL_cell 8 = .ok (.iaload, 1) := by decide +kernel
theorem dL_cell_9 : decode cL_cell 9 = .ok (.goto 4, 3) := by decide +kernel
theorem dL_cell_12 : decode cL_cell 12 = .ok (.iconst 0, 1) := by decide +kernel
theorem dL_cell_13 : decode cL_cell 13 = .ok (.ireturn, 1) := by decide +kernel
theorem dX5_init_0 : decode cX5_init 0 = .ok (.aload_n 0, 1) := by decide +kernel
theorem dX5_init_1 : decode cX5_init 1 = .ok (.invokespecial 1, 3) := by decide +kernel
theorem dX5_init_4 : decode cX5_init 4 = .ok (.aload_n 0, 1) := by decide +kernel
theorem dX5_init_5 : decode cX5_init 5 = .ok (.iconst 4, 1) := by decide +kernel
theorem dX5_init_6 : decode cX5_init 6 = .ok (.newarray .int, 2) := by decide +kernel
theorem dX5_init_8 : decode cX5_init 8 = .ok (.putfield 7, 3) := by decide +kernel
theorem dX5_init_11 : decode cX5_init 11 = .ok (.aload_n 0, 1) := by decide +kernel
theorem dX5_init_12 : decode cX5_init 12 = .ok (.iconst 4, 1) := by decide +kernel
theorem dX5_init_13 : decode cX5_init 13 = .ok (.newarray .int, 2) := by decide +kernel
theorem dX5_init_15 : decode cX5_init 15 = .ok (.putfield 13, 3) := by decide +kernel
theorem dX5_init_18 : decode cX5_init 18 = .ok (.aload_n 0, 1) := by decide +kernel
theorem dX5_init_19 : decode cX5_init 19 = .ok (.iconst 4, 1) := by decide +kernel
theorem dX5_init_20 : decode cX5_init 20 = .ok (.newarray .int, 2) := by decide +kernel
theorem dX5_init_22 : decode cX5_init 22 = .ok (.putfield 16, 3) := by decide +kernel
theorem dX5_init_25 : decode cX5_init 25 = .ok (.aload_n 0, 1) := by decide +kernel
theorem dX5_init_26 : decode cX5_init 26 = .ok (.iconst 4, 1) := by decide +kernel
theorem dX5_init_27 : decode cX5_init 27 = .ok (.newarray .int, 2) := by decide +kernel
theorem dX5_init_29 : decode cX5_init 29 = .ok (.putfield 19, 3) := by decide +kernel
theorem dX5_init_32 : decode cX5_init 32 = .ok (.aload_n 0, 1) := by decide +kernel
theorem dX5_init_33 : decode cX5_init 33 = .ok (.iconst 4, 1) := by decide +kernel
theorem dX5_init_34 : decode cX5_init 34 = .ok (.newarray .boolean, 2) := by decide +kernel
theorem dX5_init_36 : decode cX5_init 36 = .ok (.putfield 22, 3) := by decide +kernel
theorem dX5_init_39 : decode cX5_init 39 = .ok (.aload_n 0, 1) := by decide +kernel
theorem dX5_init_40 : decode cX5_init 40 = .ok (.bipush 8, 2) := by decide +kernel
theorem dX5_init_42 : decode cX5_init 42 = .ok (.newarray .int, 2) := by decide +kernel
theorem dX5_init_44 : decode cX5_init 44 = .ok (.putfield 26, 3) := by decide +kernel
theorem dX5_init_47 : decode cX5_init 47 = .ok (.aload_n 0, 1) := by decide +kernel
theorem dX5_init_48 : decode cX5_init 48 = .ok (.bipush 8, 2) := by decide +kernel
theorem dX5_init_50 : decode cX5_init 50 = .ok (.newarray .int, 2) := by decide +kernel
theorem dX5_init_52 : decode cX5_init 52 = .ok (.putfield 29, 3) := by decide +kernel
theorem dX5_init_55 : decode cX5_init 55 = .ok (.aload_n 0, 1) := by decide +kernel
theorem dX5_init_56 : decode cX5_init 56 = .ok (.bipush 8, 2) := by decide +kernel
theorem dX5_init_58 : decode cX5_init 58 = .ok (.newarray .int, 2) := by decide +kernel
theorem dX5_init_60 : decode cX5_init 60 = .ok (.putfield 32, 3) := by decide +kernel
theorem dX5_init_63 : decode cX5_init 63 = .ok (.aload_n 0, 1) := by decide +kernel
theorem dX5_init_64 : decode cX5_init 64 = .ok (.bipush 8, 2) := by decide +kernel
theorem dX5_init_66 : decode cX5_init 66 = .ok (.newarray .int, 2) := by decide +kernel
theorem dX5_init_68 : decode cX5_init 68 = .ok (.putfield 35, 3) := by decide +kernel
theorem dX5_init_71 : decode cX5_init 71 = .ok (.aload_n 0, 1) := by decide +kernel
theorem dX5_init_72 : decode cX5_init 72 = .ok (.bipush 12, 2) := by decide +kernel
theorem dX5_init_74 : decode cX5_init 74 = .ok (.newarray .int, 2) := by decide +kernel
theorem dX5_init_76 : decode cX5_init 76 = .ok (.putfield 38, 3) := by decide +kernel
theorem dX5_init_79 : decode cX5_init 79 = .ok (.aload_n 0, 1) := by decide +kernel
theorem dX5_init_80 : decode cX5_init 80 = .ok (.bipush 12, 2) := by decide +kernel
theorem dX5_init_82 : decode cX5_init 82 = .ok (.newarray .int, 2) := by decide +kernel
theorem dX5_init_84 : decode cX5_init 84 = .ok (.putfield 41, 3) := by decide +kernel
theorem dX5_init_87 : decode cX5_init 87 = .ok (.aload_n 0, 1) := by decide +kernel
theorem dX5_init_88 : decode cX5_init 88 = .ok (.bipush 12, 2) := by decide +kernel
theorem dX5_init_90 : decode cX5_init 90 = .ok (.newarray .int, 2) := by decide +kernel
theorem dX5_init_92 : decode cX5_init 92 = .ok (.putfield 44, 3) := by decide +kernel
theorem dX5_init_95 : decode cX5_init 95 = .ok (.aload_n 0, 1) := by decide +kernel
theorem dX5_init_96 : decode cX5_init 96 = .ok (.bipush 16, 2) := by decide +kernel
theorem dX5_init_98 : decode cX5_init 98 = .ok (.newarray .int, 2) := by decide +kernel
theorem dX5_init_100 : decode cX5_init 100 = .ok (.putfield 47, 3) := by decide +kernel
theorem dX5_init_103 : decode cX5_init 103 = .ok (.aload_n 0, 1) := by decide +kernel
theorem dX5_init_104 : decode cX5_init 104 = .ok (.sipush 128, 3) := by decide +kernel
theorem dX5_init_107 : decode cX5_init 107 = .ok (.newarray .int, 2) := by decide +kernel
theorem dX5_init_109 : decode cX5_init 109 = .ok (.putfield 50, 3) := by decide +kernel
theorem dX5_init_112 : decode cX5_init 112 = .ok (.aload_n 0, 1) := by decide +kernel
theorem dX5_init_113 : decode cX5_init 113 = .ok (.bipush 8, 2) := by decide +kernel
theorem dX5_init_115 : decode cX5_init 115 = .ok (.newarray .int, 2) := by decide +kernel
theorem dX5_init_117 : decode cX5_init 117 = .ok (.putfield 53, 3) := by decide +kernel
theorem dX5_init_120 : decode cX5_init 120 = .ok (.aload_n 0, 1) := by decide +kernel
theorem dX5_init_121 : decode cX5_init 121 = .ok (.bipush 64, 2) := by decide +kernel
theorem dX5_init_123 : decode cX5_init 123 = .ok (.newarray .int, 2) := by decide +kernel
theorem dX5_init_125 : decode cX5_init 125 = .ok (.putfield 56, 3) := by decide +kernel
theorem dX5_init_128 : decode cX5_init 128 = .ok (.aload_n 0, 1) := by decide +kernel
theorem dX5_init_129 : decode cX5_init 129 = .ok (.iconst 4, 1) := by decide +kernel
theorem dX5_init_130 : decode cX5_init 130 = .ok (.newarray .int, 2) := by decide +kernel
theorem dX5_init_132 : decode cX5_init 132 = .ok (.putfield 59, 3) := by decide +kernel
theorem dX5_init_135 : decode cX5_init 135 = .ok (.aload_n 0, 1) := by decide +kernel
theorem dX5_init_136 : decode cX5_init 136 = .ok (.iconst 4, 1) := by decide +kernel
theorem dX5_init_137 : decode cX5_init 137 = .ok (.newarray .int, 2) := by decide +kernel
theorem dX5_init_139 : decode cX5_init 139 = .ok (.putfield 62, 3) := by decide +kernel
theorem dX5_init_142 : decode cX5_init 142 = .ok (.aload_n 0, 1) := by decide +kernel
theorem dX5_init_143 : decode cX5_init 143 = .ok (.iconst 4, 1) := by decide +kernel
theorem dX5_init_144 : decode cX5_init 144 = .ok (.newarray .int, 2) := by decide +kernel
theorem dX5_init_146 : decode cX5_init 146 = .ok (.putfield 65, 3) := by decide +kernel
theorem dX5_init_149 : decode cX5_init 149 = .ok (.aload_n 0, 1) := by decide +kernel
theorem dX5_init_150 : decode cX5_init 150 = .ok (.iconst 4, 1) := by decide +kernel
theorem dX5_init_151 : decode cX5_init 151 = .ok (.newarray .int, 2) := by decide +kernel
theorem dX5_init_153 : decode cX5_init 153 = .ok (.putfield 68, 3) := by decide +kernel
theorem dX5_init_156 : decode cX5_init 156 = .ok (.aload_n 0, 1) := by decide +kernel
theorem dX5_init_157 : decode cX5_init 157 = .ok (.iconst 4, 1) := by decide +kernel
theorem dX5_init_158 : decode cX5_init 158 = .ok (.newarray .boolean, 2) := by decide +kernel
theorem dX5_init_160 : decode cX5_init 160 = .ok (.putfield 71, 3) := by decide +kernel
theorem dX5_init_163 : decode cX5_init 163 = .ok (.aload_n 0, 1) := by decide +kernel
theorem dX5_init_164 : decode cX5_init 164 = .ok (.iload_n 1, 1) := by decide +kernel
theorem dX5_init_165 : decode cX5_init 165 = .ok (.iconst 1, 1) := by decide +kernel
theorem dX5_init_166 : decode cX5_init 166 = .ok (.if_icmp .ge 7, 3) := by decide +kernel
theorem dX5_init_169 : decode cX5_init 169 = .ok (.iconst 1, 1) := by decide +kernel
theorem dX5_init_170 : decode cX5_init 170 = .ok (.goto 13, 3) := by decide +kernel
theorem dX5_init_173 : decode cX5_init 173 = .ok (.iload_n 1, 1) := by decide +kernel
theorem dX5_init_174 : decode cX5_init 174 = .ok (.iconst 3, 1) := by decide +kernel
theorem dX5_init_175 : decode cX5_init 175 = .ok (.if_icmp .le 7, 3) := by decide +kernel
theorem dX5_init_178 : decode cX5_init 178 = .ok (.iconst 3, 1) := by decide +kernel
theorem dX5_init_179 : decode cX5_init 179 = .ok (.goto 4, 3) := by decide +kernel
theorem dX5_init_182 : decode cX5_init 182 = .ok (.iload_n 1, 1) := by decide +kernel
theorem dX5_init_183 : decode cX5_init 183 = .ok (.putfield 74, 3) := by decide +kernel
theorem dX5_init_186 : decode cX5_init 186 = .ok (.aload_n 0, 1) := by decide +kernel
theorem dX5_init_187 : decode cX5_init 187 = .ok (.iload_n 2, 1) := by decide +kernel
theorem dX5_init_188 : decode cX5_init 188 = .ok (.iconst 1, 1) := by decide +kernel
theorem dX5_init_189 : decode cX5_init 189 = .ok (.if_icmp .ge 7, 3) := by decide +kernel
theorem dX5_init_192 : decode cX5_init 192 = .ok (.iconst 1, 1) := by decide +kernel
theorem dX5_init_193 : decode cX5_init 193 = .ok (.goto 15, 3) := by decide +kernel
theorem dX5_init_196 : decode cX5_init 196 = .ok (.iload_n 2, 1) := by decide +kernel
theorem dX5_init_197 : decode cX5_init 197 = .ok (.bipush 10, 2) := by decide +kernel
theorem dX5_init_199 : decode cX5_init 199 = .ok (.if_icmp .le 8, 3) := by decide +kernel
theorem dX5_init_202 : decode cX5_init 202 = .ok (.bipush 10, 2) := by decide +kernel
theorem dX5_init_204 : decode cX5_init 204 = .ok (.goto 4, 3) := by decide +kernel
theorem dX5_init_207 : decode cX5_init 207 = .ok (.iload_n 2, 1) := by decide +kernel
theorem dX5_init_208 : decode cX5_init 208 = .ok (.putfield 78, 3) := by decide +kernel
theorem dX5_init_211 : decode cX5_init 211 = .ok (.return_, 1) := by decide +kernel
theorem dX5_batch_0 : decode cX5_batch 0 = .ok (.iload_n 1, 1) := by decide +kernel
theorem dX5_batch_1 : decode cX5_batch 1 = .ok (.ifCond .lt 38, 3) := by decide +kernel
theorem dX5_batch_4 : decode cX5_batch 4 = .ok (.iload_n 1, 1) := by decide +kernel
theorem dX5_batch_5 : decode cX5_batch 5 = .ok (.aload_n 0, 1) := by decide +kernel
theorem dX5_batch_6 : decode cX5_batch 6 = .ok (.getfield 74, 3) := by decide +kernel
theorem dX5_batch_9 : decode cX5_batch 9 = .ok (.if_icmp .ge 30, 3) := by decide +kernel
theorem dX5_batch_12 : decode cX5_batch 12 = .ok (.iload_n 3, 1) := by decide +kernel
theorem dX5_batch_13 : decode cX5_batch 13 = .ok (.iconst 1, 1) := by decide +kernel
theorem dX5_batch_14 : decode cX5_batch 14 = .ok (.if_icmp .lt 25, 3) := by decide +kernel
theorem dX5_batch_17 : decode cX5_batch 17 = .ok (.iload_n 2, 1) := by decide +kernel
theorem dX5_batch_18 : decode cX5_batch 18 = .ok (.ifCond .lt 21, 3) := by decide +kernel
theorem dX5_batch_21 : decode cX5_batch 21 = .ok (.iload_n 3, 1) := by decide +kernel
theorem dX5_batch_22 : decode cX5_batch 22 = .ok (.aload_n 0, 1) := by decide +kernel
theorem dX5_batch_23 : decode cX5_batch 23 = .ok (.getfield 78, 3) := by decide +kernel
theorem dX5_batch_26 : decode cX5_batch 26 = .ok (.if_icmp .gt 13, 3) := by decide +kernel
theorem dX5_batch_29 : decode cX5_batch 29 = .ok (.iload_n 2, 1) := by decide +kernel
theorem dX5_batch_30 : decode cX5_batch 30 = .ok (.aload_n 0, 1) := by decide +kernel
theorem dX5_batch_31 : decode cX5_batch 31 = .ok (.getfield 78, 3) := by decide +kernel
theorem dX5_batch_34 : decode cX5_batch 34 = .ok (.iload_n 3, 1) := by decide +kernel
theorem dX5_batch_35 : decode cX5_batch 35 = .ok (.isub, 1) := by decide +kernel
theorem dX5_batch_36 : decode cX5_batch 36 = .ok (.if_icmp .le 5, 3) := by decide +kernel
theorem dX5_batch_39 : decode cX5_batch 39 = .ok (.iconst (-1), 1) := by decide +kernel
theorem dX5_batch_40 : decode cX5_batch 40 = .ok (.ireturn, 1) := by decide +kernel
theorem dX5_batch_41 : decode cX5_batch 41 = .ok (.aload_n 0, 1) := by decide +kernel
theorem dX5_batch_42 : decode cX5_batch 42 = .ok (.getfield 81, 3) := by decide +kernel
theorem dX5_batch_45 : decode cX5_batch 45 = .ok (.iconst 4, 1) := by decide +kernel
theorem dX5_batch_46 : decode cX5_batch 46 = .ok (.if_icmp .ne 6, 3) := by decide +kernel
theorem dX5_batch_49 : decode cX5_batch 49 = .ok (.bipush (-2), 2) := by decide +kernel
theorem dX5_batch_51 : decode cX5_batch 51 = .ok (.ireturn, 1) := by decide +kernel
theorem dX5_batch_52 : decode cX5_batch 52 = .ok (.aload_n 0, 1) := by decide +kernel
theorem dX5_batch_53 : decode cX5_batch 53 = .ok (.getfield 13, 3) := by decide +kernel
theorem dX5_batch_56 : decode cX5_batch 56 = .ok (.aload_n 0, 1) := by decide +kernel
theorem dX5_batch_57 : decode cX5_batch 57 = .ok (.getfield 81, 3) := by decide +kernel
theorem dX5_batch_60 : decode cX5_batch 60 = .ok (.iload_n 1, 1) := by decide +kernel
theorem dX5_batch_61 : decode cX5_batch 61 = .ok (.iastore, 1) := by decide +kernel
theorem dX5_batch_62 : decode cX5_batch 62 = .ok (.aload_n 0, 1) := by decide +kernel
theorem dX5_batch_63 : decode cX5_batch 63 = .ok (.getfield 16, 3) := by decide +kernel
theorem dX5_batch_66 : decode cX5_batch 66 = .ok (.aload_n 0, 1) := by decide +kernel
theorem dX5_batch_67 : decode cX5_batch 67 = .ok (.getfield 81, 3) := by decide +kernel
theorem dX5_batch_70 : decode cX5_batch 70 = .ok (.iload_n 2, 1) := by decide +kernel
theorem dX5_batch_71 : decode cX5_batch 71 = .ok (.iastore, 1) := by decide +kernel
theorem dX5_batch_72 : decode cX5_batch 72 = .ok (.aload_n 0, 1) := by decide +kernel
theorem dX5_batch_73 : decode cX5_batch 73 = .ok (.getfield 7, 3) := by decide +kernel
theorem dX5_batch_76 : decode cX5_batch 76 = .ok (.aload_n 0, 1) := by decide +kernel
theorem dX5_batch_77 : decode cX5_batch 77 = .ok (.getfield 81, 3) := by decide +kernel
theorem dX5_batch_80 : decode cX5_batch 80 = .ok (.iload_n 3, 1) := by decide +kernel
theorem dX5_batch_81 : decode cX5_batch 81 = .ok (.iastore, 1) := by decide +kernel
theorem dX5_batch_82 : decode cX5_batch 82 = .ok (.aload_n 0, 1) := by decide +kernel
theorem dX5_batch_83 : decode cX5_batch 83 = .ok (.dup, 1) := by decide +kernel
theorem dX5_batch_84 : decode cX5_batch 84 = .ok (.getfield 81, 3) := by decide +kernel
theorem dX5_batch_87 : decode cX5_batch 87 = .ok (.iconst 1, 1) := by decide +kernel
theorem dX5_batch_88 : decode cX5_batch 88 = .ok (.iadd, 1) := by decide +kernel
theorem dX5_batch_89 : decode cX5_batch 89 = .ok (.putfield 81, 3) := by decide +kernel
theorem dX5_batch_92 : decode cX5_batch 92 = .ok (.aload_n 0, 1) := by decide +kernel
theorem dX5_batch_93 : decode cX5_batch 93 = .ok (.getfield 81, 3) := by decide +kernel
theorem dX5_batch_96 : decode cX5_batch 96 = .ok (.iconst 1, 1) := by decide +kernel
theorem dX5_batch_97 : decode cX5_batch 97 = .ok (.isub, 1) := by decide +kernel
theorem dX5_batch_98 : decode cX5_batch 98 = .ok (.ireturn, 1) := by decide +kernel
theorem dX5_rule_0 : decode cX5_rule 0 = .ok (.iload_n 1, 1) := by decide +kernel
theorem dX5_rule_1 : decode cX5_rule 1 = .ok (.ifCond .eq 8, 3) := by decide +kernel
theorem dX5_rule_4 : decode cX5_rule 4 = .ok (.iload_n 1, 1) := by decide +kernel
theorem dX5_rule_5 : decode cX5_rule 5 = .ok (.iconst 1, 1) := by decide +kernel
theorem dX5_rule_6 : decode cX5_rule 6 = .ok (.if_icmp .ne 7, 3) := by decide +kernel
theorem dX5_rule_9 : decode cX5_rule 9 = .ok (.iconst 1, 1) := by decide +kernel
theorem dX5_rule_10 : decode cX5_rule 10 = .ok (.goto 4, 3) := by decide +kernel
theorem dX5_rule_13 : decode cX5_rule 13 = .ok (.iconst 0, 1) := by decide +kernel
theorem dX5_rule_14 : decode cX5_rule 14 = .ok (.istore 5, 2) := by decide +kernel
theorem dX5_rule_16 : decode cX5_rule 16 = .ok (.iload_n 1, 1) := by decide +kernel
theorem dX5_rule_17 : decode cX5_rule 17 = .ok (.ifCond .lt 60, 3) := by decide +kernel
theorem dX5_rule_20 : decode cX5_rule 20 = .ok (.iload_n 1, 1) := by decide +kernel
theorem dX5_rule_21 : decode cX5_rule 21 = .ok (.iconst 3, 1) := by decide +kernel
theorem dX5_rule_22 : decode cX5_rule 22 = .ok (.if_icmp .gt 55, 3) := by decide +kernel
theorem dX5_rule_25 : decode cX5_rule 25 = .ok (.aload_n 0, 1) := by decide +kernel
theorem dX5_rule_26 : decode cX5_rule 26 = .ok (.iload_n 2, 1) := by decide +kernel
theorem dX5_rule_27 : decode cX5_rule 27 = .ok (.invokevirtual 84, 3) := by decide +kernel
theorem dX5_rule_30 : decode cX5_rule 30 = .ok (.ifCond .eq 47, 3) := by decide +kernel
theorem dX5_rule_33 : decode cX5_rule 33 = .ok (.iload 5, 2) := by decide +kernel
theorem dX5_rule_35 : decode cX5_rule 35 = .ok (.ifCond .eq 16, 3) := by decide +kernel
theorem dX5_rule_38 : decode cX5_rule 38 = .ok (.aload_n 0, 1) := by decide +kernel
theorem dX5_rule_39 : decode cX5_rule 39 = .ok (.iload_n 3, 1) := by decide +kernel
theorem dX5_rule_40 : decode cX5_rule 40 = .ok (.invokevirtual 84, 3) := by decide +kernel
theorem dX5_rule_43 : decode cX5_rule 43 = .ok (.ifCond .eq 34, 3) := by decide +kernel
theorem dX5_rule_46 : decode cX5_rule 46 = .ok (.iload_n 2, 1) := by decide +kernel
theorem dX5_rule_47 : decode cX5_rule 47 = .ok (.iload_n 3, 1) := by decide +kernel
theorem dX5_rule_48 : decode cX5_rule 48 = .ok (.if_icmp .eq 29, 3) := by decide +kernel
theorem dX5_rule_51 : decode cX5_rule 51 = .ok (.iload_n 1, 1) := by decide +kernel
theorem dX5_rule_52 : decode cX5_rule 52 = .ok (.iconst 1, 1) := by decide +kernel
theorem dX5_rule_53 : decode cX5_rule 53 = .ok (.if_icmp .eq 15, 3) := by decide +kernel
theorem dX5_rule_56 : decode cX5_rule 56 = .ok (.iload 4, 2) := by decide +kernel
theorem dX5_rule_58 : decode cX5_rule 58 = .ok (.ifCond .lt 19, 3) := by decide +kernel
theorem dX5_rule_61 : decode cX5_rule 61 = .ok (.iload 4, 2) := by decide +kernel
theorem dX5_rule_63 : decode cX5_rule 63 = .ok (.bipush 10, 2) := by decide +kernel
theorem dX5_rule_65 : decode cX5_rule 65 = .ok (.if_icmp .gt 12, 3) := by decide +kernel
theorem dX5_rule_68 : decode cX5_rule 68 = .ok (.aload_n 0, 1) := by decide +kernel
theorem dX5_rule_69 : decode cX5_rule 69 = .ok (.getfield 88, 3) := by decide +kernel
theorem dX5_rule_72 : decode cX5_rule 72 = .ok (.bipush 8, 2) := by decide +kernel
theorem dX5_rule_74 : decode cX5_rule 74 = .ok (.if_icmp .ne 5, 3) := by decide +kernel
theorem dX5_rule_77 : decode cX5_rule 77 = .ok (.iconst 0, 1) := by decide +kernel
theorem dX5_rule_78 : decode cX5_rule 78 = .ok (.ireturn, 1) := by decide +kernel
theorem dX5_rule_79 : decode cX5_rule 79 = .ok (.aload_n 0, 1) := by decide +kernel
theorem dX5_rule_80 : decode cX5_rule 80 = .ok (.getfield 26, 3) := by decide +kernel
theorem dX5_rule_83 : decode cX5_rule 83 = .ok (.aload_n 0, 1) := by decide +kernel
theorem dX5_rule_84 : decode cX5_rule 84 = .ok (.getfield 88, 3) := by decide +kernel
theorem dX5_rule_87 : decode cX5_rule 87 = .ok (.iload_n 1, 1) := by decide +kernel
theorem dX5_rule_88 : decode cX5_rule 88 = .ok (.iastore, 1) := by decide +kernel
theorem dX5_rule_89 : decode cX5_rule 89 = .ok (.aload_n 0, 1) := by decide +kernel
theorem dX5_rule_90 : decode cX5_rule 90 = .ok (.getfield 29, 3) := by decide +kernel
theorem dX5_rule_93 : decode cX5_rule 93 = .ok (.aload_n 0, 1) := by decide +kernel
theorem dX5_rule_94 : decode cX5_rule 94 = .ok (.getfield 88, 3) := by decide +kernel
theorem dX5_rule_97 : decode cX5_rule 97 = .ok (.iload_n 2, 1) := by decide +kernel
theorem dX5_rule_98 : decode cX5_rule 98 = .ok (.iastore, 1) := by decide +kernel
theorem dX5_rule_99 : decode cX5_rule 99 = .ok (.aload_n 0, 1) := by decide +kernel
theorem dX5_rule_100 : decode cX5_rule 100 = .ok (.getfield 32, 3) := by decide +kernel
theorem dX5_rule_103 : decode cX5_rule 103 = .ok (.aload_n 0, 1) := by decide +kernel
theorem dX5_rule_104 : decode cX5_rule 104 = .ok (.getfield 88, 3) := by decide +kernel
theorem dX5_rule_107 : decode cX5_rule 107 = .ok (.iload_n 3, 1) := by decide +kernel
theorem dX5_rule_108 : decode cX5_rule 108 = .ok (.iastore, 1) := by decide +kernel
theorem dX5_rule_109 : decode cX5_rule 109 = .ok (.aload_n 0, 1) := by decide +kernel
theorem dX5_rule_110 : decode cX5_rule 110 = .ok (.getfield 35, 3) := by decide +kernel
theorem dX5_rule_113 : decode cX5_rule 113 = .ok (.aload_n 0, 1) := by decide +kernel
theorem dX5_rule_114 : decode cX5_rule 114 = .ok (.getfield 88, 3) := by decide +kernel
theorem dX5_rule_117 : decode cX5_rule 117 = .ok (.iload 4, 2) := by decide +kernel
theorem dX5_rule_119 : decode cX5_rule 119 = .ok (.iastore, 1) := by decide +kernel
theorem dX5_rule_120 : decode cX5_rule 120 = .ok (.aload_n 0, 1) := by decide +kernel
theorem dX5_rule_121 : decode cX5_rule 121 = .ok (.dup, 1) := by decide +kernel
theorem dX5_rule_122 : decode cX5_rule 122 = .ok (.getfield 88, 3) := by decide +kernel
theorem dX5_rule_125 : decode cX5_rule 125 = .ok (.iconst 1, 1) := by decide +kernel
theorem dX5_rule_126 : decode cX5_rule 126 = .ok (.iadd, 1) := by decide +kernel
theorem dX5_rule_127 : decode cX5_rule 127 = .ok (.putfield 88, 3) := by decide +kernel
theorem dX5_rule_130 : decode cX5_rule 130 = .ok (.iconst 1, 1) := by decide +kernel
theorem dX5_rule_131 : decode cX5_rule 131 = .ok (.ireturn, 1) := by decide +kernel
theorem dX5_isBatch_0 : decode cX5_isBatch 0 = .ok (.iload_n 1, 1) := by decide +kernel
theorem dX5_isBatch_1 : decode cX5_isBatch 1 = .ok (.ifCond .lt 15, 3) := by decide +kernel
theorem dX5_isBatch_4 : decode cX5_isBatch 4 = .ok (.iload_n 1, 1) := by decide +kernel
theorem dX5_isBatch_5 : decode cX5_isBatch 5 = .ok (.aload_n 0, 1) := by decide +kernel
theorem dX5_isBatch_6 : decode cX5_isBatch 6 = .ok (.getfield 81, 3) := by decide +kernel
theorem dX5_isBatch_9 : decode cX5_isBatch 9 = .ok (.if_icmp .ge 7, 3) := by decide +kernel
theorem dX5_isBatch_12 : decode cX5_isBatch 12 = .ok (.iconst 1, 1) := by decide +kernel
theorem dX5_isBatch_13 : decode cX5_isBatch 13 = .ok (.goto 4, 3) := by decide +kernel
theorem dX5_isBatch_16 : decode cX5_isBatch 16 = .ok (.iconst 0, 1) := by decide +kernel
theorem dX5_isBatch_17 : decode cX5_isBatch 17 = .ok (.ireturn, 1) := by decide +kernel
theorem dX5_freeze_0 : decode cX5_freeze 0 = .ok (.aload_n 0, 1) := by decide +kernel
theorem dX5_freeze_1 : decode cX5_freeze 1 = .ok (.iload_n 1, 1) := by decide +kernel
theorem dX5_freeze_2 : decode cX5_freeze 2 = .ok (.invokevirtual 84, 3) := by decide +kernel
theorem dX5_freeze_5 : decode cX5_freeze 5 = .ok (.ifCond .eq 12, 3) := by decide +kernel
theorem dX5_freeze_8 : decode cX5_freeze 8 = .ok (.aload_n 0, 1) := by decide +kernel
theorem dX5_freeze_9 : decode cX5_freeze 9 = .ok (.getfield 22, 3) := by decide +kernel
theorem dX5_freeze_12 : decode cX5_freeze 12 = .ok (.iload_n 1, 1) := by decide +kernel
theorem dX5_freeze_13 : decode cX5_freeze 13 = .ok (.baload, 1) := by decide +kernel
theorem dX5_freeze_14 : decode cX5_freeze 14 = .ok (.ifCond .eq 5, 3) := by decide +kernel
theorem dX5_freeze_17 : decode cX5_freeze 17 = .ok (.iconst 0, 1) := by decide +kernel
theorem dX5_freeze_18 : decode cX5_freeze 18 = .ok (.ireturn, 1) := by decide +kernel
theorem dX5_freeze_19 : decode cX5_freeze 19 = .ok (.aload_n 0, 1) := by decide +kernel
theorem dX5_freeze_20 : decode cX5_freeze 20 = .ok (.getfield 22, 3) := by decide +kernel
theorem dX5_freeze_23 : decode cX5_freeze 23 = .ok (.iload_n 1, 1) := by decide +kernel
theorem dX5_freeze_24 : decode cX5_freeze 24 = .ok (.iconst 1, 1) := by decide +kernel
theorem dX5_freeze_25 : decode cX5_freeze 25 = .ok (.bastore, 1) := by decide +kernel
theorem dX5_freeze_26 : decode cX5_freeze 26 = .ok (.iconst 1, 1) := by decide +kernel
theorem dX5_freeze_27 : decode cX5_freeze 27 = .ok (.ireturn, 1) := by decide +kernel
theorem dX5_out_0 : decode cX5_out 0 = .ok (.iload_n 1, 1) := by decide +kernel
theorem dX5_out_1 : decode cX5_out 1 = .ok (.ifCond .lt 37, 3) := by decide +kernel
theorem dX5_out_4 : decode cX5_out 4 = .ok (.iload_n 1, 1) := by decide +kernel
theorem dX5_out_5 : decode cX5_out 5 = .ok (.aload_n 0, 1) := by decide +kernel
theorem dX5_out_6 : decode cX5_out 6 = .ok (.getfield 74, 3) := by decide +kernel
theorem dX5_out_9 : decode cX5_out 9 = .ok (.if_icmp .ge 29, 3) := by decide +kernel
theorem dX5_out_12 : decode cX5_out 12 = .ok (.iload_n 2, 1) := by decide +kernel
theorem dX5_out_13 : decode cX5_out 13 = .ok (.ifCond .lt 25, 3) := by decide +kernel
theorem dX5_out_16 : decode cX5_out 16 = .ok (.iload_n 2, 1) := by decide +kernel
theorem dX5_out_17 : decode cX5_out 17 = .ok (.iload_n 3, 1) := by decide +kernel
theorem dX5_out_18 : decode cX5_out 18 = .ok (.if_icmp .ge 20, 3) := by decide +kernel
theorem dX5_out_21 : decode cX5_out 21 = .ok (.iload_n 3, 1) := by decide +kernel
theorem dX5_out_22 : decode cX5_out 22 = .ok (.aload_n 0, 1) := by decide +kernel
theorem dX5_out_23 : decode cX5_out 23 = .ok (.getfield 78, 3) := by decide +kernel
theorem dX5_out_26 : decode cX5_out 26 = .ok (.if_icmp .gt 12, 3) := by decide +kernel
theorem dX5_out_29 : decode cX5_out 29 = .ok (.aload_n 0, 1) := by decide +kernel
theorem dX5_out_30 : decode cX5_out 30 = .ok (.getfield 91, 3) := by decide +kernel
theorem dX5_out_33 : decode cX5_out 33 = .ok (.bipush 12, 2) := by decide +kernel
theorem dX5_out_35 : decode cX5_out 35 = .ok (.if_icmp .ne 5, 3) := by decide +kernel
theorem dX5_out_38 : decode cX5_out 38 = .ok (.iconst 0, 1) := by decide +kernel
theorem dX5_out_39 : decode cX5_out 39 = .ok (.ireturn, 1) := by decide +kernel
theorem dX5_out_40 : decode cX5_out 40 = .ok (.aload_n 0, 1) := by decide +kernel
theorem dX5_out_41 : decode cX5_out 41 = .ok (.getfield 38, 3) := by decide +kernel
theorem dX5_out_44 : decode cX5_out 44 = .ok (.aload_n 0, 1) := by decide +kernel
theorem dX5_out_45 : decode cX5_out 45 = .ok (.getfield 91, 3) := by decide +kernel
theorem dX5_out_48 : decode cX5_out 48 = .ok (.iload_n 1, 1) := by decide +kernel
theorem dX5_out_49 : decode cX5_out 49 = .ok (.iastore, 1) := by decide +kernel
theorem dX5_out_50 : decode cX5_out 50 = .ok (.aload_n 0, 1) := by decide +kernel
theorem dX5_out_51 : decode cX5_out 51 = .ok (.getfield 41, 3) := by decide +kernel
theorem dX5_out_54 : decode cX5_out 54 = .ok (.aload_n 0, 1) := by decide +kernel
theorem dX5_out_55 : decode cX5_out 55 = .ok (.getfield 91, 3) := by decide +kernel
theorem dX5_out_58 : decode cX5_out 58 = .ok (.iload_n 2, 1) := by decide +kernel
theorem dX5_out_59 : decode cX5_out 59 = .ok (.iastore, 1) := by decide +kernel
theorem dX5_out_60 : decode cX5_out 60 = .ok (.aload_n 0, 1) := by decide +kernel
theorem dX5_out_61 : decode cX5_out 61 = .ok (.getfield 44, 3) := by decide +kernel
theorem dX5_out_64 : decode cX5_out 64 = .ok (.aload_n 0, 1) := by decide +kernel
theorem dX5_out_65 : decode cX5_out 65 = .ok (.getfield 91, 3) := by decide +kernel
theorem dX5_out_68 : decode cX5_out 68 = .ok (.iload_n 3, 1) := by decide +kernel
theorem dX5_out_69 : decode cX5_out 69 = .ok (.iastore, 1) := by decide +kernel
theorem dX5_out_70 : decode cX5_out 70 = .ok (.aload_n 0, 1) := by decide +kernel
theorem dX5_out_71 : decode cX5_out 71 = .ok (.dup, 1) := by decide +kernel
theorem dX5_out_72 : decode cX5_out 72 = .ok (.getfield 91, 3) := by decide +kernel
theorem dX5_out_75 : decode cX5_out 75 = .ok (.iconst 1, 1) := by decide +kernel
theorem dX5_out_76 : decode cX5_out 76 = .ok (.iadd, 1) := by decide +kernel
theorem dX5_out_77 : decode cX5_out 77 = .ok (.putfield 91, 3) := by decide +kernel
theorem dX5_out_80 : decode cX5_out 80 = .ok (.iconst 1, 1) := by decide +kernel
theorem dX5_out_81 : decode cX5_out 81 = .ok (.ireturn, 1) := by decide +kernel
theorem dX5_late_0 : decode cX5_late 0 = .ok (.aload_n 0, 1) := by decide +kernel
theorem dX5_late_1 : decode cX5_late 1 = .ok (.iload_n 1, 1) := by decide +kernel
theorem dX5_late_2 : decode cX5_late 2 = .ok (.invokevirtual 84, 3) := by decide +kernel
theorem dX5_late_5 : decode cX5_late 5 = .ok (.ifCond .eq 13, 3) := by decide +kernel
theorem dX5_late_8 : decode cX5_late 8 = .ok (.iload_n 2, 1) := by decide +kernel
theorem dX5_late_9 : decode cX5_late 9 = .ok (.ifCond .lt 9, 3) := by decide +kernel
theorem dX5_late_12 : decode cX5_late 12 = .ok (.iload_n 2, 1) := by decide +kernel
theorem dX5_late_13 : decode cX5_late 13 = .ok (.bipush 10, 2) := by decide +kernel
theorem dX5_late_15 : decode cX5_late 15 = .ok (.if_icmp .le 5, 3) := by decide +kernel
theorem dX5_late_18 : decode cX5_late 18 = .ok (.iconst 0, 1) := by decide +kernel
theorem dX5_late_19 : decode cX5_late 19 = .ok (.ireturn, 1) := by decide +kernel
theorem dX5_late_20 : decode cX5_late 20 = .ok (.aload_n 0, 1) := by decide +kernel
theorem dX5_late_21 : decode cX5_late 21 = .ok (.getfield 19, 3) := by decide +kernel
theorem dX5_late_24 : decode cX5_late 24 = .ok (.iload_n 1, 1) := by decide +kernel
theorem dX5_late_25 : decode cX5_late 25 = .ok (.aload_n 0, 1) := by decide +kernel
theorem dX5_late_26 : decode cX5_late 26 = .ok (.getfield 16, 3) := by decide +kernel
theorem dX5_late_29 : decode cX5_late 29 = .ok (.iload_n 1, 1) := by decide +kernel
theorem dX5_late_30 : decode cX5_late 30 = .ok (.iaload, 1) := by decide +kernel
theorem dX5_late_31 : decode cX5_late 31 = .ok (.iload_n 2, 1) := by decide +kernel
theorem dX5_late_32 : decode cX5_late 32 = .ok (.iadd, 1) := by decide +kernel
theorem dX5_late_33 : decode cX5_late 33 = .ok (.iastore, 1) := by decide +kernel
theorem dX5_late_34 : decode cX5_late 34 = .ok (.iconst 1, 1) := by decide +kernel
theorem dX5_late_35 : decode cX5_late 35 = .ok (.ireturn, 1) := by decide +kernel
theorem dX5_run_0 : decode cX5_run 0 = .ok (.lload_n 1, 1) := by decide +kernel
theorem dX5_run_1 : decode cX5_run 1 = .ok (.lconst 0, 1) := by decide +kernel
theorem dX5_run_2 : decode cX5_run 2 = .ok (.lcmp, 1) := by decide +kernel
theorem dX5_run_3 : decode cX5_run 3 = .ok (.ifCond .lt 11, 3) := by decide +kernel
theorem dX5_run_6 : decode cX5_run 6 = .ok (.lload_n 1, 1) := by decide +kernel
theorem dX5_run_7 : decode cX5_run 7 = .ok (.ldc2_w 121, 3) := by decide +kernel
theorem dX5_run_10 : decode cX5_run 10 = .ok (.lcmp, 1) := by decide +kernel
theorem dX5_run_11 : decode cX5_run 11 = .ok (.ifCond .le 7, 3) := by decide +kernel
theorem dX5_run_14 : decode cX5_run 14 = .ok (.sipush (-200), 3) := by decide +kernel
theorem dX5_run_17 : decode cX5_run 17 = .ok (.ireturn, 1) := by decide +kernel
theorem dX5_run_18 : decode cX5_run 18 = .ok (.aload_n 0, 1) := by decide +kernel
theorem dX5_run_19 : decode cX5_run 19 = .ok (.iconst (-1), 1) := by decide +kernel
theorem dX5_run_20 : decode cX5_run 20 = .ok (.invokevirtual 123, 3) := by decide +kernel
theorem dX5_run_23 : decode cX5_run 23 = .ok (.ifCond .ne 43, 3) := by decide +kernel
theorem dX5_run_26 : decode cX5_run 26 = .ok (.aload_n 0, 1) := by decide +kernel
theorem dX5_run_27 : decode cX5_run 27 = .ok (.iconst 5, 1) := by decide +kernel
theorem dX5_run_28 : decode cX5_run 28 = .ok (.putfield 126, 3) := by decide +kernel
theorem dX5_run_31 : decode cX5_run 31 = .ok (.iconst 0, 1) := by decide +kernel
theorem dX5_run_32 : decode cX5_run 32 = .ok (.istore_n 3, 1) := by decide +kernel
theorem dX5_run_33 : decode cX5_run 33 = .ok (.iload_n 3, 1) := by decide +kernel
theorem dX5_run_34 : decode cX5_run 34 = .ok (.aload_n 0, 1) := by decide +kernel
theorem dX5_run_35 : decode cX5_run 35 = .ok (.getfield 88, 3) := by decide +kernel
theorem dX5_run_38 : decode cX5_run 38 = .ok (.if_icmp .ge 21, 3) := by decide +kernel
theorem dX5_run_41 : decode cX5_run 41 = .ok (.aload_n 0, 1) := by decide +kernel
theorem dX5_run_42 : decode cX5_run 42 = .ok (.iload_n 3, 1) := by decide +kernel
theorem dX5_run_43 : decode cX5_run 43 = .ok (.invokevirtual 123, 3) := by decide +kernel
theorem dX5_run_46 : decode cX5_run 46 = .ok (.ifCond .eq 7, 3) := by decide +kernel
theorem dX5_run_49 : decode cX5_run 49 = .ok (.iconst (-1), 1) := by decide +kernel
theorem dX5_run_50 : decode cX5_run 50 = .ok (.iload_n 3, 1) := by decide +kernel
theorem dX5_run_51 : decode cX5_run 51 = .ok (.isub, 1) := by decide +kernel
theorem dX5_run_52 : decode cX5_run 52 = .ok (.ireturn, 1) := by decide +kernel
theorem dX5_run_53 : decode cX5_run 53 = .ok (.iinc 3 1, 3) := by decide +kernel
theorem dX5_run_56 : decode cX5_run 56 = .ok (.goto (-23), 3) := by decide +kernel
theorem dX5_run_59 : decode cX5_run 59 = .ok (.iconst (-1), 1) := by decide +kernel
theorem dX5_run_60 : decode cX5_run 60 = .ok (.aload_n 0, 1) := by decide +kernel
theorem dX5_run_61 : decode cX5_run 61 = .ok (.getfield 88, 3) := by decide +kernel
theorem dX5_run_64 : decode cX5_run 64 = .ok (.isub, 1) := by decide +kernel
theorem dX5_run_65 : decode cX5_run 65 = .ok (.ireturn, 1) := by decide +kernel
theorem dX5_run_66 : decode cX5_run 66 = .ok (.aload_n 0, 1) := by decide +kernel
theorem dX5_run_67 : decode cX5_run 67 = .ok (.getfield 105, 3) := by decide +kernel
theorem dX5_run_70 : decode cX5_run 70 = .ok (.i2l, 1) := by decide +kernel
theorem dX5_run_71 : decode cX5_run 71 = .ok (.lload_n 1, 1) := by decide +kernel
theorem dX5_run_72 : decode cX5_run 72 = .ok (.lcmp, 1) := by decide +kernel
theorem dX5_run_73 : decode cX5_run 73 = .ok (.ifCond .le 14, 3) := by decide +kernel
theorem dX5_run_76 : decode cX5_run 76 = .ok (.aload_n 0, 1) := by decide +kernel
theorem dX5_run_77 : decode cX5_run 77 = .ok (.lload_n 1, 1) := by decide +kernel
theorem dX5_run_78 : decode cX5_run 78 = .ok (.l2i, 1) := by decide +kernel
theorem dX5_run_79 : decode cX5_run 79 = .ok (.iconst 1, 1) := by decide +kernel
theorem dX5_run_80 : decode cX5_run 80 = .ok (.iadd, 1) := by decide +kernel
theorem dX5_run_81 : decode cX5_run 81 = .ok (.putfield 126, 3) := by decide +kernel
theorem dX5_run_84 : decode cX5_run 84 = .ok (.bipush (-100), 2) := by decide +kernel
theorem dX5_run_86 : decode cX5_run 86 = .ok (.ireturn, 1) := by decide +kernel
theorem dX5_run_87 : decode cX5_run 87 = .ok (.aload_n 0, 1) := by decide +kernel
theorem dX5_run_88 : decode cX5_run 88 = .ok (.invokevirtual 129, 3) := by decide +kernel
theorem dX5_run_91 : decode cX5_run 91 = .ok (.iconst 0, 1) := by decide +kernel
theorem dX5_run_92 : decode cX5_run 92 = .ok (.istore_n 3, 1) := by decide +kernel
theorem dX5_run_93 : decode cX5_run 93 = .ok (.iload_n 3, 1) := by decide +kernel
theorem dX5_run_94 : decode cX5_run 94 = .ok (.aload_n 0, 1) := by decide +kernel
theorem dX5_run_95 : decode cX5_run 95 = .ok (.getfield 81, 3) := by decide +kernel
theorem dX5_run_98 : decode cX5_run 98 = .ok (.if_icmp .ge 74, 3) := by decide +kernel
theorem dX5_run_101 : decode cX5_run 101 = .ok (.aload_n 0, 1) := by decide +kernel
theorem dX5_run_102 : decode cX5_run 102 = .ok (.getfield 71, 3) := by decide +kernel
theorem dX5_run_105 : decode cX5_run 105 = .ok (.iload_n 3, 1) := by decide +kernel
theorem dX5_run_106 : decode cX5_run 106 = .ok (.aload_n 0, 1) := by decide +kernel
theorem dX5_run_107 : decode cX5_run 107 = .ok (.getfield 65, 3) := by decide +kernel
theorem dX5_run_110 : decode cX5_run 110 = .ok (.iload_n 3, 1) := by decide +kernel
theorem dX5_run_111 : decode cX5_run 111 = .ok (.iaload, 1) := by decide +kernel
theorem dX5_run_112 : decode cX5_run 112 = .ok (.aload_n 0, 1) := by decide +kernel
theorem dX5_run_113 : decode cX5_run 113 = .ok (.getfield 13, 3) := by decide +kernel
theorem dX5_run_116 : decode cX5_run 116 = .ok (.iload_n 3, 1) := by decide +kernel
theorem dX5_run_117 : decode cX5_run 117 = .ok (.iaload, 1) := by decide +kernel
theorem dX5_run_118 : decode cX5_run 118 = .ok (.if_icmp .ne 18, 3) := by decide +kernel
theorem dX5_run_121 : decode cX5_run 121 = .ok (.aload_n 0, 1) := by decide +kernel
theorem dX5_run_122 : decode cX5_run 122 = .ok (.getfield 68, 3) := by decide +kernel
theorem dX5_run_125 : decode cX5_run 125 = .ok (.iload_n 3, 1) := by decide +kernel
theorem dX5_run_126 : decode cX5_run 126 = .ok (.iaload, 1) := by decide +kernel
theorem dX5_run_127 : decode cX5_run 127 = .ok (.aload_n 0, 1) := by decide +kernel
theorem dX5_run_128 : decode cX5_run 128 = .ok (.getfield 16, 3) := by decide +kernel
theorem dX5_run_131 : decode cX5_run 131 = .ok (.iload_n 3, 1) := by decide +kernel
theorem dX5_run_132 : decode cX5_run 132 = .ok (.iaload, 1) := by decide +kernel
theorem dX5_run_133 : decode cX5_run 133 = .ok (.if_icmp .eq 7, 3) := by decide +kernel
theorem dX5_run_136 : decode cX5_run 136 = .ok (.iconst 1, 1) := by decide +kernel
theorem dX5_run_137 : decode cX5_run 137 = .ok (.goto 4, 3) := by decide +kernel
theorem dX5_run_140 : decode cX5_run 140 = .ok (.iconst 0, 1) := by decide +kernel
theorem dX5_run_141 : decode cX5_run 141 = .ok (.bastore, 1) := by decide +kernel
theorem dX5_run_142 : decode cX5_run 142 = .ok (.aload_n 0, 1) := by decide +kernel
theorem dX5_run_143 : decode cX5_run 143 = .ok (.getfield 13, 3) := by decide +kernel
theorem dX5_run_146 : decode cX5_run 146 = .ok (.iload_n 3, 1) := by decide +kernel
theorem dX5_run_147 : decode cX5_run 147 = .ok (.aload_n 0, 1) := by decide +kernel
theorem dX5_run_148 : decode cX5_run 148 = .ok (.getfield 65, 3) := by decide +kernel
theorem dX5_run_151 : decode cX5_run 151 = .ok (.iload_n 3, 1) := by decide +kernel
theorem dX5_run_152 : decode cX5_run 152 = .ok (.iaload, 1) := by decide +kernel
theorem dX5_run_153 : decode cX5_run 153 = .ok (.iastore, 1) := by decide +kernel
theorem dX5_run_154 : decode cX5_run 154 = .ok (.aload_n 0, 1) := by decide +kernel
theorem dX5_run_155 : decode cX5_run 155 = .ok (.getfield 16, 3) := by decide +kernel
theorem dX5_run_158 : decode cX5_run 158 = .ok (.iload_n 3, 1) := by decide +kernel
theorem dX5_run_159 : decode cX5_run 159 = .ok (.aload_n 0, 1) := by decide +kernel
theorem dX5_run_160 : decode cX5_run 160 = .ok (.getfield 68, 3) := by decide +kernel
theorem dX5_run_163 : decode cX5_run 163 = .ok (.iload_n 3, 1) := by decide +kernel
theorem dX5_run_164 : decode cX5_run 164 = .ok (.iaload, 1) := by decide +kernel
theorem dX5_run_165 : decode cX5_run 165 = .ok (.iastore, 1) := by decide +kernel
theorem dX5_run_166 : decode cX5_run 166 = .ok (.iinc 3 1, 3) := by decide +kernel
theorem dX5_run_169 : decode cX5_run 169 = .ok (.goto (-76), 3) := by decide +kernel
theorem dX5_run_172 : decode cX5_run 172 = .ok (.aload_n 0, 1) := by decide +kernel
theorem dX5_run_173 : decode cX5_run 173 = .ok (.getfield 81, 3) := by decide +kernel
theorem dX5_run_176 : decode cX5_run 176 = .ok (.istore_n 3, 1) := by decide +kernel
theorem dX5_run_177 : decode cX5_run 177 = .ok (.iload_n 3, 1) := by decide +kernel
theorem dX5_run_178 : decode cX5_run 178 = .ok (.iconst 4, 1) := by decide +kernel
theorem dX5_run_179 : decode cX5_run 179 = .ok (.if_icmp .ge 16, 3) := by decide +kernel
theorem dX5_run_182 : decode cX5_run 182 = .ok (.aload_n 0, 1) := by decide +kernel
theorem dX5_run_183 : decode cX5_run 183 = .ok (.getfield 71, 3) := by decide +kernel
theorem dX5_run_186 : decode cX5_run 186 = .ok (.iload_n 3, 1) := by decide +kernel
theorem dX5_run_187 : decode cX5_run 187 = .ok (.iconst 0, 1) := by decide +kernel
theorem dX5_run_188 : decode cX5_run 188 = .ok (.bastore, 1) := by decide +kernel
theorem dX5_run_189 : decode cX5_run 189 = .ok (.iinc 3 1, 3) := by decide +kernel
theorem dX5_run_192 : decode cX5_run 192 = .ok (.goto (-15), 3) := by decide +kernel
theorem dX5_run_195 : decode cX5_run 195 = .ok (.aload_n 0, 1) := by decide +kernel
theorem dX5_run_196 : decode cX5_run 196 = .ok (.aload_n 0, 1) := by decide +kernel
theorem dX5_run_197 : decode cX5_run 197 = .ok (.getfield 105, 3) := by decide +kernel
theorem dX5_run_200 : decode cX5_run 200 = .ok (.putfield 126, 3) := by decide +kernel
theorem dX5_run_203 : decode cX5_run 203 = .ok (.aload_n 0, 1) := by decide +kernel
theorem dX5_run_204 : decode cX5_run 204 = .ok (.aload_n 0, 1) := by decide +kernel
theorem dX5_run_205 : decode cX5_run 205 = .ok (.getfield 108, 3) := by decide +kernel
theorem dX5_run_208 : decode cX5_run 208 = .ok (.i2l, 1) := by decide +kernel
theorem dX5_run_209 : decode cX5_run 209 = .ok (.putfield 132, 3) := by decide +kernel
theorem dX5_run_212 : decode cX5_run 212 = .ok (.aload_n 0, 1) := by decide +kernel
theorem dX5_run_213 : decode cX5_run 213 = .ok (.getfield 105, 3) := by decide +kernel
theorem dX5_run_216 : decode cX5_run 216 = .ok (.ireturn, 1) := by decide +kernel
theorem dX5_search_0 : decode cX5_search 0 = .ok (.aload_n 0, 1) := by decide +kernel
theorem dX5_search_1 : decode cX5_search 1 = .ok (.iload_n 1, 1) := by decide +kernel
theorem dX5_search_2 : decode cX5_search 2 = .ok (.putfield 94, 3) := by decide +kernel
theorem dX5_search_5 : decode cX5_search 5 = .ok (.aload_n 0, 1) := by decide +kernel
theorem dX5_search_6 : decode cX5_search 6 = .ok (.iconst 0, 1) := by decide +kernel
theorem dX5_search_7 : decode cX5_search 7 = .ok (.putfield 101, 3) := by decide +kernel
theorem dX5_search_10 : decode cX5_search 10 = .ok (.aload_n 0, 1) := by decide +kernel
theorem dX5_search_11 : decode cX5_search 11 = .ok (.iconst 0, 1) := by decide +kernel
theorem dX5_search_12 : decode cX5_search 12 = .ok (.invokevirtual 117, 3) := by decide +kernel
theorem dX5_search_15 : decode cX5_search 15 = .ok (.aload_n 0, 1) := by decide +kernel
theorem dX5_search_16 : decode cX5_search 16 = .ok (.getfield 101, 3) := by decide +kernel
theorem dX5_search_19 : decode cX5_search 19 = .ok (.ireturn, 1) := by decide +kernel
theorem dX5_place_0 : decode cX5_place 0 = .ok (.iload_n 1, 1) := by decide +kernel
theorem dX5_place_1 : decode cX5_place 1 = .ok (.aload_n 0, 1) := by decide +kernel
theorem dX5_place_2 : decode cX5_place 2 = .ok (.getfield 81, 3) := by decide +kernel
theorem dX5_place_5 : decode cX5_place 5 = .ok (.if_icmp .ne 8, 3) := by decide +kernel
theorem dX5_place_8 : decode cX5_place 8 = .ok (.aload_n 0, 1) := by decide +kernel
theorem dX5_place_9 : decode cX5_place 9 = .ok (.invokevirtual 111, 3) := by decide +kernel
theorem dX5_place_12 : decode cX5_place 12 = .ok (.return_, 1) := by decide +kernel
theorem dX5_place_13 : decode cX5_place 13 = .ok (.iconst 0, 1) := by decide +kernel
theorem dX5_place_14 : decode cX5_place 14 = .ok (.istore_n 2, 1) := by decide +kernel
theorem dX5_place_15 : decode cX5_place 15 = .ok (.iload_n 2, 1) := by decide +kernel
theorem dX5_place_16 : decode cX5_place 16 = .ok (.aload_n 0, 1) := by decide +kernel
theorem dX5_place_17 : decode cX5_place 17 = .ok (.getfield 74, 3) := by decide +kernel
theorem dX5_place_20 : decode cX5_place 20 = .ok (.if_icmp .ge 54, 3) := by decide +kernel
theorem dX5_place_23 : decode cX5_place 23 = .ok (.iconst 0, 1) := by decide +kernel
theorem dX5_place_24 : decode cX5_place 24 = .ok (.istore_n 3, 1) := by decide +kernel
theorem dX5_place_25 : decode cX5_place 25 = .ok (.iload_n 3, 1) := by decide +kernel
theorem dX5_place_26 : decode cX5_place 26 = .ok (.aload_n 0, 1) := by decide +kernel
theorem dX5_place_27 : decode cX5_place 27 = .ok (.getfield 78, 3) := by decide +kernel
theorem dX5_place_30 : decode cX5_place 30 = .ok (.if_icmp .ge 38, 3) := by decide +kernel
theorem dX5_place_33 : decode cX5_place 33 = .ok (.aload_n 0, 1) := by decide +kernel
theorem dX5_place_34 : decode cX5_place 34 = .ok (.getfield 59, 3) := by decide +kernel
theorem dX5_place_37 : decode cX5_place 37 = .ok (.iload_n 1, 1) := by decide +kernel
theorem dX5_place_38 : decode cX5_place 38 = .ok (.iload_n 2, 1) := by decide +kernel
theorem dX5_place_39 : decode cX5_place 39 = .ok (.iastore, 1) := by decide +kernel
theorem dX5_place_40 : decode cX5_place 40 = .ok (.aload_n 0, 1) := by decide +kernel
theorem dX5_place_41 : decode cX5_place 41 = .ok (.getfield 62, 3) := by decide +kernel
theorem dX5_place_44 : decode cX5_place 44 = .ok (.iload_n 1, 1) := by decide +kernel
theorem dX5_place_45 : decode cX5_place 45 = .ok (.iload_n 3, 1) := by decide +kernel
theorem dX5_place_46 : decode cX5_place 46 = .ok (.iastore, 1) := by decide +kernel
theorem dX5_place_47 : decode cX5_place 47 = .ok (.aload_n 0, 1) := by decide +kernel
theorem dX5_place_48 : decode cX5_place 48 = .ok (.iload_n 1, 1) := by decide +kernel
theorem dX5_place_49 : decode cX5_place 49 = .ok (.invokevirtual 114, 3) := by decide +kernel
theorem dX5_place_52 : decode cX5_place 52 = .ok (.ifCond .eq 10, 3) := by decide +kernel
theorem dX5_place_55 : decode cX5_place 55 = .ok (.aload_n 0, 1) := by decide +kernel
theorem dX5_place_56 : decode cX5_place 56 = .ok (.iload_n 1, 1) := by decide +kernel
theorem dX5_place_57 : decode cX5_place 57 = .ok (.iconst 1, 1) := by decide +kernel
theorem dX5_place_58 : decode cX5_place 58 = .ok (.iadd, 1) := by decide +kernel
theorem dX5_place_59 : decode cX5_place 59 = .ok (.invokevirtual 117, 3) := by decide +kernel
theorem dX5_place_62 : decode cX5_place 62 = .ok (.iinc 3 1, 3) := by decide +kernel
theorem dX5_place_65 : decode cX5_place 65 = .ok (.goto (-40), 3) := by decide +kernel
theorem dX5_place_68 : decode cX5_place 68 = .ok (.iinc 2 1, 3) := by decide +kernel
theorem dX5_place_71 : decode cX5_place 71 = .ok (.goto (-56), 3) := by decide +kernel
theorem dX5_place_74 : decode cX5_place 74 = .ok (.return_, 1) := by decide +kernel
theorem dX5_judge_0 : decode cX5_judge 0 = .ok (.iconst 0, 1) := by decide +kernel
theorem dX5_judge_1 : decode cX5_judge 1 = .ok (.istore_n 1, 1) := by decide +kernel
theorem dX5_judge_2 : decode cX5_judge 2 = .ok (.iconst 0, 1) := by decide +kernel
theorem dX5_judge_3 : decode cX5_judge 3 = .ok (.istore_n 2, 1) := by decide +kernel
theorem dX5_judge_4 : decode cX5_judge 4 = .ok (.iconst 0, 1) := by decide +kernel
theorem dX5_judge_5 : decode cX5_judge 5 = .ok (.istore_n 3, 1) := by decide +kernel
theorem dX5_judge_6 : decode cX5_judge 6 = .ok (.iload_n 3, 1) := by decide +kernel
theorem dX5_judge_7 : decode cX5_judge 7 = .ok (.aload_n 0, 1) := by decide +kernel
theorem dX5_judge_8 : decode cX5_judge 8 = .ok (.getfield 81, 3) := by decide +kernel
theorem dX5_judge_11 : decode cX5_judge 11 = .ok (.if_icmp .ge 117, 3) := by decide +kernel
theorem dX5_judge_14 : decode cX5_judge 14 = .ok (.aload_n 0, 1) := by decide +kernel
theorem dX5_judge_15 : decode cX5_judge 15 = .ok (.getfield 59, 3) := by decide +kernel
theorem dX5_judge_18 : decode cX5_judge 18 = .ok (.iload_n 3, 1) := by decide +kernel
theorem dX5_judge_19 : decode cX5_judge 19 = .ok (.iaload, 1) := by decide +kernel
theorem dX5_judge_20 : decode cX5_judge 20 = .ok (.aload_n 0, 1) := by decide +kernel
theorem dX5_judge_21 : decode cX5_judge 21 = .ok (.getfield 13, 3) := by decide +kernel
theorem dX5_judge_24 : decode cX5_judge 24 = .ok (.iload_n 3, 1) := by decide +kernel
theorem dX5_judge_25 : decode cX5_judge 25 = .ok (.iaload, 1) := by decide +kernel
theorem dX5_judge_26 : decode cX5_judge 26 = .ok (.if_icmp .eq 7, 3) := by decide +kernel
theorem dX5_judge_29 : decode cX5_judge 29 = .ok (.iconst 1, 1) := by decide +kernel
theorem dX5_judge_30 : decode cX5_judge 30 = .ok (.goto 4, 3) := by decide +kernel
theorem dX5_judge_33 : decode cX5_judge 33 = .ok (.iconst 0, 1) := by decide +kernel
theorem dX5_judge_34 : decode cX5_judge 34 = .ok (.istore 4, 2) := by decide +kernel
theorem dX5_judge_36 : decode cX5_judge 36 = .ok (.iload_n 1, 1) := by decide +kernel
theorem dX5_judge_37 : decode cX5_judge 37 = .ok (.iload 4, 2) := by decide +kernel
theorem dX5_judge_39 : decode cX5_judge 39 = .ok (.ifCond .ne 18, 3) := by decide +kernel
theorem dX5_judge_42 : decode cX5_judge 42 = .ok (.aload_n 0, 1) := by decide +kernel
theorem dX5_judge_43 : decode cX5_judge 43 = .ok (.getfield 62, 3) := by decide +kernel
theorem dX5_judge_46 : decode cX5_judge 46 = .ok (.iload_n 3, 1) := by decide +kernel
theorem dX5_judge_47 : decode cX5_judge 47 = .ok (.iaload, 1) := by decide +kernel
theorem dX5_judge_48 : decode cX5_judge 48 = .ok (.aload_n 0, 1) := by decide +kernel
theorem dX5_judge_49 : decode cX5_judge 49 = .ok (.getfield 16, 3) := by decide +kernel
theorem dX5_judge_52 : decode cX5_judge 52 = .ok (.iload_n 3, 1) := by decide +kernel
theorem dX5_judge_53 : decode cX5_judge 53 = .ok (.iaload, 1) := by decide +kernel
theorem dX5_judge_54 : decode cX5_judge 54 = .ok (.if_icmp .eq 7, 3) := by decide +kernel
theorem dX5_judge_57 : decode cX5_judge 57 = .ok (.iconst 1, 1) := by decide +kernel
theorem dX5_judge_58 : decode cX5_judge 58 = .ok (.goto 4, 3) := by decide +kernel
theorem dX5_judge_61 : decode cX5_judge 61 = .ok (.iconst 0, 1) := by decide +kernel
theorem dX5_judge_62 : decode cX5_judge 62 = .ok (.iadd, 1) := by decide +kernel
theorem dX5_judge_63 : decode cX5_judge 63 = .ok (.istore_n 1, 1) := by decide +kernel
theorem dX5_judge_64 : decode cX5_judge 64 = .ok (.iload_n 2, 1) := by decide +kernel
theorem dX5_judge_65 : decode cX5_judge 65 = .ok (.iload 4, 2) := by decide +kernel
theorem dX5_judge_67 : decode cX5_judge 67 = .ok (.ifCond .eq 7, 3) := by decide +kernel
theorem dX5_judge_70 : decode cX5_judge 70 = .ok (.iconst 3, 1) := by decide +kernel
theorem dX5_judge_71 : decode cX5_judge 71 = .ok (.goto 4, 3) := by decide +kernel
theorem dX5_judge_74 : decode cX5_judge 74 = .ok (.iconst 0, 1) := by decide +kernel
theorem dX5_judge_75 : decode cX5_judge 75 = .ok (.aload_n 0, 1) := by decide +kernel
theorem dX5_judge_76 : decode cX5_judge 76 = .ok (.getfield 62, 3) := by decide +kernel
theorem dX5_judge_79 : decode cX5_judge 79 = .ok (.iload_n 3, 1) := by decide +kernel
theorem dX5_judge_80 : decode cX5_judge 80 = .ok (.iaload, 1) := by decide +kernel
theorem dX5_judge_81 : decode cX5_judge 81 = .ok (.aload_n 0, 1) := by decide +kernel
theorem dX5_judge_82 : decode cX5_judge 82 = .ok (.getfield 16, 3) := by decide +kernel
theorem dX5_judge_85 : decode cX5_judge 85 = .ok (.iload_n 3, 1) := by decide +kernel
theorem dX5_judge_86 : decode cX5_judge 86 = .ok (.iaload, 1) := by decide +kernel
theorem dX5_judge_87 : decode cX5_judge 87 = .ok (.if_icmp .le 19, 3) := by decide +kernel
theorem dX5_judge_90 : decode cX5_judge 90 = .ok (.aload_n 0, 1) := by decide +kernel
theorem dX5_judge_91 : decode cX5_judge 91 = .ok (.getfield 62, 3) := by decide +kernel
theorem dX5_judge_94 : decode cX5_judge 94 = .ok (.iload_n 3, 1) := by decide +kernel
theorem dX5_judge_95 : decode cX5_judge 95 = .ok (.iaload, 1) := by decide +kernel
theorem dX5_judge_96 : decode cX5_judge 96 = .ok (.aload_n 0, 1) := by decide +kernel
theorem dX5_judge_97 : decode cX5_judge 97 = .ok (.getfield 16, 3) := by decide +kernel
theorem dX5_judge_100 : decode cX5_judge 100 = .ok (.iload_n 3, 1) := by decide +kernel
theorem dX5_judge_101 : decode cX5_judge 101 = .ok (.iaload, 1) := by decide +kernel
theorem dX5_judge_102 : decode cX5_judge 102 = .ok (.isub, 1) := by decide +kernel
theorem dX5_judge_103 : decode cX5_judge 103 = .ok (.goto 16, 3) := by decide +kernel
theorem dX5_judge_106 : decode cX5_judge 106 = .ok (.aload_n 0, 1) := by decide +kernel
theorem dX5_judge_107 : decode cX5_judge 107 = .ok (.getfield 16, 3) := by decide +kernel
theorem dX5_judge_110 : decode cX5_judge 110 = .ok (.iload_n 3, 1) := by decide +kernel
theorem dX5_judge_111 : decode cX5_judge 111 = .ok (.iaload, 1) := by decide +kernel
theorem dX5_judge_112 : decode cX5_judge 112 = .ok (.aload_n 0, 1) := by decide +kernel
theorem dX5_judge_113 : decode cX5_judge 113 = .ok (.getfield 62, 3) := by decide +kernel
theorem dX5_judge_116 : decode cX5_judge 116 = .ok (.iload_n 3, 1) := by decide +kernel
theorem dX5_judge_117 : decode cX5_judge 117 = .ok (.iaload, 1) := by decide +kernel
theorem dX5_judge_118 : decode cX5_judge 118 = .ok (.isub, 1) := by decide +kernel
theorem dX5_judge_119 : decode cX5_judge 119 = .ok (.iadd, 1) := by decide +kernel
theorem dX5_judge_120 : decode cX5_judge 120 = .ok (.iadd, 1) := by decide +kernel
theorem dX5_judge_121 : decode cX5_judge 121 = .ok (.istore_n 2, 1) := by decide +kernel
theorem dX5_judge_122 : decode cX5_judge 122 = .ok (.iinc 3 1, 3) := by decide +kernel
theorem dX5_judge_125 : decode cX5_judge 125 = .ok (.goto (-119), 3) := by decide +kernel
theorem dX5_judge_128 : decode cX5_judge 128 = .ok (.aload_n 0, 1) := by decide +kernel
theorem dX5_judge_129 : decode cX5_judge 129 = .ok (.getfield 101, 3) := by decide +kernel
theorem dX5_judge_132 : decode cX5_judge 132 = .ok (.ifCond .eq 28, 3) := by decide +kernel
theorem dX5_judge_135 : decode cX5_judge 135 = .ok (.iload_n 1, 1) := by decide +kernel
theorem dX5_judge_136 : decode cX5_judge 136 = .ok (.aload_n 0, 1) := by decide +kernel
theorem dX5_judge_137 : decode cX5_judge 137 = .ok (.getfield 105, 3) := by decide +kernel
theorem dX5_judge_140 : decode cX5_judge 140 = .ok (.if_icmp .gt 19, 3) := by decide +kernel
theorem dX5_judge_143 : decode cX5_judge 143 = .ok (.iload_n 1, 1) := by decide +kernel
theorem dX5_judge_144 : decode cX5_judge 144 = .ok (.aload_n 0, 1) := by decide +kernel
theorem dX5_judge_145 : decode cX5_judge 145 = .ok (.getfield 105, 3) := by decide +kernel
theorem dX5_judge_148 : decode cX5_judge 148 = .ok (.if_icmp .ne 12, 3) := by decide +kernel
theorem dX5_judge_151 : decode cX5_judge 151 = .ok (.iload_n 2, 1) := by decide +kernel
theorem dX5_judge_152 : decode cX5_judge 152 = .ok (.aload_n 0, 1) := by decide +kernel
theorem dX5_judge_153 : decode cX5_judge 153 = .ok (.getfield 108, 3) := by decide +kernel
theorem dX5_judge_156 : decode cX5_judge 156 = .ok (.if_icmp .lt 4, 3) := by decide +kernel
theorem dX5_judge_159 : decode cX5_judge 159 = .ok (.return_, 1) := by decide +kernel
theorem dX5_judge_160 : decode cX5_judge 160 = .ok (.aload_n 0, 1) := by decide +kernel
theorem dX5_judge_161 : decode cX5_judge 161 = .ok (.iconst 1, 1) := by decide +kernel
theorem dX5_judge_162 : decode cX5_judge 162 = .ok (.putfield 101, 3) := by decide +kernel
theorem dX5_judge_165 : decode cX5_judge 165 = .ok (.aload_n 0, 1) := by decide +kernel
theorem dX5_judge_166 : decode cX5_judge 166 = .ok (.iload_n 1, 1) := by decide +kernel
theorem dX5_judge_167 : decode cX5_judge 167 = .ok (.putfield 105, 3) := by decide +kernel
theorem dX5_judge_170 : decode cX5_judge 170 = .ok (.aload_n 0, 1) := by decide +kernel
theorem dX5_judge_171 : decode cX5_judge 171 = .ok (.iload_n 2, 1) := by decide +kernel
theorem dX5_judge_172 : decode cX5_judge 172 = .ok (.putfield 108, 3) := by decide +kernel
theorem dX5_judge_175 : decode cX5_judge 175 = .ok (.iconst 0, 1) := by decide +kernel
theorem dX5_judge_176 : decode cX5_judge 176 = .ok (.istore_n 3, 1) := by decide +kernel
theorem dX5_judge_177 : decode cX5_judge 177 = .ok (.iload_n 3, 1) := by decide +kernel
theorem dX5_judge_178 : decode cX5_judge 178 = .ok (.aload_n 0, 1) := by decide +kernel
theorem dX5_judge_179 : decode cX5_judge 179 = .ok (.getfield 81, 3) := by decide +kernel
theorem dX5_judge_182 : decode cX5_judge 182 = .ok (.if_icmp .ge 33, 3) := by decide +kernel
theorem dX5_judge_185 : decode cX5_judge 185 = .ok (.aload_n 0, 1) := by decide +kernel
theorem dX5_judge_186 : decode cX5_judge 186 = .ok (.getfield 65, 3) := by decide +kernel
theorem dX5_judge_189 : decode cX5_judge 189 = .ok (.iload_n 3, 1) := by decide +kernel
theorem dX5_judge_190 : decode cX5_judge 190 = .ok (.aload_n 0, 1) := by decide +kernel
theorem dX5_judge_191 : decode cX5_judge 191 = .ok (.getfield 59, 3) := by decide +kernel
theorem dX5_judge_194 : decode cX5_judge 194 = .ok (.iload_n 3, 1) := by decide +kernel
theorem dX5_judge_195 : decode cX5_judge 195 = .ok (.iaload, 1) := by decide +kernel
theorem dX5_judge_196 : decode cX5_judge 196 = .ok (.iastore, 1) := by decide +kernel
theorem dX5_judge_197 : decode cX5_judge 197 = .ok (.aload_n 0, 1) := by decide +kernel
theorem dX5_judge_198 : decode cX5_judge 198 = .ok (.getfield 68, 3) := by decide +kernel
theorem dX5_judge_201 : decode cX5_judge 201 = .ok (.iload_n 3, 1) := by decide +kernel
theorem dX5_judge_202 : decode cX5_judge 202 = .ok (.aload_n 0, 1) := by decide +kernel
theorem dX5_judge_203 : decode cX5_judge 203 = .ok (.getfield 62, 3) := by decide +kernel
theorem dX5_judge_206 : decode cX5_judge 206 = .ok (.iload_n 3, 1) := by decide +kernel
theorem dX5_judge_207 : decode cX5_judge 207 = .ok (.iaload, 1) := by decide +kernel
theorem dX5_judge_208 : decode cX5_judge 208 = .ok (.iastore, 1) := by decide +kernel
theorem dX5_judge_209 : decode cX5_judge 209 = .ok (.iinc 3 1, 3) := by decide +kernel
theorem dX5_judge_212 : decode cX5_judge 212 = .ok (.goto (-35), 3) := by decide +kernel
theorem dX5_judge_215 : decode cX5_judge 215 = .ok (.return_, 1) := by decide +kernel
theorem dX5_fits_0 : decode cX5_fits 0 = .ok (.aload_n 0, 1) := by decide +kernel
theorem dX5_fits_1 : decode cX5_fits 1 = .ok (.getfield 59, 3) := by decide +kernel
theorem dX5_fits_4 : decode cX5_fits 4 = .ok (.iload_n 1, 1) := by decide +kernel
theorem dX5_fits_5 : decode cX5_fits 5 = .ok (.iaload, 1) := by decide +kernel
theorem dX5_fits_6 : decode cX5_fits 6 = .ok (.istore_n 2, 1) := by decide +kernel
theorem dX5_fits_7 : decode cX5_fits 7 = .ok (.aload_n 0, 1) := by decide +kernel
theorem dX5_fits_8 : decode cX5_fits 8 = .ok (.getfield 62, 3) := by decide +kernel
theorem dX5_fits_11 : decode cX5_fits 11 = .ok (.iload_n 1, 1) := by decide +kernel
theorem dX5_fits_12 : decode cX5_fits 12 = .ok (.iaload, 1) := by decide +kernel
theorem dX5_fits_13 : decode cX5_fits 13 = .ok (.istore_n 3, 1) := by decide +kernel
theorem dX5_fits_14 : decode cX5_fits 14 = .ok (.iload_n 3, 1) := by decide +kernel
theorem dX5_fits_15 : decode cX5_fits 15 = .ok (.aload_n 0, 1) := by decide +kernel
theorem dX5_fits_16 : decode cX5_fits 16 = .ok (.getfield 7, 3) := by decide +kernel
theorem dX5_fits_19 : decode cX5_fits 19 = .ok (.iload_n 1, 1) := by decide +kernel
theorem dX5_fits_20 : decode cX5_fits 20 = .ok (.iaload, 1) := by decide +kernel
theorem dX5_fits_21 : decode cX5_fits 21 = .ok (.iadd, 1) := by decide +kernel
theorem dX5_fits_22 : decode cX5_fits 22 = .ok (.istore 4, 2) := by decide +kernel
theorem dX5_fits_24 : decode cX5_fits 24 = .ok (.iload 4, 2) := by decide +kernel
theorem dX5_fits_26 : decode cX5_fits 26 = .ok (.aload_n 0, 1) := by decide +kernel
theorem dX5_fits_27 : decode cX5_fits 27 = .ok (.getfield 78, 3) := by decide +kernel
theorem dX5_fits_30 : decode cX5_fits 30 = .ok (.if_icmp .gt 46, 3) := by decide +kernel
theorem dX5_fits_33 : decode cX5_fits 33 = .ok (.iload_n 3, 1) := by decide +kernel
theorem dX5_fits_34 : decode cX5_fits 34 = .ok (.aload_n 0, 1) := by decide +kernel
theorem dX5_fits_35 : decode cX5_fits 35 = .ok (.getfield 19, 3) := by decide +kernel
theorem dX5_fits_38 : decode cX5_fits 38 = .ok (.iload_n 1, 1) := by decide +kernel
theorem dX5_fits_39 : decode cX5_fits 39 = .ok (.iaload, 1) := by decide +kernel
theorem dX5_fits_40 : decode cX5_fits 40 = .ok (.if_icmp .lt 36, 3) := by decide +kernel
theorem dX5_fits_43 : decode cX5_fits 43 = .ok (.aload_n 0, 1) := by decide +kernel
theorem dX5_fits_44 : decode cX5_fits 44 = .ok (.getfield 22, 3) := by decide +kernel
theorem dX5_fits_47 : decode cX5_fits 47 = .ok (.iload_n 1, 1) := by decide +kernel
theorem dX5_fits_48 : decode cX5_fits 48 = .ok (.baload, 1) := by decide +kernel
theorem dX5_fits_49 : decode cX5_fits 49 = .ok (.ifCond .eq 23, 3) := by decide +kernel
theorem dX5_fits_52 : decode cX5_fits 52 = .ok (.iload_n 2, 1) := by decide +kernel
theorem dX5_fits_53 : decode cX5_fits 53 = .ok (.aload_n 0, 1) := by decide +kernel
theorem dX5_fits_54 : decode cX5_fits 54 = .ok (.getfield 13, 3) := by decide +kernel
theorem dX5_fits_57 : decode cX5_fits 57 = .ok (.iload_n 1, 1) := by decide +kernel
theorem dX5_fits_58 : decode cX5_fits 58 = .ok (.iaload, 1) := by decide +kernel
theorem dX5_fits_59 : decode cX5_fits 59 = .ok (.if_icmp .ne 17, 3) := by decide +kernel
theorem dX5_fits_62 : decode cX5_fits 62 = .ok (.iload_n 3, 1) := by decide +kernel
theorem dX5_fits_63 : decode cX5_fits 63 = .ok (.aload_n 0, 1) := by decide +kernel
theorem dX5_fits_64 : decode cX5_fits 64 = .ok (.getfield 16, 3) := by decide +kernel
theorem dX5_fits_67 : decode cX5_fits 67 = .ok (.iload_n 1, 1) := by decide +kernel
theorem dX5_fits_68 : decode cX5_fits 68 = .ok (.iaload, 1) := by decide +kernel
theorem dX5_fits_69 : decode cX5_fits 69 = .ok (.if_icmp .ne 7, 3) := by decide +kernel
theorem dX5_fits_72 : decode cX5_fits 72 = .ok (.iconst 1, 1) := by decide +kernel
theorem dX5_fits_73 : decode cX5_fits 73 = .ok (.goto 4, 3) := by decide +kernel
theorem dX5_fits_76 : decode cX5_fits 76 = .ok (.iconst 0, 1) := by decide +kernel
theorem dX5_fits_77 : decode cX5_fits 77 = .ok (.istore 5, 2) := by decide +kernel
theorem dX5_fits_79 : decode cX5_fits 79 = .ok (.iconst 0, 1) := by decide +kernel
theorem dX5_fits_80 : decode cX5_fits 80 = .ok (.istore 6, 2) := by decide +kernel
theorem dX5_fits_82 : decode cX5_fits 82 = .ok (.iload 6, 2) := by decide +kernel
theorem dX5_fits_84 : decode cX5_fits 84 = .ok (.aload_n 0, 1) := by decide +kernel
theorem dX5_fits_85 : decode cX5_fits 85 = .ok (.getfield 91, 3) := by decide +kernel
theorem dX5_fits_88 : decode cX5_fits 88 = .ok (.if_icmp .ge 55, 3) := by decide +kernel
theorem dX5_fits_91 : decode cX5_fits 91 = .ok (.iload 5, 2) := by decide +kernel
theorem dX5_fits_93 : decode cX5_fits 93 = .ok (.ifCond .eq 50, 3) := by decide +kernel
theorem dX5_fits_96 : decode cX5_fits 96 = .ok (.aload_n 0, 1) := by decide +kernel
theorem dX5_fits_97 : decode cX5_fits 97 = .ok (.getfield 38, 3) := by decide +kernel
theorem dX5_fits_100 : decode cX5_fits 100 = .ok (.iload 6, 2) := by decide +kernel
theorem dX5_fits_102 : decode cX5_fits 102 = .ok (.iaload, 1) := by decide +kernel
theorem dX5_fits_103 : decode cX5_fits 103 = .ok (.iload_n 2, 1) := by decide +kernel
theorem dX5_fits_104 : decode cX5_fits 104 = .ok (.if_icmp .ne 26, 3) := by decide +kernel
theorem dX5_fits_107 : decode cX5_fits 107 = .ok (.iload 4, 2) := by decide +kernel
theorem dX5_fits_109 : decode cX5_fits 109 = .ok (.aload_n 0, 1) := by decide +kernel
theorem dX5_fits_110 : decode cX5_fits 110 = .ok (.getfield 41, 3) := by decide +kernel
theorem dX5_fits_113 : decode cX5_fits 113 = .ok (.iload 6, 2) := by decide +kernel
theorem dX5_fits_115 : decode cX5_fits 115 = .ok (.iaload, 1) := by decide +kernel
theorem dX5_fits_116 : decode cX5_fits 116 = .ok (.if_icmp .le 14, 3) := by decide +kernel
theorem dX5_fits_119 : decode cX5_fits 119 = .ok (.iload_n 3, 1) := by decide +kernel
theorem dX5_fits_120 : decode cX5_fits 120 = .ok (.aload_n 0, 1) := by decide +kernel
theorem dX5_fits_121 : decode cX5_fits 121 = .ok (.getfield 44, 3) := by decide +kernel
theorem dX5_fits_124 : decode cX5_fits 124 = .ok (.iload 6, 2) := by decide +kernel
theorem dX5_fits_126 : decode cX5_fits 126 = .ok (.iaload, 1) := by decide +kernel
theorem dX5_fits_127 : decode cX5_fits 127 = .ok (.if_icmp .lt 7, 3) := by decide +kernel
theorem dX5_fits_130 : decode cX5_fits 130 = .ok (.iconst 1, 1) := by decide +kernel
theorem dX5_fits_131 : decode cX5_fits 131 = .ok (.goto 4, 3) := by decide +kernel
theorem dX5_fits_134 : decode cX5_fits 134 = .ok (.iconst 0, 1) := by decide +kernel
theorem dX5_fits_135 : decode cX5_fits 135 = .ok (.istore 5, 2) := by decide +kernel
theorem dX5_fits_137 : decode cX5_fits 137 = .ok (.iinc 6 1, 3) := by decide +kernel
theorem dX5_fits_140 : decode cX5_fits 140 = .ok (.goto (-58), 3) := by decide +kernel
theorem dX5_fits_143 : decode cX5_fits 143 = .ok (.iconst 0, 1) := by decide +kernel
theorem dX5_fits_144 : decode cX5_fits 144 = .ok (.istore 6, 2) := by decide +kernel
theorem dX5_fits_146 : decode cX5_fits 146 = .ok (.iload 6, 2) := by decide +kernel
theorem dX5_fits_148 : decode cX5_fits 148 = .ok (.iload_n 1, 1) := by decide +kernel
end
section
theorem dX5_fits_149 : decode cX5_fits 149 = .ok (.if_icmp .ge 63, 3) := by decide +kernel
theorem dX5_fits_152 : decode cX5_fits 152 = .ok (.iload 5, 2) := by decide +kernel
theorem dX5_fits_154 : decode cX5_fits 154 = .ok (.ifCond .eq 58, 3) := by decide +kernel
theorem dX5_fits_157 : decode cX5_fits 157 = .ok (.aload_n 0, 1) := by decide +kernel
theorem dX5_fits_158 : decode cX5_fits 158 = .ok (.getfield 59, 3) := by decide +kernel
theorem dX5_fits_161 : decode cX5_fits 161 = .ok (.iload 6, 2) := by decide +kernel
theorem dX5_fits_163 : decode cX5_fits 163 = .ok (.iaload, 1) := by decide +kernel
theorem dX5_fits_164 : decode cX5_fits 164 = .ok (.iload_n 2, 1) := by decide +kernel
theorem dX5_fits_165 : decode cX5_fits 165 = .ok (.if_icmp .ne 34, 3) := by decide +kernel
theorem dX5_fits_168 : decode cX5_fits 168 = .ok (.iload 4, 2) := by decide +kernel
theorem dX5_fits_170 : decode cX5_fits 170 = .ok (.aload_n 0, 1) := by decide +kernel
theorem dX5_fits_171 : decode cX5_fits 171 = .ok (.getfield 62, 3) := by decide +kernel
theorem dX5_fits_174 : decode cX5_fits 174 = .ok (.iload 6, 2) := by decide +kernel
theorem dX5_fits_176 : decode cX5_fits 176 = .ok (.iaload, 1) := by decide +kernel
theorem dX5_fits_177 : decode cX5_fits 177 = .ok (.if_icmp .le 22, 3) := by decide +kernel
theorem dX5_fits_180 : decode cX5_fits 180 = .ok (.iload_n 3, 1) := by decide +kernel
theorem dX5_fits_181 : decode cX5_fits 181 = .ok (.aload_n 0, 1) := by decide +kernel
theorem dX5_fits_182 : decode cX5_fits 182 = .ok (.getfield 62, 3) := by decide +kernel
theorem dX5_fits_185 : decode cX5_fits 185 = .ok (.iload 6, 2) := by decide +kernel
theorem dX5_fits_187 : decode cX5_fits 187 = .ok (.iaload, 1) := by decide +kernel
theorem dX5_fits_188 : decode cX5_fits 188 = .ok (.aload_n 0, 1) := by decide +kernel
theorem dX5_fits_189 : decode cX5_fits 189 = .ok (.getfield 7, 3) := by decide +kernel
theorem dX5_fits_192 : decode cX5_fits 192 = .ok (.iload 6, 2) := by decide +kernel
theorem dX5_fits_194 : decode cX5_fits 194 = .ok (.iaload, 1) := by decide +kernel
theorem dX5_fits_195 : decode cX5_fits 195 = .ok (.iadd, 1) := by decide +kernel
theorem dX5_fits_196 : decode cX5_fits 196 = .ok (.if_icmp .lt 7, 3) := by decide +kernel
theorem dX5_fits_199 : decode cX5_fits 199 = .ok (.iconst 1, 1) := by decide +kernel
theorem dX5_fits_200 : decode cX5_fits 200 = .ok (.goto 4, 3) := by decide +kernel
theorem dX5_fits_203 : decode cX5_fits 203 = .ok (.iconst 0, 1) := by decide +kernel
theorem dX5_fits_204 : decode cX5_fits 204 = .ok (.istore 5, 2) := by decide +kernel
theorem dX5_fits_206 : decode cX5_fits 206 = .ok (.iinc 6 1, 3) := by decide +kernel
theorem dX5_fits_209 : decode cX5_fits 209 = .ok (.goto (-63), 3) := by decide +kernel
theorem dX5_fits_212 : decode cX5_fits 212 = .ok (.iconst 0, 1) := by decide +kernel
theorem dX5_fits_213 : decode cX5_fits 213 = .ok (.istore 6, 2) := by decide +kernel
theorem dX5_fits_215 : decode cX5_fits 215 = .ok (.iload 6, 2) := by decide +kernel
theorem dX5_fits_217 : decode cX5_fits 217 = .ok (.aload_n 0, 1) := by decide +kernel
theorem dX5_fits_218 : decode cX5_fits 218 = .ok (.getfield 88, 3) := by decide +kernel
theorem dX5_fits_221 : decode cX5_fits 221 = .ok (.if_icmp .ge 40, 3) := by decide +kernel
theorem dX5_fits_224 : decode cX5_fits 224 = .ok (.iload 5, 2) := by decide +kernel
theorem dX5_fits_226 : decode cX5_fits 226 = .ok (.ifCond .eq 35, 3) := by decide +kernel
theorem dX5_fits_229 : decode cX5_fits 229 = .ok (.iload 6, 2) := by decide +kernel
theorem dX5_fits_231 : decode cX5_fits 231 = .ok (.aload_n 0, 1) := by decide +kernel
theorem dX5_fits_232 : decode cX5_fits 232 = .ok (.getfield 94, 3) := by decide +kernel
theorem dX5_fits_235 : decode cX5_fits 235 = .ok (.if_icmp .eq 13, 3) := by decide +kernel
theorem dX5_fits_238 : decode cX5_fits 238 = .ok (.aload_n 0, 1) := by decide +kernel
theorem dX5_fits_239 : decode cX5_fits 239 = .ok (.iload 6, 2) := by decide +kernel
theorem dX5_fits_241 : decode cX5_fits 241 = .ok (.iload_n 1, 1) := by decide +kernel
theorem dX5_fits_242 : decode cX5_fits 242 = .ok (.invokevirtual 97, 3) := by decide +kernel
theorem dX5_fits_245 : decode cX5_fits 245 = .ok (.ifCond .eq 7, 3) := by decide +kernel
theorem dX5_fits_248 : decode cX5_fits 248 = .ok (.iconst 1, 1) := by decide +kernel
theorem dX5_fits_249 : decode cX5_fits 249 = .ok (.goto 4, 3) := by decide +kernel
theorem dX5_fits_252 : decode cX5_fits 252 = .ok (.iconst 0, 1) := by decide +kernel
theorem dX5_fits_253 : decode cX5_fits 253 = .ok (.istore 5, 2) := by decide +kernel
theorem dX5_fits_255 : decode cX5_fits 255 = .ok (.iinc 6 1, 3) := by decide +kernel
theorem dX5_fits_258 : decode cX5_fits 258 = .ok (.goto (-43), 3) := by decide +kernel
theorem dX5_fits_261 : decode cX5_fits 261 = .ok (.iload 5, 2) := by decide +kernel
theorem dX5_fits_263 : decode cX5_fits 263 = .ok (.ireturn, 1) := by decide +kernel
theorem dX5_keeps_0 : decode cX5_keeps 0 = .ok (.aload_n 0, 1) := by decide +kernel
theorem dX5_keeps_1 : decode cX5_keeps 1 = .ok (.getfield 29, 3) := by decide +kernel
theorem dX5_keeps_4 : decode cX5_keeps 4 = .ok (.iload_n 1, 1) := by decide +kernel
theorem dX5_keeps_5 : decode cX5_keeps 5 = .ok (.iaload, 1) := by decide +kernel
theorem dX5_keeps_6 : decode cX5_keeps 6 = .ok (.istore_n 3, 1) := by decide +kernel
theorem dX5_keeps_7 : decode cX5_keeps 7 = .ok (.aload_n 0, 1) := by decide +kernel
theorem dX5_keeps_8 : decode cX5_keeps 8 = .ok (.getfield 32, 3) := by decide +kernel
theorem dX5_keeps_11 : decode cX5_keeps 11 = .ok (.iload_n 1, 1) := by decide +kernel
theorem dX5_keeps_12 : decode cX5_keeps 12 = .ok (.iaload, 1) := by decide +kernel
theorem dX5_keeps_13 : decode cX5_keeps 13 = .ok (.istore 4, 2) := by decide +kernel
theorem dX5_keeps_15 : decode cX5_keeps 15 = .ok (.aload_n 0, 1) := by decide +kernel
theorem dX5_keeps_16 : decode cX5_keeps 16 = .ok (.getfield 26, 3) := by decide +kernel
theorem dX5_keeps_19 : decode cX5_keeps 19 = .ok (.iload_n 1, 1) := by decide +kernel
theorem dX5_keeps_20 : decode cX5_keeps 20 = .ok (.iaload, 1) := by decide +kernel
theorem dX5_keeps_21 : decode cX5_keeps 21 = .ok (.iconst 2, 1) := by decide +kernel
theorem dX5_keeps_22 : decode cX5_keeps 22 = .ok (.if_icmp .ne 36, 3) := by decide +kernel
theorem dX5_keeps_25 : decode cX5_keeps 25 = .ok (.iload_n 3, 1) := by decide +kernel
theorem dX5_keeps_26 : decode cX5_keeps 26 = .ok (.iload_n 2, 1) := by decide +kernel
theorem dX5_keeps_27 : decode cX5_keeps 27 = .ok (.if_icmp .ne 25, 3) := by decide +kernel
theorem dX5_keeps_30 : decode cX5_keeps 30 = .ok (.aload_n 0, 1) := by decide +kernel
theorem dX5_keeps_31 : decode cX5_keeps 31 = .ok (.getfield 62, 3) := by decide +kernel
theorem dX5_keeps_34 : decode cX5_keeps 34 = .ok (.iload_n 3, 1) := by decide +kernel
theorem dX5_keeps_35 : decode cX5_keeps 35 = .ok (.iaload, 1) := by decide +kernel
theorem dX5_keeps_36 : decode cX5_keeps 36 = .ok (.aload_n 0, 1) := by decide +kernel
theorem dX5_keeps_37 : decode cX5_keeps 37 = .ok (.getfield 7, 3) := by decide +kernel
theorem dX5_keeps_40 : decode cX5_keeps 40 = .ok (.iload_n 3, 1) := by decide +kernel
theorem dX5_keeps_41 : decode cX5_keeps 41 = .ok (.iaload, 1) := by decide +kernel
theorem dX5_keeps_42 : decode cX5_keeps 42 = .ok (.iadd, 1) := by decide +kernel
theorem dX5_keeps_43 : decode cX5_keeps 43 = .ok (.aload_n 0, 1) := by decide +kernel
theorem dX5_keeps_44 : decode cX5_keeps 44 = .ok (.getfield 35, 3) := by decide +kernel
theorem dX5_keeps_47 : decode cX5_keeps 47 = .ok (.iload_n 1, 1) := by decide +kernel
theorem dX5_keeps_48 : decode cX5_keeps 48 = .ok (.iaload, 1) := by decide +kernel
theorem dX5_keeps_49 : decode cX5_keeps 49 = .ok (.if_icmp .gt 7, 3) := by decide +kernel
theorem dX5_keeps_52 : decode cX5_keeps 52 = .ok (.iconst 1, 1) := by decide +kernel
theorem dX5_keeps_53 : decode cX5_keeps 53 = .ok (.goto 4, 3) := by decide +kernel
theorem dX5_keeps_56 : decode cX5_keeps 56 = .ok (.iconst 0, 1) := by decide +kernel
theorem dX5_keeps_57 : decode cX5_keeps 57 = .ok (.ireturn, 1) := by decide +kernel
theorem dX5_keeps_58 : decode cX5_keeps 58 = .ok (.aload_n 0, 1) := by decide +kernel
theorem dX5_keeps_59 : decode cX5_keeps 59 = .ok (.getfield 26, 3) := by decide +kernel
theorem dX5_keeps_62 : decode cX5_keeps 62 = .ok (.iload_n 1, 1) := by decide +kernel
theorem dX5_keeps_63 : decode cX5_keeps 63 = .ok (.iaload, 1) := by decide +kernel
theorem dX5_keeps_64 : decode cX5_keeps 64 = .ok (.iconst 3, 1) := by decide +kernel
theorem dX5_keeps_65 : decode cX5_keeps 65 = .ok (.if_icmp .ne 29, 3) := by decide +kernel
theorem dX5_keeps_68 : decode cX5_keeps 68 = .ok (.iload_n 3, 1) := by decide +kernel
theorem dX5_keeps_69 : decode cX5_keeps 69 = .ok (.iload_n 2, 1) := by decide +kernel
theorem dX5_keeps_70 : decode cX5_keeps 70 = .ok (.if_icmp .ne 18, 3) := by decide +kernel
theorem dX5_keeps_73 : decode cX5_keeps 73 = .ok (.aload_n 0, 1) := by decide +kernel
theorem dX5_keeps_74 : decode cX5_keeps 74 = .ok (.getfield 62, 3) := by decide +kernel
theorem dX5_keeps_77 : decode cX5_keeps 77 = .ok (.iload_n 3, 1) := by decide +kernel
theorem dX5_keeps_78 : decode cX5_keeps 78 = .ok (.iaload, 1) := by decide +kernel
theorem dX5_keeps_79 : decode cX5_keeps 79 = .ok (.aload_n 0, 1) := by decide +kernel
theorem dX5_keeps_80 : decode cX5_keeps 80 = .ok (.getfield 35, 3) := by decide +kernel
theorem dX5_keeps_83 : decode cX5_keeps 83 = .ok (.iload_n 1, 1) := by decide +kernel
theorem dX5_keeps_84 : decode cX5_keeps 84 = .ok (.iaload, 1) := by decide +kernel
theorem dX5_keeps_85 : decode cX5_keeps 85 = .ok (.if_icmp .lt 7, 3) := by decide +kernel
theorem dX5_keeps_88 : decode cX5_keeps 88 = .ok (.iconst 1, 1) := by decide +kernel
theorem dX5_keeps_89 : decode cX5_keeps 89 = .ok (.goto 4, 3) := by decide +kernel
theorem dX5_keeps_92 : decode cX5_keeps 92 = .ok (.iconst 0, 1) := by decide +kernel
theorem dX5_keeps_93 : decode cX5_keeps 93 = .ok (.ireturn, 1) := by decide +kernel
theorem dX5_keeps_94 : decode cX5_keeps 94 = .ok (.iload_n 3, 1) := by decide +kernel
theorem dX5_keeps_95 : decode cX5_keeps 95 = .ok (.iload_n 2, 1) := by decide +kernel
theorem dX5_keeps_96 : decode cX5_keeps 96 = .ok (.if_icmp .gt 20, 3) := by decide +kernel
theorem dX5_keeps_99 : decode cX5_keeps 99 = .ok (.iload 4, 2) := by decide +kernel
theorem dX5_keeps_101 : decode cX5_keeps 101 = .ok (.iload_n 2, 1) := by decide +kernel
theorem dX5_keeps_102 : decode cX5_keeps 102 = .ok (.if_icmp .gt 14, 3) := by decide +kernel
theorem dX5_keeps_105 : decode cX5_keeps 105 = .ok (.iload_n 3, 1) := by decide +kernel
theorem dX5_keeps_106 : decode cX5_keeps 106 = .ok (.iload_n 2, 1) := by decide +kernel
theorem dX5_keeps_107 : decode cX5_keeps 107 = .ok (.if_icmp .eq 11, 3) := by decide +kernel
theorem dX5_keeps_110 : decode cX5_keeps 110 = .ok (.iload 4, 2) := by decide +kernel
theorem dX5_keeps_112 : decode cX5_keeps 112 = .ok (.iload_n 2, 1) := by decide +kernel
theorem dX5_keeps_113 : decode cX5_keeps 113 = .ok (.if_icmp .eq 5, 3) := by decide +kernel
theorem dX5_keeps_116 : decode cX5_keeps 116 = .ok (.iconst 1, 1) := by decide +kernel
theorem dX5_keeps_117 : decode cX5_keeps 117 = .ok (.ireturn, 1) := by decide +kernel
theorem dX5_keeps_118 : decode cX5_keeps 118 = .ok (.aload_n 0, 1) := by decide +kernel
theorem dX5_keeps_119 : decode cX5_keeps 119 = .ok (.getfield 26, 3) := by decide +kernel
theorem dX5_keeps_122 : decode cX5_keeps 122 = .ok (.iload_n 1, 1) := by decide +kernel
theorem dX5_keeps_123 : decode cX5_keeps 123 = .ok (.iaload, 1) := by decide +kernel
theorem dX5_keeps_124 : decode cX5_keeps 124 = .ok (.iconst 1, 1) := by decide +kernel
theorem dX5_keeps_125 : decode cX5_keeps 125 = .ok (.if_icmp .ne 27, 3) := by decide +kernel
theorem dX5_keeps_128 : decode cX5_keeps 128 = .ok (.aload_n 0, 1) := by decide +kernel
theorem dX5_keeps_129 : decode cX5_keeps 129 = .ok (.getfield 59, 3) := by decide +kernel
theorem dX5_keeps_132 : decode cX5_keeps 132 = .ok (.iload_n 3, 1) := by decide +kernel
theorem dX5_keeps_133 : decode cX5_keeps 133 = .ok (.iaload, 1) := by decide +kernel
theorem dX5_keeps_134 : decode cX5_keeps 134 = .ok (.aload_n 0, 1) := by decide +kernel
theorem dX5_keeps_135 : decode cX5_keeps 135 = .ok (.getfield 59, 3) := by decide +kernel
theorem dX5_keeps_138 : decode cX5_keeps 138 = .ok (.iload 4, 2) := by decide +kernel
theorem dX5_keeps_140 : decode cX5_keeps 140 = .ok (.iaload, 1) := by decide +kernel
theorem dX5_keeps_141 : decode cX5_keeps 141 = .ok (.if_icmp .eq 7, 3) := by decide +kernel
theorem dX5_keeps_144 : decode cX5_keeps 144 = .ok (.iconst 1, 1) := by decide +kernel
theorem dX5_keeps_145 : decode cX5_keeps 145 = .ok (.goto 43, 3) := by decide +kernel
theorem dX5_keeps_148 : decode cX5_keeps 148 = .ok (.iconst 0, 1) := by decide +kernel
theorem dX5_keeps_149 : decode cX5_keeps 149 = .ok (.goto 39, 3) := by decide +kernel
theorem dX5_keeps_152 : decode cX5_keeps 152 = .ok (.aload_n 0, 1) := by decide +kernel
theorem dX5_keeps_153 : decode cX5_keeps 153 = .ok (.getfield 62, 3) := by decide +kernel
theorem dX5_keeps_156 : decode cX5_keeps 156 = .ok (.iload_n 3, 1) := by decide +kernel
theorem dX5_keeps_157 : decode cX5_keeps 157 = .ok (.iaload, 1) := by decide +kernel
theorem dX5_keeps_158 : decode cX5_keeps 158 = .ok (.aload_n 0, 1) := by decide +kernel
theorem dX5_keeps_159 : decode cX5_keeps 159 = .ok (.getfield 62, 3) := by decide +kernel
theorem dX5_keeps_162 : decode cX5_keeps 162 = .ok (.iload 4, 2) := by decide +kernel
theorem dX5_keeps_164 : decode cX5_keeps 164 = .ok (.iaload, 1) := by decide +kernel
theorem dX5_keeps_165 : decode cX5_keeps 165 = .ok (.aload_n 0, 1) := by decide +kernel
theorem dX5_keeps_166 : decode cX5_keeps 166 = .ok (.getfield 7, 3) := by decide +kernel
theorem dX5_keeps_169 : decode cX5_keeps 169 = .ok (.iload 4, 2) := by decide +kernel
theorem dX5_keeps_171 : decode cX5_keeps 171 = .ok (.iaload, 1) := by decide +kernel
theorem dX5_keeps_172 : decode cX5_keeps 172 = .ok (.iadd, 1) := by decide +kernel
theorem dX5_keeps_173 : decode cX5_keeps 173 = .ok (.aload_n 0, 1) := by decide +kernel
theorem dX5_keeps_174 : decode cX5_keeps 174 = .ok (.getfield 35, 3) := by decide +kernel
theorem dX5_keeps_177 : decode cX5_keeps 177 = .ok (.iload_n 1, 1) := by decide +kernel
theorem dX5_keeps_178 : decode cX5_keeps 178 = .ok (.iaload, 1) := by decide +kernel
theorem dX5_keeps_179 : decode cX5_keeps 179 = .ok (.iadd, 1) := by decide +kernel
theorem dX5_keeps_180 : decode cX5_keeps 180 = .ok (.if_icmp .lt 7, 3) := by decide +kernel
theorem dX5_keeps_183 : decode cX5_keeps 183 = .ok (.iconst 1, 1) := by decide +kernel
theorem dX5_keeps_184 : decode cX5_keeps 184 = .ok (.goto 4, 3) := by decide +kernel
theorem dX5_keeps_187 : decode cX5_keeps 187 = .ok (.iconst 0, 1) := by decide +kernel
theorem dX5_keeps_188 : decode cX5_keeps 188 = .ok (.ireturn, 1) := by decide +kernel
theorem dX5_keep_0 : decode cX5_keep 0 = .ok (.aload_n 0, 1) := by decide +kernel
theorem dX5_keep_1 : decode cX5_keep 1 = .ok (.getfield 136, 3) := by decide +kernel
theorem dX5_keep_4 : decode cX5_keep 4 = .ok (.bipush 16, 2) := by decide +kernel
theorem dX5_keep_6 : decode cX5_keep 6 = .ok (.if_icmp .ne 70, 3) := by decide +kernel
theorem dX5_keep_9 : decode cX5_keep 9 = .ok (.iconst 0, 1) := by decide +kernel
theorem dX5_keep_10 : decode cX5_keep 10 = .ok (.istore_n 1, 1) := by decide +kernel
theorem dX5_keep_11 : decode cX5_keep 11 = .ok (.iload_n 1, 1) := by decide +kernel
theorem dX5_keep_12 : decode cX5_keep 12 = .ok (.bipush 120, 2) := by decide +kernel
theorem dX5_keep_14 : decode cX5_keep 14 = .ok (.if_icmp .ge 24, 3) := by decide +kernel
theorem dX5_keep_17 : decode cX5_keep 17 = .ok (.aload_n 0, 1) := by decide +kernel
theorem dX5_keep_18 : decode cX5_keep 18 = .ok (.getfield 50, 3) := by decide +kernel
theorem dX5_keep_21 : decode cX5_keep 21 = .ok (.iload_n 1, 1) := by decide +kernel
theorem dX5_keep_22 : decode cX5_keep 22 = .ok (.aload_n 0, 1) := by decide +kernel
theorem dX5_keep_23 : decode cX5_keep 23 = .ok (.getfield 50, 3) := by decide +kernel
theorem dX5_keep_26 : decode cX5_keep 26 = .ok (.iload_n 1, 1) := by decide +kernel
theorem dX5_keep_27 : decode cX5_keep 27 = .ok (.bipush 8, 2) := by decide +kernel
theorem dX5_keep_29 : decode cX5_keep 29 = .ok (.iadd, 1) := by decide +kernel
theorem dX5_keep_30 : decode cX5_keep 30 = .ok (.iaload, 1) := by decide +kernel
theorem dX5_keep_31 : decode cX5_keep 31 = .ok (.iastore, 1) := by decide +kernel
theorem dX5_keep_32 : decode cX5_keep 32 = .ok (.iinc 1 1, 3) := by decide +kernel
theorem dX5_keep_35 : decode cX5_keep 35 = .ok (.goto (-24), 3) := by decide +kernel
theorem dX5_keep_38 : decode cX5_keep 38 = .ok (.iconst 0, 1) := by decide +kernel
theorem dX5_keep_39 : decode cX5_keep 39 = .ok (.istore_n 1, 1) := by decide +kernel
theorem dX5_keep_40 : decode cX5_keep 40 = .ok (.iload_n 1, 1) := by decide +kernel
theorem dX5_keep_41 : decode cX5_keep 41 = .ok (.bipush 15, 2) := by decide +kernel
theorem dX5_keep_43 : decode cX5_keep 43 = .ok (.if_icmp .ge 23, 3) := by decide +kernel
theorem dX5_keep_46 : decode cX5_keep 46 = .ok (.aload_n 0, 1) := by decide +kernel
theorem dX5_keep_47 : decode cX5_keep 47 = .ok (.getfield 47, 3) := by decide +kernel
theorem dX5_keep_50 : decode cX5_keep 50 = .ok (.iload_n 1, 1) := by decide +kernel
theorem dX5_keep_51 : decode cX5_keep 51 = .ok (.aload_n 0, 1) := by decide +kernel
theorem dX5_keep_52 : decode cX5_keep 52 = .ok (.getfield 47, 3) := by decide +kernel
theorem dX5_keep_55 : decode cX5_keep 55 = .ok (.iload_n 1, 1) := by decide +kernel
theorem dX5_keep_56 : decode cX5_keep 56 = .ok (.iconst 1, 1) := by decide +kernel
theorem dX5_keep_57 : decode cX5_keep 57 = .ok (.iadd, 1) := by decide +kernel
theorem dX5_keep_58 : decode cX5_keep 58 = .ok (.iaload, 1) := by decide +kernel
theorem dX5_keep_59 : decode cX5_keep 59 = .ok (.iastore, 1) := by decide +kernel
theorem dX5_keep_60 : decode cX5_keep 60 = .ok (.iinc 1 1, 3) := by decide +kernel
theorem dX5_keep_63 : decode cX5_keep 63 = .ok (.goto (-23), 3) := by decide +kernel
theorem dX5_keep_66 : decode cX5_keep 66 = .ok (.aload_n 0, 1) := by decide +kernel
theorem dX5_keep_67 : decode cX5_keep 67 = .ok (.dup, 1) := by decide +kernel
theorem dX5_keep_68 : decode cX5_keep 68 = .ok (.getfield 136, 3) := by decide +kernel
theorem dX5_keep_71 : decode cX5_keep 71 = .ok (.iconst 1, 1) := by decide +kernel
theorem dX5_keep_72 : decode cX5_keep 72 = .ok (.isub, 1) := by decide +kernel
theorem dX5_keep_73 : decode cX5_keep 73 = .ok (.putfield 136, 3) := by decide +kernel
theorem dX5_keep_76 : decode cX5_keep 76 = .ok (.aload_n 0, 1) := by decide +kernel
theorem dX5_keep_77 : decode cX5_keep 77 = .ok (.getfield 47, 3) := by decide +kernel
theorem dX5_keep_80 : decode cX5_keep 80 = .ok (.aload_n 0, 1) := by decide +kernel
theorem dX5_keep_81 : decode cX5_keep 81 = .ok (.getfield 136, 3) := by decide +kernel
theorem dX5_keep_84 : decode cX5_keep 84 = .ok (.aload_n 0, 1) := by decide +kernel
theorem dX5_keep_85 : decode cX5_keep 85 = .ok (.getfield 81, 3) := by decide +kernel
theorem dX5_keep_88 : decode cX5_keep 88 = .ok (.iastore, 1) := by decide +kernel
theorem dX5_keep_89 : decode cX5_keep 89 = .ok (.iconst 0, 1) := by decide +kernel
theorem dX5_keep_90 : decode cX5_keep 90 = .ok (.istore_n 1, 1) := by decide +kernel
theorem dX5_keep_91 : decode cX5_keep 91 = .ok (.iload_n 1, 1) := by decide +kernel
theorem dX5_keep_92 : decode cX5_keep 92 = .ok (.aload_n 0, 1) := by decide +kernel
theorem dX5_keep_93 : decode cX5_keep 93 = .ok (.getfield 81, 3) := by decide +kernel
theorem dX5_keep_96 : decode cX5_keep 96 = .ok (.if_icmp .ge 55, 3) := by decide +kernel
theorem dX5_keep_99 : decode cX5_keep 99 = .ok (.aload_n 0, 1) := by decide +kernel
theorem dX5_keep_100 : decode cX5_keep 100 = .ok (.getfield 50, 3) := by decide +kernel
theorem dX5_keep_103 : decode cX5_keep 103 = .ok (.bipush 8, 2) := by decide +kernel
theorem dX5_keep_105 : decode cX5_keep 105 = .ok (.aload_n 0, 1) := by decide +kernel
theorem dX5_keep_106 : decode cX5_keep 106 = .ok (.getfield 136, 3) := by decide +kernel
theorem dX5_keep_109 : decode cX5_keep 109 = .ok (.imul, 1) := by decide +kernel
theorem dX5_keep_110 : decode cX5_keep 110 = .ok (.iconst 2, 1) := by decide +kernel
theorem dX5_keep_111 : decode cX5_keep 111 = .ok (.iload_n 1, 1) := by decide +kernel
theorem dX5_keep_112 : decode cX5_keep 112 = .ok (.imul, 1) := by decide +kernel
theorem dX5_keep_113 : decode cX5_keep 113 = .ok (.iadd, 1) := by decide +kernel
theorem dX5_keep_114 : decode cX5_keep 114 = .ok (.aload_n 0, 1) := by decide +kernel
theorem dX5_keep_115 : decode cX5_keep 115 = .ok (.getfield 13, 3) := by decide +kernel
theorem dX5_keep_118 : decode cX5_keep 118 = .ok (.iload_n 1, 1) := by decide +kernel
theorem dX5_keep_119 : decode cX5_keep 119 = .ok (.iaload, 1) := by decide +kernel
theorem dX5_keep_120 : decode cX5_keep 120 = .ok (.iastore, 1) := by decide +kernel
theorem dX5_keep_121 : decode cX5_keep 121 = .ok (.aload_n 0, 1) := by decide +kernel
theorem dX5_keep_122 : decode cX5_keep 122 = .ok (.getfield 50, 3) := by decide +kernel
theorem dX5_keep_125 : decode cX5_keep 125 = .ok (.bipush 8, 2) := by decide +kernel
theorem dX5_keep_127 : decode cX5_keep 127 = .ok (.aload_n 0, 1) := by decide +kernel
theorem dX5_keep_128 : decode cX5_keep 128 = .ok (.getfield 136, 3) := by decide +kernel
theorem dX5_keep_131 : decode cX5_keep 131 = .ok (.imul, 1) := by decide +kernel
theorem dX5_keep_132 : decode cX5_keep 132 = .ok (.iconst 2, 1) := by decide +kernel
theorem dX5_keep_133 : decode cX5_keep 133 = .ok (.iload_n 1, 1) := by decide +kernel
theorem dX5_keep_134 : decode cX5_keep 134 = .ok (.imul, 1) := by decide +kernel
theorem dX5_keep_135 : decode cX5_keep 135 = .ok (.iadd, 1) := by decide +kernel
theorem dX5_keep_136 : decode cX5_keep 136 = .ok (.iconst 1, 1) := by decide +kernel
theorem dX5_keep_137 : decode cX5_keep 137 = .ok (.iadd, 1) := by decide +kernel
theorem dX5_keep_138 : decode cX5_keep 138 = .ok (.aload_n 0, 1) := by decide +kernel
theorem dX5_keep_139 : decode cX5_keep 139 = .ok (.getfield 16, 3) := by decide +kernel
theorem dX5_keep_142 : decode cX5_keep 142 = .ok (.iload_n 1, 1) := by decide +kernel
theorem dX5_keep_143 : decode cX5_keep 143 = .ok (.iaload, 1) := by decide +kernel
theorem dX5_keep_144 : decode cX5_keep 144 = .ok (.iastore, 1) := by decide +kernel
theorem dX5_keep_145 : decode cX5_keep 145 = .ok (.iinc 1 1, 3) := by decide +kernel
theorem dX5_keep_148 : decode cX5_keep 148 = .ok (.goto (-57), 3) := by decide +kernel
theorem dX5_keep_151 : decode cX5_keep 151 = .ok (.aload_n 0, 1) := by decide +kernel
theorem dX5_keep_152 : decode cX5_keep 152 = .ok (.dup, 1) := by decide +kernel
theorem dX5_keep_153 : decode cX5_keep 153 = .ok (.getfield 136, 3) := by decide +kernel
theorem dX5_keep_156 : decode cX5_keep 156 = .ok (.iconst 1, 1) := by decide +kernel
theorem dX5_keep_157 : decode cX5_keep 157 = .ok (.iadd, 1) := by decide +kernel
theorem dX5_keep_158 : decode cX5_keep 158 = .ok (.putfield 136, 3) := by decide +kernel
theorem dX5_keep_161 : decode cX5_keep 161 = .ok (.return_, 1) := by decide +kernel
theorem dX5_tankOf_0 : decode cX5_tankOf 0 = .ok (.aload_n 0, 1) := by decide +kernel
theorem dX5_tankOf_1 : decode cX5_tankOf 1 = .ok (.iload_n 1, 1) := by decide +kernel
theorem dX5_tankOf_2 : decode cX5_tankOf 2 = .ok (.invokevirtual 84, 3) := by decide +kernel
theorem dX5_tankOf_5 : decode cX5_tankOf 5 = .ok (.ifCond .eq 12, 3) := by decide +kernel
theorem dX5_tankOf_8 : decode cX5_tankOf 8 = .ok (.aload_n 0, 1) := by decide +kernel
theorem dX5_tankOf_9 : decode cX5_tankOf 9 = .ok (.getfield 13, 3) := by decide +kernel
theorem dX5_tankOf_12 : decode cX5_tankOf 12 = .ok (.iload_n 1, 1) := by decide +kernel
theorem dX5_tankOf_13 : decode cX5_tankOf 13 = .ok (.iaload, 1) := by decide +kernel
theorem dX5_tankOf_14 : decode cX5_tankOf 14 = .ok (.goto 4, 3) := by decide +kernel
theorem dX5_tankOf_17 : decode cX5_tankOf 17 = .ok (.iconst (-1), 1) := by decide +kernel
theorem dX5_tankOf_18 : decode cX5_tankOf 18 = .ok (.ireturn, 1) := by decide +kernel
theorem dX5_start_0 : decode cX5_start 0 = .ok (.aload_n 0, 1) := by decide +kernel
theorem dX5_start_1 : decode cX5_start 1 = .ok (.iload_n 1, 1) := by decide +kernel
theorem dX5_start_2 : decode cX5_start 2 = .ok (.invokevirtual 84, 3) := by decide +kernel
theorem dX5_start_5 : decode cX5_start 5 = .ok (.ifCond .eq 12, 3) := by decide +kernel
theorem dX5_start_8 : decode cX5_start 8 = .ok (.aload_n 0, 1) := by decide +kernel
theorem dX5_start_9 : decode cX5_start 9 = .ok (.getfield 16, 3) := by decide +kernel
theorem dX5_start_12 : decode cX5_start 12 = .ok (.iload_n 1, 1) := by decide +kernel
theorem dX5_start_13 : decode cX5_start 13 = .ok (.iaload, 1) := by decide +kernel
theorem dX5_start_14 : decode cX5_start 14 = .ok (.goto 4, 3) := by decide +kernel
theorem dX5_start_17 : decode cX5_start 17 = .ok (.iconst (-1), 1) := by decide +kernel
theorem dX5_start_18 : decode cX5_start 18 = .ok (.ireturn, 1) := by decide +kernel
theorem dX5_changed_0 : decode cX5_changed 0 = .ok (.iconst 0, 1) := by decide +kernel
theorem dX5_changed_1 : decode cX5_changed 1 = .ok (.istore_n 2, 1) := by decide +kernel
theorem dX5_changed_2 : decode cX5_changed 2 = .ok (.iconst 0, 1) := by decide +kernel
theorem dX5_changed_3 : decode cX5_changed 3 = .ok (.istore_n 3, 1) := by decide +kernel
theorem dX5_changed_4 : decode cX5_changed 4 = .ok (.iload_n 3, 1) := by decide +kernel
theorem dX5_changed_5 : decode cX5_changed 5 = .ok (.iconst 4, 1) := by decide +kernel
theorem dX5_changed_6 : decode cX5_changed 6 = .ok (.if_icmp .ge 28, 3) := by decide +kernel
theorem dX5_changed_9 : decode cX5_changed 9 = .ok (.aload_n 0, 1) := by decide +kernel
theorem dX5_changed_10 : decode cX5_changed 10 = .ok (.getfield 71, 3) := by decide +kernel
theorem dX5_changed_13 : decode cX5_changed 13 = .ok (.iload_n 3, 1) := by decide +kernel
theorem dX5_changed_14 : decode cX5_changed 14 = .ok (.baload, 1) := by decide +kernel
theorem dX5_changed_15 : decode cX5_changed 15 = .ok (.ifCond .eq 13, 3) := by decide +kernel
theorem dX5_changed_18 : decode cX5_changed 18 = .ok (.iload_n 2, 1) := by decide +kernel
theorem dX5_changed_19 : decode cX5_changed 19 = .ok (.iload_n 1, 1) := by decide +kernel
theorem dX5_changed_20 : decode cX5_changed 20 = .ok (.if_icmp .ne 5, 3) := by decide +kernel
theorem dX5_changed_23 : decode cX5_changed 23 = .ok (.iload_n 3, 1) := by decide +kernel
theorem dX5_changed_24 : decode cX5_changed 24 = .ok (.ireturn, 1) := by decide +kernel
theorem dX5_changed_25 : decode cX5_changed 25 = .ok (.iinc 2 1, 3) := by decide +kernel
theorem dX5_changed_28 : decode cX5_changed 28 = .ok (.iinc 3 1, 3) := by decide +kernel
theorem dX5_changed_31 : decode cX5_changed 31 = .ok (.goto (-27), 3) := by decide +kernel
theorem dX5_changed_34 : decode cX5_changed 34 = .ok (.iconst (-1), 1) := by decide +kernel
theorem dX5_changed_35 : decode cX5_changed 35 = .ok (.ireturn, 1) := by decide +kernel
theorem dX5_bound_0 : decode cX5_bound 0 = .ok (.aload_n 0, 1) := by decide +kernel
theorem dX5_bound_1 : decode cX5_bound 1 = .ok (.getfield 126, 3) := by decide +kernel
theorem dX5_bound_4 : decode cX5_bound 4 = .ok (.ireturn, 1) := by decide +kernel
theorem dX5_cost_0 : decode cX5_cost 0 = .ok (.aload_n 0, 1) := by decide +kernel
theorem dX5_cost_1 : decode cX5_cost 1 = .ok (.getfield 132, 3) := by decide +kernel
theorem dX5_cost_4 : decode cX5_cost 4 = .ok (.lreturn, 1) := by decide +kernel
theorem dX5_undo_0 : decode cX5_undo 0 = .ok (.aload_n 0, 1) := by decide +kernel
theorem dX5_undo_1 : decode cX5_undo 1 = .ok (.getfield 136, 3) := by decide +kernel
theorem dX5_undo_4 : decode cX5_undo 4 = .ok (.ifCond .ne 5, 3) := by decide +kernel
theorem dX5_undo_7 : decode cX5_undo 7 = .ok (.iconst 0, 1) := by decide +kernel
theorem dX5_undo_8 : decode cX5_undo 8 = .ok (.ireturn, 1) := by decide +kernel
theorem dX5_undo_9 : decode cX5_undo 9 = .ok (.aload_n 0, 1) := by decide +kernel
theorem dX5_undo_10 : decode cX5_undo 10 = .ok (.dup, 1) := by decide +kernel
theorem dX5_undo_11 : decode cX5_undo 11 = .ok (.getfield 136, 3) := by decide +kernel
theorem dX5_undo_14 : decode cX5_undo 14 = .ok (.iconst 1, 1) := by decide +kernel
theorem dX5_undo_15 : decode cX5_undo 15 = .ok (.isub, 1) := by decide +kernel
theorem dX5_undo_16 : decode cX5_undo 16 = .ok (.putfield 136, 3) := by decide +kernel
theorem dX5_undo_19 : decode cX5_undo 19 = .ok (.iconst 0, 1) := by decide +kernel
theorem dX5_undo_20 : decode cX5_undo 20 = .ok (.istore_n 1, 1) := by decide +kernel
theorem dX5_undo_21 : decode cX5_undo 21 = .ok (.iload_n 1, 1) := by decide +kernel
theorem dX5_undo_22 : decode cX5_undo 22 = .ok (.aload_n 0, 1) := by decide +kernel
theorem dX5_undo_23 : decode cX5_undo 23 = .ok (.getfield 47, 3) := by decide +kernel
theorem dX5_undo_26 : decode cX5_undo 26 = .ok (.aload_n 0, 1) := by decide +kernel
theorem dX5_undo_27 : decode cX5_undo 27 = .ok (.getfield 136, 3) := by decide +kernel
theorem dX5_undo_30 : decode cX5_undo 30 = .ok (.iaload, 1) := by decide +kernel
theorem dX5_undo_31 : decode cX5_undo 31 = .ok (.if_icmp .ge 55, 3) := by decide +kernel
theorem dX5_undo_34 : decode cX5_undo 34 = .ok (.aload_n 0, 1) := by decide +kernel
theorem dX5_undo_35 : decode cX5_undo 35 = .ok (.getfield 13, 3) := by decide +kernel
theorem dX5_undo_38 : decode cX5_undo 38 = .ok (.iload_n 1, 1) := by decide +kernel
theorem dX5_undo_39 : decode cX5_undo 39 = .ok (.aload_n 0, 1) := by decide +kernel
theorem dX5_undo_40 : decode cX5_undo 40 = .ok (.getfield 50, 3) := by decide +kernel
theorem dX5_undo_43 : decode cX5_undo 43 = .ok (.bipush 8, 2) := by decide +kernel
theorem dX5_undo_45 : decode cX5_undo 45 = .ok (.aload_n 0, 1) := by decide +kernel
theorem dX5_undo_46 : decode cX5_undo 46 = .ok (.getfield 136, 3) := by decide +kernel
theorem dX5_undo_49 : decode cX5_undo 49 = .ok (.imul, 1) := by decide +kernel
theorem dX5_undo_50 : decode cX5_undo 50 = .ok (.iconst 2, 1) := by decide +kernel
theorem dX5_undo_51 : decode cX5_undo 51 = .ok (.iload_n 1, 1) := by decide +kernel
theorem dX5_undo_52 : decode cX5_undo 52 = .ok (.imul, 1) := by decide +kernel
theorem dX5_undo_53 : decode cX5_undo 53 = .ok (.iadd, 1) := by decide +kernel
theorem dX5_undo_54 : decode cX5_undo 54 = .ok (.iaload, 1) := by decide +kernel
theorem dX5_undo_55 : decode cX5_undo 55 = .ok (.iastore, 1) := by decide +kernel
theorem dX5_undo_56 : decode cX5_undo 56 = .ok (.aload_n 0, 1) := by decide +kernel
theorem dX5_undo_57 : decode cX5_undo 57 = .ok (.getfield 16, 3) := by decide +kernel
theorem dX5_undo_60 : decode cX5_undo 60 = .ok (.iload_n 1, 1) := by decide +kernel
theorem dX5_undo_61 : decode cX5_undo 61 = .ok (.aload_n 0, 1) := by decide +kernel
theorem dX5_undo_62 : decode cX5_undo 62 = .ok (.getfield 50, 3) := by decide +kernel
theorem dX5_undo_65 : decode cX5_undo 65 = .ok (.bipush 8, 2) := by decide +kernel
theorem dX5_undo_67 : decode cX5_undo 67 = .ok (.aload_n 0, 1) := by decide +kernel
theorem dX5_undo_68 : decode cX5_undo 68 = .ok (.getfield 136, 3) := by decide +kernel
theorem dX5_undo_71 : decode cX5_undo 71 = .ok (.imul, 1) := by decide +kernel
theorem dX5_undo_72 : decode cX5_undo 72 = .ok (.iconst 2, 1) := by decide +kernel
theorem dX5_undo_73 : decode cX5_undo 73 = .ok (.iload_n 1, 1) := by decide +kernel
theorem dX5_undo_74 : decode cX5_undo 74 = .ok (.imul, 1) := by decide +kernel
theorem dX5_undo_75 : decode cX5_undo 75 = .ok (.iadd, 1) := by decide +kernel
theorem dX5_undo_76 : decode cX5_undo 76 = .ok (.iconst 1, 1) := by decide +kernel
theorem dX5_undo_77 : decode cX5_undo 77 = .ok (.iadd, 1) := by decide +kernel
theorem dX5_undo_78 : decode cX5_undo 78 = .ok (.iaload, 1) := by decide +kernel
theorem dX5_undo_79 : decode cX5_undo 79 = .ok (.iastore, 1) := by decide +kernel
theorem dX5_undo_80 : decode cX5_undo 80 = .ok (.iinc 1 1, 3) := by decide +kernel
theorem dX5_undo_83 : decode cX5_undo 83 = .ok (.goto (-62), 3) := by decide +kernel
theorem dX5_undo_86 : decode cX5_undo 86 = .ok (.iconst 1, 1) := by decide +kernel
theorem dX5_undo_87 : decode cX5_undo 87 = .ok (.ireturn, 1) := by decide +kernel
theorem dX5_copy_0 : decode cX5_copy 0 = .ok (.aload_n 0, 1) := by decide +kernel
theorem dX5_copy_1 : decode cX5_copy 1 = .ok (.getfield 139, 3) := by decide +kernel
theorem dX5_copy_4 : decode cX5_copy 4 = .ok (.bipush 8, 2) := by decide +kernel
theorem dX5_copy_6 : decode cX5_copy 6 = .ok (.if_icmp .ne 6, 3) := by decide +kernel
theorem dX5_copy_9 : decode cX5_copy 9 = .ok (.bipush (-2), 2) := by decide +kernel
theorem dX5_copy_11 : decode cX5_copy 11 = .ok (.ireturn, 1) := by decide +kernel
theorem dX5_copy_12 : decode cX5_copy 12 = .ok (.aload_n 0, 1) := by decide +kernel
theorem dX5_copy_13 : decode cX5_copy 13 = .ok (.getfield 53, 3) := by decide +kernel
theorem dX5_copy_16 : decode cX5_copy 16 = .ok (.aload_n 0, 1) := by decide +kernel
theorem dX5_copy_17 : decode cX5_copy 17 = .ok (.getfield 139, 3) := by decide +kernel
theorem dX5_copy_20 : decode cX5_copy 20 = .ok (.aload_n 0, 1) := by decide +kernel
theorem dX5_copy_21 : decode cX5_copy 21 = .ok (.getfield 81, 3) := by decide +kernel
theorem dX5_copy_24 : decode cX5_copy 24 = .ok (.iastore, 1) := by decide +kernel
theorem dX5_copy_25 : decode cX5_copy 25 = .ok (.iconst 0, 1) := by decide +kernel
theorem dX5_copy_26 : decode cX5_copy 26 = .ok (.istore_n 1, 1) := by decide +kernel
theorem dX5_copy_27 : decode cX5_copy 27 = .ok (.iload_n 1, 1) := by decide +kernel
theorem dX5_copy_28 : decode cX5_copy 28 = .ok (.aload_n 0, 1) := by decide +kernel
theorem dX5_copy_29 : decode cX5_copy 29 = .ok (.getfield 81, 3) := by decide +kernel
theorem dX5_copy_32 : decode cX5_copy 32 = .ok (.if_icmp .ge 55, 3) := by decide +kernel
theorem dX5_copy_35 : decode cX5_copy 35 = .ok (.aload_n 0, 1) := by decide +kernel
theorem dX5_copy_36 : decode cX5_copy 36 = .ok (.getfield 56, 3) := by decide +kernel
theorem dX5_copy_39 : decode cX5_copy 39 = .ok (.bipush 8, 2) := by decide +kernel
theorem dX5_copy_41 : decode cX5_copy 41 = .ok (.aload_n 0, 1) := by decide +kernel
theorem dX5_copy_42 : decode cX5_copy 42 = .ok (.getfield 139, 3) := by decide +kernel
theorem dX5_copy_45 : decode cX5_copy 45 = .ok (.imul, 1) := by decide +kernel
theorem dX5_copy_46 : decode cX5_copy 46 = .ok (.iconst 2, 1) := by decide +kernel
theorem dX5_copy_47 : decode cX5_copy 47 = .ok (.iload_n 1, 1) := by decide +kernel
theorem dX5_copy_48 : decode cX5_copy 48 = .ok (.imul, 1) := by decide +kernel
theorem dX5_copy_49 : decode cX5_copy 49 = .ok (.iadd, 1) := by decide +kernel
theorem dX5_copy_50 : decode cX5_copy 50 = .ok (.aload_n 0, 1) := by decide +kernel
theorem dX5_copy_51 : decode cX5_copy 51 = .ok (.getfield 13, 3) := by decide +kernel
theorem dX5_copy_54 : decode cX5_copy 54 = .ok (.iload_n 1, 1) := by decide +kernel
theorem dX5_copy_55 : decode cX5_copy 55 = .ok (.iaload, 1) := by decide +kernel
theorem dX5_copy_56 : decode cX5_copy 56 = .ok (.iastore, 1) := by decide +kernel
theorem dX5_copy_57 : decode cX5_copy 57 = .ok (.aload_n 0, 1) := by decide +kernel
theorem dX5_copy_58 : decode cX5_copy 58 = .ok (.getfield 56, 3) := by decide +kernel
theorem dX5_copy_61 : decode cX5_copy 61 = .ok (.bipush 8, 2) := by decide +kernel
theorem dX5_copy_63 : decode cX5_copy 63 = .ok (.aload_n 0, 1) := by decide +kernel
theorem dX5_copy_64 : decode cX5_copy 64 = .ok (.getfield 139, 3) := by decide +kernel
theorem dX5_copy_67 : decode cX5_copy 67 = .ok (.imul, 1) := by decide +kernel
theorem dX5_copy_68 : decode cX5_copy 68 = .ok (.iconst 2, 1) := by decide +kernel
theorem dX5_copy_69 : decode cX5_copy 69 = .ok (.iload_n 1, 1) := by decide +kernel
theorem dX5_copy_70 : decode cX5_copy 70 = .ok (.imul, 1) := by decide +kernel
theorem dX5_copy_71 : decode cX5_copy 71 = .ok (.iadd, 1) := by decide +kernel
theorem dX5_copy_72 : decode cX5_copy 72 = .ok (.iconst 1, 1) := by decide +kernel
theorem dX5_copy_73 : decode cX5_copy 73 = .ok (.iadd, 1) := by decide +kernel
theorem dX5_copy_74 : decode cX5_copy 74 = .ok (.aload_n 0, 1) := by decide +kernel
theorem dX5_copy_75 : decode cX5_copy 75 = .ok (.getfield 16, 3) := by decide +kernel
theorem dX5_copy_78 : decode cX5_copy 78 = .ok (.iload_n 1, 1) := by decide +kernel
theorem dX5_copy_79 : decode cX5_copy 79 = .ok (.iaload, 1) := by decide +kernel
theorem dX5_copy_80 : decode cX5_copy 80 = .ok (.iastore, 1) := by decide +kernel
theorem dX5_copy_81 : decode cX5_copy 81 = .ok (.iinc 1 1, 3) := by decide +kernel
theorem dX5_copy_84 : decode cX5_copy 84 = .ok (.goto (-57), 3) := by decide +kernel
theorem dX5_copy_87 : decode cX5_copy 87 = .ok (.aload_n 0, 1) := by decide +kernel
theorem dX5_copy_88 : decode cX5_copy 88 = .ok (.dup, 1) := by decide +kernel
theorem dX5_copy_89 : decode cX5_copy 89 = .ok (.getfield 139, 3) := by decide +kernel
theorem dX5_copy_92 : decode cX5_copy 92 = .ok (.iconst 1, 1) := by decide +kernel
theorem dX5_copy_93 : decode cX5_copy 93 = .ok (.iadd, 1) := by decide +kernel
theorem dX5_copy_94 : decode cX5_copy 94 = .ok (.putfield 139, 3) := by decide +kernel
theorem dX5_copy_97 : decode cX5_copy 97 = .ok (.aload_n 0, 1) := by decide +kernel
theorem dX5_copy_98 : decode cX5_copy 98 = .ok (.getfield 139, 3) := by decide +kernel
theorem dX5_copy_101 : decode cX5_copy 101 = .ok (.iconst 1, 1) := by decide +kernel
theorem dX5_copy_102 : decode cX5_copy 102 = .ok (.isub, 1) := by decide +kernel
theorem dX5_copy_103 : decode cX5_copy 103 = .ok (.ireturn, 1) := by decide +kernel
theorem dX5_compare_0 : decode cX5_compare 0 = .ok (.iload_n 1, 1) := by decide +kernel
theorem dX5_compare_1 : decode cX5_compare 1 = .ok (.ifCond .lt 11, 3) := by decide +kernel
theorem dX5_compare_4 : decode cX5_compare 4 = .ok (.iload_n 1, 1) := by decide +kernel
theorem dX5_compare_5 : decode cX5_compare 5 = .ok (.aload_n 0, 1) := by decide +kernel
theorem dX5_compare_6 : decode cX5_compare 6 = .ok (.getfield 139, 3) := by decide +kernel
theorem dX5_compare_9 : decode cX5_compare 9 = .ok (.if_icmp .lt 5, 3) := by decide +kernel
theorem dX5_compare_12 : decode cX5_compare 12 = .ok (.iconst (-1), 1) := by decide +kernel
theorem dX5_compare_13 : decode cX5_compare 13 = .ok (.ireturn, 1) := by decide +kernel
theorem dX5_compare_14 : decode cX5_compare 14 = .ok (.iconst 0, 1) := by decide +kernel
theorem dX5_compare_15 : decode cX5_compare 15 = .ok (.istore_n 3, 1) := by decide +kernel
theorem dX5_compare_16 : decode cX5_compare 16 = .ok (.iconst 0, 1) := by decide +kernel
theorem dX5_compare_17 : decode cX5_compare 17 = .ok (.istore 4, 2) := by decide +kernel
theorem dX5_compare_19 : decode cX5_compare 19 = .ok (.iload 4, 2) := by decide +kernel
theorem dX5_compare_21 : decode cX5_compare 21 = .ok (.aload_n 0, 1) := by decide +kernel
theorem dX5_compare_22 : decode cX5_compare 22 = .ok (.getfield 81, 3) := by decide +kernel
theorem dX5_compare_25 : decode cX5_compare 25 = .ok (.if_icmp .ge 93, 3) := by decide +kernel
theorem dX5_compare_28 : decode cX5_compare 28 = .ok (.iload 4, 2) := by decide +kernel
theorem dX5_compare_30 : decode cX5_compare 30 = .ok (.aload_n 0, 1) := by decide +kernel
theorem dX5_compare_31 : decode cX5_compare 31 = .ok (.getfield 53, 3) := by decide +kernel
theorem dX5_compare_34 : decode cX5_compare 34 = .ok (.iload_n 1, 1) := by decide +kernel
theorem dX5_compare_35 : decode cX5_compare 35 = .ok (.iaload, 1) := by decide +kernel
theorem dX5_compare_36 : decode cX5_compare 36 = .ok (.if_icmp .ge 53, 3) := by decide +kernel
theorem dX5_compare_39 : decode cX5_compare 39 = .ok (.aload_n 0, 1) := by decide +kernel
theorem dX5_compare_40 : decode cX5_compare 40 = .ok (.getfield 56, 3) := by decide +kernel
theorem dX5_compare_43 : decode cX5_compare 43 = .ok (.bipush 8, 2) := by decide +kernel
theorem dX5_compare_45 : decode cX5_compare 45 = .ok (.iload_n 1, 1) := by decide +kernel
theorem dX5_compare_46 : decode cX5_compare 46 = .ok (.imul, 1) := by decide +kernel
theorem dX5_compare_47 : decode cX5_compare 47 = .ok (.iconst 2, 1) := by decide +kernel
theorem dX5_compare_48 : decode cX5_compare 48 = .ok (.iload 4, 2) := by decide +kernel
theorem dX5_compare_50 : decode cX5_compare 50 = .ok (.imul, 1) := by decide +kernel
theorem dX5_compare_51 : decode cX5_compare 51 = .ok (.iadd, 1) := by decide +kernel
theorem dX5_compare_52 : decode cX5_compare 52 = .ok (.iaload, 1) := by decide +kernel
theorem dX5_compare_53 : decode cX5_compare 53 = .ok (.aload_n 0, 1) := by decide +kernel
theorem dX5_compare_54 : decode cX5_compare 54 = .ok (.getfield 13, 3) := by decide +kernel
theorem dX5_compare_57 : decode cX5_compare 57 = .ok (.iload 4, 2) := by decide +kernel
theorem dX5_compare_59 : decode cX5_compare 59 = .ok (.iaload, 1) := by decide +kernel
theorem dX5_compare_60 : decode cX5_compare 60 = .ok (.if_icmp .ne 29, 3) := by decide +kernel
theorem dX5_compare_63 : decode cX5_compare 63 = .ok (.aload_n 0, 1) := by decide +kernel
theorem dX5_compare_64 : decode cX5_compare 64 = .ok (.getfield 56, 3) := by decide +kernel
theorem dX5_compare_67 : decode cX5_compare 67 = .ok (.bipush 8, 2) := by decide +kernel
theorem dX5_compare_69 : decode cX5_compare 69 = .ok (.iload_n 1, 1) := by decide +kernel
theorem dX5_compare_70 : decode cX5_compare 70 = .ok (.imul, 1) := by decide +kernel
theorem dX5_compare_71 : decode cX5_compare 71 = .ok (.iconst 2, 1) := by decide +kernel
theorem dX5_compare_72 : decode cX5_compare 72 = .ok (.iload 4, 2) := by decide +kernel
theorem dX5_compare_74 : decode cX5_compare 74 = .ok (.imul, 1) := by decide +kernel
theorem dX5_compare_75 : decode cX5_compare 75 = .ok (.iadd, 1) := by decide +kernel
theorem dX5_compare_76 : decode cX5_compare 76 = .ok (.iconst 1, 1) := by decide +kernel
theorem dX5_compare_77 : decode cX5_compare 77 = .ok (.iadd, 1) := by decide +kernel
theorem dX5_compare_78 : decode cX5_compare 78 = .ok (.iaload, 1) := by decide +kernel
theorem dX5_compare_79 : decode cX5_compare 79 = .ok (.aload_n 0, 1) := by decide +kernel
theorem dX5_compare_80 : decode cX5_compare 80 = .ok (.getfield 16, 3) := by decide +kernel
theorem dX5_compare_83 : decode cX5_compare 83 = .ok (.iload 4, 2) := by decide +kernel
theorem dX5_compare_85 : decode cX5_compare 85 = .ok (.iaload, 1) := by decide +kernel
theorem dX5_compare_86 : decode cX5_compare 86 = .ok (.if_icmp .eq 7, 3) := by decide +kernel
theorem dX5_compare_89 : decode cX5_compare 89 = .ok (.iconst 1, 1) := by decide +kernel
theorem dX5_compare_90 : decode cX5_compare 90 = .ok (.goto 4, 3) := by decide +kernel
theorem dX5_compare_93 : decode cX5_compare 93 = .ok (.iconst 0, 1) := by decide +kernel
theorem dX5_compare_94 : decode cX5_compare 94 = .ok (.istore 5, 2) := by decide +kernel
theorem dX5_compare_96 : decode cX5_compare 96 = .ok (.iload 5, 2) := by decide +kernel
theorem dX5_compare_98 : decode cX5_compare 98 = .ok (.ifCond .eq 14, 3) := by decide +kernel
theorem dX5_compare_101 : decode cX5_compare 101 = .ok (.iload_n 3, 1) := by decide +kernel
theorem dX5_compare_102 : decode cX5_compare 102 = .ok (.iload_n 2, 1) := by decide +kernel
theorem dX5_compare_103 : decode cX5_compare 103 = .ok (.if_icmp .ne 6, 3) := by decide +kernel
theorem dX5_compare_106 : decode cX5_compare 106 = .ok (.iload 4, 2) := by decide +kernel
theorem dX5_compare_108 : decode cX5_compare 108 = .ok (.ireturn, 1) := by decide +kernel
theorem dX5_compare_109 : decode cX5_compare 109 = .ok (.iinc 3 1, 3) := by decide +kernel
theorem dX5_compare_112 : decode cX5_compare 112 = .ok (.iinc 4 1, 3) := by decide +kernel
theorem dX5_compare_115 : decode cX5_compare 115 = .ok (.goto (-96), 3) := by decide +kernel
theorem dX5_compare_118 : decode cX5_compare 118 = .ok (.iconst (-1), 1) := by decide +kernel
theorem dX5_compare_119 : decode cX5_compare 119 = .ok (.ireturn, 1) := by decide +kernel
theorem dL_law_0 : decode cL_law 0 = .ok (.new 7, 3) := by decide +kernel
theorem dL_law_3 : decode cL_law 3 = .ok (.dup, 1) := by decide +kernel
theorem dL_law_4 : decode cL_law 4 = .ok (.aload_n 0, 1) := by decide +kernel
theorem dL_law_5 : decode cL_law 5 = .ok (.iconst 0, 1) := by decide +kernel
theorem dL_law_6 : decode cL_law 6 = .ok (.invokestatic 9, 3) := by decide +kernel
theorem dL_law_9 : decode cL_law 9 = .ok (.aload_n 0, 1) := by decide +kernel
theorem dL_law_10 : decode cL_law 10 = .ok (.iconst 1, 1) := by decide +kernel
theorem dL_law_11 : decode cL_law 11 = .ok (.invokestatic 9, 3) := by decide +kernel
theorem dL_law_14 : decode cL_law 14 = .ok (.invokespecial 15, 3) := by decide +kernel
theorem dL_law_17 : decode cL_law 17 = .ok (.astore_n 1, 1) := by decide +kernel
theorem dL_law_18 : decode cL_law 18 = .ok (.new 18, 3) := by decide +kernel
theorem dL_law_21 : decode cL_law 21 = .ok (.dup, 1) := by decide +kernel
theorem dL_law_22 : decode cL_law 22 = .ok (.aload_n 0, 1) := by decide +kernel
theorem dL_law_23 : decode cL_law 23 = .ok (.iconst 0, 1) := by decide +kernel
theorem dL_law_24 : decode cL_law 24 = .ok (.invokestatic 9, 3) := by decide +kernel
theorem dL_law_27 : decode cL_law 27 = .ok (.aload_n 0, 1) := by decide +kernel
theorem dL_law_28 : decode cL_law 28 = .ok (.iconst 1, 1) := by decide +kernel
theorem dL_law_29 : decode cL_law 29 = .ok (.invokestatic 9, 3) := by decide +kernel
theorem dL_law_32 : decode cL_law 32 = .ok (.invokespecial 20, 3) := by decide +kernel
theorem dL_law_35 : decode cL_law 35 = .ok (.astore_n 2, 1) := by decide +kernel
theorem dL_law_36 : decode cL_law 36 = .ok (.iconst 2, 1) := by decide +kernel
theorem dL_law_37 : decode cL_law 37 = .ok (.istore_n 3, 1) := by decide +kernel
theorem dL_law_38 : decode cL_law 38 = .ok (.iload_n 3, 1) := by decide +kernel
theorem dL_law_39 : decode cL_law 39 = .ok (.aload_n 0, 1) := by decide +kernel
theorem dL_law_40 : decode cL_law 40 = .ok (.arraylength, 1) := by decide +kernel
theorem dL_law_41 : decode cL_law 41 = .ok (.iconst 5, 1) := by decide +kernel
theorem dL_law_42 : decode cL_law 42 = .ok (.isub, 1) := by decide +kernel
theorem dL_law_43 : decode cL_law 43 = .ok (.if_icmp .gt 490, 3) := by decide +kernel
theorem dL_law_46 : decode cL_law 46 = .ok (.aload_n 0, 1) := by decide +kernel
theorem dL_law_47 : decode cL_law 47 = .ok (.iload_n 3, 1) := by decide +kernel
theorem dL_law_48 : decode cL_law 48 = .ok (.iaload, 1) := by decide +kernel
theorem dL_law_49 : decode cL_law 49 = .ok (.bipush 15, 2) := by decide +kernel
theorem dL_law_51 : decode cL_law 51 = .ok (.iand, 1) := by decide +kernel
theorem dL_law_52 : decode cL_law 52 = .ok (.tableswitch 475 0 13 #[72, 115, 168, 191, 234, 267, 320, 343, 366, 389, 402, 415, 428, 461], 72) := by decide +kernel
theorem dL_law_124 : decode cL_law 124 = .ok (.aload_n 1, 1) := by decide +kernel
theorem dL_law_125 : decode cL_law 125 = .ok (.aload_n 0, 1) := by decide +kernel
theorem dL_law_126 : decode cL_law 126 = .ok (.iload_n 3, 1) := by decide +kernel
theorem dL_law_127 : decode cL_law 127 = .ok (.iconst 1, 1) := by decide +kernel
theorem dL_law_128 : decode cL_law 128 = .ok (.iadd, 1) := by decide +kernel
theorem dL_law_129 : decode cL_law 129 = .ok (.iaload, 1) := by decide +kernel
theorem dL_law_130 : decode cL_law 130 = .ok (.aload_n 0, 1) := by decide +kernel
theorem dL_law_131 : decode cL_law 131 = .ok (.iload_n 3, 1) := by decide +kernel
theorem dL_law_132 : decode cL_law 132 = .ok (.iconst 2, 1) := by decide +kernel
theorem dL_law_133 : decode cL_law 133 = .ok (.iadd, 1) := by decide +kernel
theorem dL_law_134 : decode cL_law 134 = .ok (.iaload, 1) := by decide +kernel
theorem dL_law_135 : decode cL_law 135 = .ok (.aload_n 0, 1) := by decide +kernel
theorem dL_law_136 : decode cL_law 136 = .ok (.iload_n 3, 1) := by decide +kernel
theorem dL_law_137 : decode cL_law 137 = .ok (.iconst 3, 1) := by decide +kernel
theorem dL_law_138 : decode cL_law 138 = .ok (.iadd, 1) := by decide +kernel
theorem dL_law_139 : decode cL_law 139 = .ok (.iaload, 1) := by decide +kernel
theorem dL_law_140 : decode cL_law 140 = .ok (.invokevirtual 21, 3) := by decide +kernel
theorem dL_law_143 : decode cL_law 143 = .ok (.aload_n 2, 1) := by decide +kernel
theorem dL_law_144 : decode cL_law 144 = .ok (.aload_n 0, 1) := by decide +kernel
theorem dL_law_145 : decode cL_law 145 = .ok (.iload_n 3, 1) := by decide +kernel
theorem dL_law_146 : decode cL_law 146 = .ok (.iconst 1, 1) := by decide +kernel
theorem dL_law_147 : decode cL_law 147 = .ok (.iadd, 1) := by decide +kernel
theorem dL_law_148 : decode cL_law 148 = .ok (.iaload, 1) := by decide +kernel
theorem dL_law_149 : decode cL_law 149 = .ok (.aload_n 0, 1) := by decide +kernel
theorem dL_law_150 : decode cL_law 150 = .ok (.iload_n 3, 1) := by decide +kernel
theorem dL_law_151 : decode cL_law 151 = .ok (.iconst 2, 1) := by decide +kernel
theorem dL_law_152 : decode cL_law 152 = .ok (.iadd, 1) := by decide +kernel
theorem dL_law_153 : decode cL_law 153 = .ok (.iaload, 1) := by decide +kernel
theorem dL_law_154 : decode cL_law 154 = .ok (.aload_n 0, 1) := by decide +kernel
theorem dL_law_155 : decode cL_law 155 = .ok (.iload_n 3, 1) := by decide +kernel
theorem dL_law_156 : decode cL_law 156 = .ok (.iconst 3, 1) := by decide +kernel
theorem dL_law_157 : decode cL_law 157 = .ok (.iadd, 1) := by decide +kernel
theorem dL_law_158 : decode cL_law 158 = .ok (.iaload, 1) := by decide +kernel
theorem dL_law_159 : decode cL_law 159 = .ok (.invokevirtual 25, 3) := by decide +kernel
theorem dL_law_162 : decode cL_law 162 = .ok (.if_icmp .eq 365, 3) := by decide +kernel
theorem dL_law_165 : decode cL_law 165 = .ok (.iconst 0, 1) := by decide +kernel
theorem dL_law_166 : decode cL_law 166 = .ok (.ireturn, 1) := by decide +kernel
theorem dL_law_167 : decode cL_law 167 = .ok (.aload_n 1, 1) := by decide +kernel
theorem dL_law_168 : decode cL_law 168 = .ok (.aload_n 0, 1) := by decide +kernel
theorem dL_law_169 : decode cL_law 169 = .ok (.iload_n 3, 1) := by decide +kernel
theorem dL_law_170 : decode cL_law 170 = .ok (.iconst 1, 1) := by decide +kernel
theorem dL_law_171 : decode cL_law 171 = .ok (.iadd, 1) := by decide +kernel
theorem dL_law_172 : decode cL_law 172 = .ok (.iaload, 1) := by decide +kernel
theorem dL_law_173 : decode cL_law 173 = .ok (.aload_n 0, 1) := by decide +kernel
theorem dL_law_174 : decode cL_law 174 = .ok (.iload_n 3, 1) := by decide +kernel
theorem dL_law_175 : decode cL_law 175 = .ok (.iconst 2, 1) := by decide +kernel
theorem dL_law_176 : decode cL_law 176 = .ok (.iadd, 1) := by decide +kernel
theorem dL_law_177 : decode cL_law 177 = .ok (.iaload, 1) := by decide +kernel
theorem dL_law_178 : decode cL_law 178 = .ok (.aload_n 0, 1) := by decide +kernel
theorem dL_law_179 : decode cL_law 179 = .ok (.iload_n 3, 1) := by decide +kernel
theorem dL_law_180 : decode cL_law 180 = .ok (.iconst 3, 1) := by decide +kernel
theorem dL_law_181 : decode cL_law 181 = .ok (.iadd, 1) := by decide +kernel
theorem dL_law_182 : decode cL_law 182 = .ok (.iaload, 1) := by decide +kernel
theorem dL_law_183 : decode cL_law 183 = .ok (.aload_n 0, 1) := by decide +kernel
theorem dL_law_184 : decode cL_law 184 = .ok (.iload_n 3, 1) := by decide +kernel
theorem dL_law_185 : decode cL_law 185 = .ok (.iconst 4, 1) := by decide +kernel
theorem dL_law_186 : decode cL_law 186 = .ok (.iadd, 1) := by decide +kernel
theorem dL_law_187 : decode cL_law 187 = .ok (.iaload, 1) := by decide +kernel
theorem dL_law_188 : decode cL_law 188 = .ok (.invokevirtual 26, 3) := by decide +kernel
theorem dL_law_191 : decode cL_law 191 = .ok (.aload_n 2, 1) := by decide +kernel
theorem dL_law_192 : decode cL_law 192 = .ok (.aload_n 0, 1) := by decide +kernel
theorem dL_law_193 : decode cL_law 193 = .ok (.iload_n 3, 1) := by decide +kernel
theorem dL_law_194 : decode cL_law 194 = .ok (.iconst 1, 1) := by decide +kernel
theorem dL_law_195 : decode cL_law 195 = .ok (.iadd, 1) := by decide +kernel
theorem dL_law_196 : decode cL_law 196 = .ok (.iaload, 1) := by decide +kernel
theorem dL_law_197 : decode cL_law 197 = .ok (.aload_n 0, 1) := by decide +kernel
theorem dL_law_198 : decode cL_law 198 = .ok (.iload_n 3, 1) := by decide +kernel
theorem dL_law_199 : decode cL_law 199 = .ok (.iconst 2, 1) := by decide +kernel
theorem dL_law_200 : decode cL_law 200 = .ok (.iadd, 1) := by decide +kernel
theorem dL_law_201 : decode cL_law 201 = .ok (.iaload, 1) := by decide +kernel
theorem dL_law_202 : decode cL_law 202 = .ok (.aload_n 0, 1) := by decide +kernel
theorem dL_law_203 : decode cL_law 203 = .ok (.iload_n 3, 1) := by decide +kernel
theorem dL_law_204 : decode cL_law 204 = .ok (.iconst 3, 1) := by decide +kernel
theorem dL_law_205 : decode cL_law 205 = .ok (.iadd, 1) := by decide +kernel
theorem dL_law_206 : decode cL_law 206 = .ok (.iaload, 1) := by decide +kernel
theorem dL_law_207 : decode cL_law 207 = .ok (.aload_n 0, 1) := by decide +kernel
theorem dL_law_208 : decode cL_law 208 = .ok (.iload_n 3, 1) := by decide +kernel
theorem dL_law_209 : decode cL_law 209 = .ok (.iconst 4, 1) := by decide +kernel
theorem dL_law_210 : decode cL_law 210 = .ok (.iadd, 1) := by decide +kernel
theorem dL_law_211 : decode cL_law 211 = .ok (.iaload, 1) := by decide +kernel
theorem dL_law_212 : decode cL_law 212 = .ok (.invokevirtual 30, 3) := by decide +kernel
theorem dL_law_215 : decode cL_law 215 = .ok (.if_icmp .eq 312, 3) := by decide +kernel
theorem dL_law_218 : decode cL_law 218 = .ok (.iconst 0, 1) := by decide +kernel
theorem dL_law_219 : decode cL_law 219 = .ok (.ireturn, 1) := by decide +kernel
theorem dL_law_220 : decode cL_law 220 = .ok (.aload_n 1, 1) := by decide +kernel
theorem dL_law_221 : decode cL_law 221 = .ok (.aload_n 0, 1) := by decide +kernel
theorem dL_law_222 : decode cL_law 222 = .ok (.iload_n 3, 1) := by decide +kernel
theorem dL_law_223 : decode cL_law 223 = .ok (.iconst 1, 1) := by decide +kernel
theorem dL_law_224 : decode cL_law 224 = .ok (.iadd, 1) := by decide +kernel
theorem dL_law_225 : decode cL_law 225 = .ok (.iaload, 1) := by decide +kernel
theorem dL_law_226 : decode cL_law 226 = .ok (.invokevirtual 31, 3) := by decide +kernel
theorem dL_law_229 : decode cL_law 229 = .ok (.aload_n 2, 1) := by decide +kernel
theorem dL_law_230 : decode cL_law 230 = .ok (.aload_n 0, 1) := by decide +kernel
theorem dL_law_231 : decode cL_law 231 = .ok (.iload_n 3, 1) := by decide +kernel
theorem dL_law_232 : decode cL_law 232 = .ok (.iconst 1, 1) := by decide +kernel
theorem dL_law_233 : decode cL_law 233 = .ok (.iadd, 1) := by decide +kernel
theorem dL_law_234 : decode cL_law 234 = .ok (.iaload, 1) := by decide +kernel
theorem dL_law_235 : decode cL_law 235 = .ok (.invokevirtual 35, 3) := by decide +kernel
theorem dL_law_238 : decode cL_law 238 = .ok (.if_icmp .eq 289, 3) := by decide +kernel
theorem dL_law_241 : decode cL_law 241 = .ok (.iconst 0, 1) := by decide +kernel
theorem dL_law_242 : decode cL_law 242 = .ok (.ireturn, 1) := by decide +kernel
theorem dL_law_243 : decode cL_law 243 = .ok (.aload_n 1, 1) := by decide +kernel
theorem dL_law_244 : decode cL_law 244 = .ok (.aload_n 0, 1) := by decide +kernel
theorem dL_law_245 : decode cL_law 245 = .ok (.iload_n 3, 1) := by decide +kernel
theorem dL_law_246 : decode cL_law 246 = .ok (.iconst 1, 1) := by decide +kernel
theorem dL_law_247 : decode cL_law 247 = .ok (.iadd, 1) := by decide +kernel
theorem dL_law_248 : decode cL_law 248 = .ok (.iaload, 1) := by decide +kernel
theorem dL_law_249 : decode cL_law 249 = .ok (.aload_n 0, 1) := by decide +kernel
theorem dL_law_250 : decode cL_law 250 = .ok (.iload_n 3, 1) := by decide +kernel
theorem dL_law_251 : decode cL_law 251 = .ok (.iconst 2, 1) := by decide +kernel
theorem dL_law_252 : decode cL_law 252 = .ok (.iadd, 1) := by decide +kernel
theorem dL_law_253 : decode cL_law 253 = .ok (.iaload, 1) := by decide +kernel
theorem dL_law_254 : decode cL_law 254 = .ok (.aload_n 0, 1) := by decide +kernel
theorem dL_law_255 : decode cL_law 255 = .ok (.iload_n 3, 1) := by decide +kernel
theorem dL_law_256 : decode cL_law 256 = .ok (.iconst 3, 1) := by decide +kernel
theorem dL_law_257 : decode cL_law 257 = .ok (.iadd, 1) := by decide +kernel
theorem dL_law_258 : decode cL_law 258 = .ok (.iaload, 1) := by decide +kernel
theorem dL_law_259 : decode cL_law 259 = .ok (.invokevirtual 36, 3) := by decide +kernel
theorem dL_law_262 : decode cL_law 262 = .ok (.aload_n 2, 1) := by decide +kernel
theorem dL_law_263 : decode cL_law 263 = .ok (.aload_n 0, 1) := by decide +kernel
theorem dL_law_264 : decode cL_law 264 = .ok (.iload_n 3, 1) := by decide +kernel
theorem dL_law_265 : decode cL_law 265 = .ok (.iconst 1, 1) := by decide +kernel
theorem dL_law_266 : decode cL_law 266 = .ok (.iadd, 1) := by decide +kernel
theorem dL_law_267 : decode cL_law 267 = .ok (.iaload, 1) := by decide +kernel
theorem dL_law_268 : decode cL_law 268 = .ok (.aload_n 0, 1) := by decide +kernel
theorem dL_law_269 : decode cL_law 269 = .ok (.iload_n 3, 1) := by decide +kernel
theorem dL_law_270 : decode cL_law 270 = .ok (.iconst 2, 1) := by decide +kernel
theorem dL_law_271 : decode cL_law 271 = .ok (.iadd, 1) := by decide +kernel
theorem dL_law_272 : decode cL_law 272 = .ok (.iaload, 1) := by decide +kernel
theorem dL_law_273 : decode cL_law 273 = .ok (.aload_n 0, 1) := by decide +kernel
theorem dL_law_274 : decode cL_law 274 = .ok (.iload_n 3, 1) := by decide +kernel
theorem dL_law_275 : decode cL_law 275 = .ok (.iconst 3, 1) := by decide +kernel
theorem dL_law_276 : decode cL_law 276 = .ok (.iadd, 1) := by decide +kernel
theorem dL_law_277 : decode cL_law 277 = .ok (.iaload, 1) := by decide +kernel
theorem dL_law_278 : decode cL_law 278 = .ok (.invokevirtual 40, 3) := by decide +kernel
theorem dL_law_281 : decode cL_law 281 = .ok (.if_icmp .eq 246, 3) := by decide +kernel
theorem dL_law_284 : decode cL_law 284 = .ok (.iconst 0, 1) := by decide +kernel
theorem dL_law_285 : decode cL_law 285 = .ok (.ireturn, 1) := by decide +kernel
theorem dL_law_286 : decode cL_law 286 = .ok (.aload_n 1, 1) := by decide +kernel
theorem dL_law_287 : decode cL_law 287 = .ok (.aload_n 0, 1) := by decide +kernel
theorem dL_law_288 : decode cL_law 288 = .ok (.iload_n 3, 1) := by decide +kernel
theorem dL_law_289 : decode cL_law 289 = .ok (.iconst 1, 1) := by decide +kernel
theorem dL_law_290 : decode cL_law 290 = .ok (.iadd, 1) := by decide +kernel
theorem dL_law_291 : decode cL_law 291 = .ok (.iaload, 1) := by decide +kernel
theorem dL_law_292 : decode cL_law 292 = .ok (.aload_n 0, 1) := by decide +kernel
theorem dL_law_293 : decode cL_law 293 = .ok (.iload_n 3, 1) := by decide +kernel
theorem dL_law_294 : decode cL_law 294 = .ok (.iconst 2, 1) := by decide +kernel
theorem dL_law_295 : decode cL_law 295 = .ok (.iadd, 1) := by decide +kernel
theorem dL_law_296 : decode cL_law 296 = .ok (.iaload, 1) := by decide +kernel
theorem dL_law_297 : decode cL_law 297 = .ok (.invokevirtual 41, 3) := by decide +kernel
theorem dL_law_300 : decode cL_law 300 = .ok (.aload_n 2, 1) := by decide +kernel
theorem dL_law_301 : decode cL_law 301 = .ok (.aload_n 0, 1) := by decide +kernel
theorem dL_law_302 : decode cL_law 302 = .ok (.iload_n 3, 1) := by decide +kernel
theorem dL_law_303 : decode cL_law 303 = .ok (.iconst 1, 1) := by decide +kernel
theorem dL_law_304 : decode cL_law 304 = .ok (.iadd, 1) := by decide +kernel
theorem dL_law_305 : decode cL_law 305 = .ok (.iaload, 1) := by decide +kernel
theorem dL_law_306 : decode cL_law 306 = .ok (.aload_n 0, 1) := by decide +kernel
theorem dL_law_307 : decode cL_law 307 = .ok (.iload_n 3, 1) := by decide +kernel
theorem dL_law_308 : decode cL_law 308 = .ok (.iconst 2, 1) := by decide +kernel
theorem dL_law_309 : decode cL_law 309 = .ok (.iadd, 1) := by decide +kernel
theorem dL_law_310 : decode cL_law 310 = .ok (.iaload, 1) := by decide +kernel
theorem dL_law_311 : decode cL_law 311 = .ok (.invokevirtual 45, 3) := by decide +kernel
theorem dL_law_314 : decode cL_law 314 = .ok (.if_icmp .eq 213, 3) := by decide +kernel
theorem dL_law_317 : decode cL_law 317 = .ok (.iconst 0, 1) := by decide +kernel
theorem dL_law_318 : decode cL_law 318 = .ok (.ireturn, 1) := by decide +kernel
theorem dL_law_319 : decode cL_law 319 = .ok (.aload_n 1, 1) := by decide +kernel
theorem dL_law_320 : decode cL_law 320 = .ok (.aload_n 0, 1) := by decide +kernel
theorem dL_law_321 : decode cL_law 321 = .ok (.iload_n 3, 1) := by decide +kernel
theorem dL_law_322 : decode cL_law 322 = .ok (.iconst 1, 1) := by decide +kernel
theorem dL_law_323 : decode cL_law 323 = .ok (.iadd, 1) := by decide +kernel
theorem dL_law_324 : decode cL_law 324 = .ok (.iaload, 1) := by decide +kernel
theorem dL_law_325 : decode cL_law 325 = .ok (.i2l, 1) := by decide +kernel
theorem dL_law_326 : decode cL_law 326 = .ok (.bipush 32, 2) := by decide +kernel
theorem dL_law_328 : decode cL_law 328 = .ok (.lshl, 1) := by decide +kernel
theorem dL_law_329 : decode cL_law 329 = .ok (.aload_n 0, 1) := by decide +kernel
theorem dL_law_330 : decode cL_law 330 = .ok (.iload_n 3, 1) := by decide +kernel
theorem dL_law_331 : decode cL_law 331 = .ok (.iconst 2, 1) := by decide +kernel
theorem dL_law_332 : decode cL_law 332 = .ok (.iadd, 1) := by decide +kernel
theorem dL_law_333 : decode cL_law 333 = .ok (.iaload, 1) := by decide +kernel
theorem dL_law_334 : decode cL_law 334 = .ok (.i2l, 1) := by decide +kernel
theorem dL_law_335 : decode cL_law 335 = .ok (.ldc2_w 46, 3) := by decide +kernel
theorem dL_law_338 : decode cL_law 338 = .ok (.land, 1) := by decide +kernel
theorem dL_law_339 : decode cL_law 339 = .ok (.lor, 1) := by decide +kernel
theorem dL_law_340 : decode cL_law 340 = .ok (.invokevirtual 48, 3) := by decide +kernel
theorem dL_law_343 : decode cL_law 343 = .ok (.aload_n 2, 1) := by decide +kernel
theorem dL_law_344 : decode cL_law 344 = .ok (.aload_n 0, 1) := by decide +kernel
theorem dL_law_345 : decode cL_law 345 = .ok (.iload_n 3, 1) := by decide +kernel
theorem dL_law_346 : decode cL_law 346 = .ok (.iconst 1, 1) := by decide +kernel
theorem dL_law_347 : decode cL_law 347 = .ok (.iadd, 1) := by decide +kernel
theorem dL_law_348 : decode cL_law 348 = .ok (.iaload, 1) := by decide +kernel
theorem dL_law_349 : decode cL_law 349 = .ok (.i2l, 1) := by decide +kernel
theorem dL_law_350 : decode cL_law 350 = .ok (.bipush 32, 2) := by decide +kernel
theorem dL_law_352 : decode cL_law 352 = .ok (.lshl, 1) := by decide +kernel
theorem dL_law_353 : decode cL_law 353 = .ok (.aload_n 0, 1) := by decide +kernel
theorem dL_law_354 : decode cL_law 354 = .ok (.iload_n 3, 1) := by decide +kernel
theorem dL_law_355 : decode cL_law 355 = .ok (.iconst 2, 1) := by decide +kernel
theorem dL_law_356 : decode cL_law 356 = .ok (.iadd, 1) := by decide +kernel
theorem dL_law_357 : decode cL_law 357 = .ok (.iaload, 1) := by decide +kernel
theorem dL_law_358 : decode cL_law 358 = .ok (.i2l, 1) := by decide +kernel
theorem dL_law_359 : decode cL_law 359 = .ok (.ldc2_w 46, 3) := by decide +kernel
theorem dL_law_362 : decode cL_law 362 = .ok (.land, 1) := by decide +kernel
theorem dL_law_363 : decode cL_law 363 = .ok (.lor, 1) := by decide +kernel
theorem dL_law_364 : decode cL_law 364 = .ok (.invokevirtual 52, 3) := by decide +kernel
theorem dL_law_367 : decode cL_law 367 = .ok (.if_icmp .eq 160, 3) := by decide +kernel
theorem dL_law_370 : decode cL_law 370 = .ok (.iconst 0, 1) := by decide +kernel
theorem dL_law_371 : decode cL_law 371 = .ok (.ireturn, 1) := by decide +kernel
theorem dL_law_372 : decode cL_law 372 = .ok (.aload_n 1, 1) := by decide +kernel
theorem dL_law_373 : decode cL_law 373 = .ok (.aload_n 0, 1) := by decide +kernel
theorem dL_law_374 : decode cL_law 374 = .ok (.iload_n 3, 1) := by decide +kernel
theorem dL_law_375 : decode cL_law 375 = .ok (.iconst 1, 1) := by decide +kernel
theorem dL_law_376 : decode cL_law 376 = .ok (.iadd, 1) := by decide +kernel
theorem dL_law_377 : decode cL_law 377 = .ok (.iaload, 1) := by decide +kernel
theorem dL_law_378 : decode cL_law 378 = .ok (.invokevirtual 53, 3) := by decide +kernel
theorem dL_law_381 : decode cL_law 381 = .ok (.aload_n 2, 1) := by decide +kernel
theorem dL_law_382 : decode cL_law 382 = .ok (.aload_n 0, 1) := by decide +kernel
theorem dL_law_383 : decode cL_law 383 = .ok (.iload_n 3, 1) := by decide +kernel
theorem dL_law_384 : decode cL_law 384 = .ok (.iconst 1, 1) := by decide +kernel
theorem dL_law_385 : decode cL_law 385 = .ok (.iadd, 1) := by decide +kernel
theorem dL_law_386 : decode cL_law 386 = .ok (.iaload, 1) := by decide +kernel
theorem dL_law_387 : decode cL_law 387 = .ok (.invokevirtual 57, 3) := by decide +kernel
theorem dL_law_390 : decode cL_law 390 = .ok (.if_icmp .eq 137, 3) := by decide +kernel
theorem dL_law_393 : decode cL_law 393 = .ok (.iconst 0, 1) := by decide +kernel
theorem dL_law_394 : decode cL_law 394 = .ok (.ireturn, 1) := by decide +kernel
theorem dL_law_395 : decode cL_law 395 = .ok (.aload_n 1, 1) := by decide +kernel
theorem dL_law_396 : decode cL_law 396 = .ok (.aload_n 0, 1) := by decide +kernel
theorem dL_law_397 : decode cL_law 397 = .ok (.iload_n 3, 1) := by decide +kernel
theorem dL_law_398 : decode cL_law 398 = .ok (.iconst 1, 1) := by decide +kernel
theorem dL_law_399 : decode cL_law 399 = .ok (.iadd, 1) := by decide +kernel
theorem dL_law_400 : decode cL_law 400 = .ok (.iaload, 1) := by decide +kernel
theorem dL_law_401 : decode cL_law 401 = .ok (.invokevirtual 58, 3) := by decide +kernel
theorem dL_law_404 : decode cL_law 404 = .ok (.aload_n 2, 1) := by decide +kernel
theorem dL_law_405 : decode cL_law 405 = .ok (.aload_n 0, 1) := by decide +kernel
theorem dL_law_406 : decode cL_law 406 = .ok (.iload_n 3, 1) := by decide +kernel
theorem dL_law_407 : decode cL_law 407 = .ok (.iconst 1, 1) := by decide +kernel
theorem dL_law_408 : decode cL_law 408 = .ok (.iadd, 1) := by decide +kernel
theorem dL_law_409 : decode cL_law 409 = .ok (.iaload, 1) := by decide +kernel
theorem dL_law_410 : decode cL_law 410 = .ok (.invokevirtual 61, 3) := by decide +kernel
theorem dL_law_413 : decode cL_law 413 = .ok (.if_icmp .eq 114, 3) := by decide +kernel
theorem dL_law_416 : decode cL_law 416 = .ok (.iconst 0, 1) := by decide +kernel
theorem dL_law_417 : decode cL_law 417 = .ok (.ireturn, 1) := by decide +kernel
theorem dL_law_418 : decode cL_law 418 = .ok (.aload_n 1, 1) := by decide +kernel
theorem dL_law_419 : decode cL_law 419 = .ok (.aload_n 0, 1) := by decide +kernel
theorem dL_law_420 : decode cL_law 420 = .ok (.iload_n 3, 1) := by decide +kernel
theorem dL_law_421 : decode cL_law 421 = .ok (.iconst 1, 1) := by decide +kernel
theorem dL_law_422 : decode cL_law 422 = .ok (.iadd, 1) := by decide +kernel
theorem dL_law_423 : decode cL_law 423 = .ok (.iaload, 1) := by decide +kernel
theorem dL_law_424 : decode cL_law 424 = .ok (.invokevirtual 62, 3) := by decide +kernel
theorem dL_law_427 : decode cL_law 427 = .ok (.aload_n 2, 1) := by decide +kernel
theorem dL_law_428 : decode cL_law 428 = .ok (.aload_n 0, 1) := by decide +kernel
theorem dL_law_429 : decode cL_law 429 = .ok (.iload_n 3, 1) := by decide +kernel
theorem dL_law_430 : decode cL_law 430 = .ok (.iconst 1, 1) := by decide +kernel
theorem dL_law_431 : decode cL_law 431 = .ok (.iadd, 1) := by decide +kernel
theorem dL_law_432 : decode cL_law 432 = .ok (.iaload, 1) := by decide +kernel
theorem dL_law_433 : decode cL_law 433 = .ok (.invokevirtual 65, 3) := by decide +kernel
theorem dL_law_436 : decode cL_law 436 = .ok (.if_icmp .eq 91, 3) := by decide +kernel
theorem dL_law_439 : decode cL_law 439 = .ok (.iconst 0, 1) := by decide +kernel
end
section
theorem dL_law_440 : decode cL_law 440 = .ok (.ireturn, 1) := by decide +kernel
theorem dL_law_441 : decode cL_law 441 = .ok (.aload_n 1, 1) := by decide +kernel
theorem dL_law_442 : decode cL_law 442 = .ok (.invokevirtual 66, 3) := by decide +kernel
theorem dL_law_445 : decode cL_law 445 = .ok (.aload_n 2, 1) := by decide +kernel
theorem dL_law_446 : decode cL_law 446 = .ok (.invokevirtual 70, 3) := by decide +kernel
theorem dL_law_449 : decode cL_law 449 = .ok (.if_icmp .eq 78, 3) := by decide +kernel
theorem dL_law_452 : decode cL_law 452 = .ok (.iconst 0, 1) := by decide +kernel
theorem dL_law_453 : decode cL_law 453 = .ok (.ireturn, 1) := by decide +kernel
theorem dL_law_454 : decode cL_law 454 = .ok (.aload_n 1, 1) := by decide +kernel
theorem dL_law_455 : decode cL_law 455 = .ok (.invokevirtual 71, 3) := by decide +kernel
theorem dL_law_458 : decode cL_law 458 = .ok (.aload_n 2, 1) := by decide +kernel
theorem dL_law_459 : decode cL_law 459 = .ok (.invokevirtual 75, 3) := by decide +kernel
theorem dL_law_462 : decode cL_law 462 = .ok (.if_icmp .eq 65, 3) := by decide +kernel
theorem dL_law_465 : decode cL_law 465 = .ok (.iconst 0, 1) := by decide +kernel
theorem dL_law_466 : decode cL_law 466 = .ok (.ireturn, 1) := by decide +kernel
theorem dL_law_467 : decode cL_law 467 = .ok (.aload_n 1, 1) := by decide +kernel
theorem dL_law_468 : decode cL_law 468 = .ok (.invokevirtual 76, 3) := by decide +kernel
theorem dL_law_471 : decode cL_law 471 = .ok (.aload_n 2, 1) := by decide +kernel
theorem dL_law_472 : decode cL_law 472 = .ok (.invokevirtual 79, 3) := by decide +kernel
theorem dL_law_475 : decode cL_law 475 = .ok (.if_icmp .eq 52, 3) := by decide +kernel
theorem dL_law_478 : decode cL_law 478 = .ok (.iconst 0, 1) := by decide +kernel
theorem dL_law_479 : decode cL_law 479 = .ok (.ireturn, 1) := by decide +kernel
theorem dL_law_480 : decode cL_law 480 = .ok (.aload_n 1, 1) := by decide +kernel
theorem dL_law_481 : decode cL_law 481 = .ok (.aload_n 0, 1) := by decide +kernel
theorem dL_law_482 : decode cL_law 482 = .ok (.iload_n 3, 1) := by decide +kernel
theorem dL_law_483 : decode cL_law 483 = .ok (.iconst 1, 1) := by decide +kernel
theorem dL_law_484 : decode cL_law 484 = .ok (.iadd, 1) := by decide +kernel
theorem dL_law_485 : decode cL_law 485 = .ok (.iaload, 1) := by decide +kernel
theorem dL_law_486 : decode cL_law 486 = .ok (.aload_n 0, 1) := by decide +kernel
theorem dL_law_487 : decode cL_law 487 = .ok (.iload_n 3, 1) := by decide +kernel
theorem dL_law_488 : decode cL_law 488 = .ok (.iconst 2, 1) := by decide +kernel
theorem dL_law_489 : decode cL_law 489 = .ok (.iadd, 1) := by decide +kernel
theorem dL_law_490 : decode cL_law 490 = .ok (.iaload, 1) := by decide +kernel
theorem dL_law_491 : decode cL_law 491 = .ok (.invokevirtual 80, 3) := by decide +kernel
theorem dL_law_494 : decode cL_law 494 = .ok (.aload_n 2, 1) := by decide +kernel
theorem dL_law_495 : decode cL_law 495 = .ok (.aload_n 0, 1) := by decide +kernel
theorem dL_law_496 : decode cL_law 496 = .ok (.iload_n 3, 1) := by decide +kernel
theorem dL_law_497 : decode cL_law 497 = .ok (.iconst 1, 1) := by decide +kernel
theorem dL_law_498 : decode cL_law 498 = .ok (.iadd, 1) := by decide +kernel
theorem dL_law_499 : decode cL_law 499 = .ok (.iaload, 1) := by decide +kernel
theorem dL_law_500 : decode cL_law 500 = .ok (.aload_n 0, 1) := by decide +kernel
theorem dL_law_501 : decode cL_law 501 = .ok (.iload_n 3, 1) := by decide +kernel
theorem dL_law_502 : decode cL_law 502 = .ok (.iconst 2, 1) := by decide +kernel
theorem dL_law_503 : decode cL_law 503 = .ok (.iadd, 1) := by decide +kernel
theorem dL_law_504 : decode cL_law 504 = .ok (.iaload, 1) := by decide +kernel
theorem dL_law_505 : decode cL_law 505 = .ok (.invokevirtual 84, 3) := by decide +kernel
theorem dL_law_508 : decode cL_law 508 = .ok (.if_icmp .eq 19, 3) := by decide +kernel
theorem dL_law_511 : decode cL_law 511 = .ok (.iconst 0, 1) := by decide +kernel
theorem dL_law_512 : decode cL_law 512 = .ok (.ireturn, 1) := by decide +kernel
theorem dL_law_513 : decode cL_law 513 = .ok (.aload_n 1, 1) := by decide +kernel
theorem dL_law_514 : decode cL_law 514 = .ok (.invokevirtual 85, 3) := by decide +kernel
theorem dL_law_517 : decode cL_law 517 = .ok (.aload_n 2, 1) := by decide +kernel
theorem dL_law_518 : decode cL_law 518 = .ok (.invokevirtual 89, 3) := by decide +kernel
theorem dL_law_521 : decode cL_law 521 = .ok (.lcmp, 1) := by decide +kernel
theorem dL_law_522 : decode cL_law 522 = .ok (.ifCond .eq 5, 3) := by decide +kernel
theorem dL_law_525 : decode cL_law 525 = .ok (.iconst 0, 1) := by decide +kernel
theorem dL_law_526 : decode cL_law 526 = .ok (.ireturn, 1) := by decide +kernel
theorem dL_law_527 : decode cL_law 527 = .ok (.iinc 3 5, 3) := by decide +kernel
theorem dL_law_530 : decode cL_law 530 = .ok (.goto (-492), 3) := by decide +kernel
theorem dL_law_533 : decode cL_law 533 = .ok (.iconst 1, 1) := by decide +kernel
theorem dL_law_534 : decode cL_law 534 = .ok (.ireturn, 1) := by decide +kernel
end
section
/-! ints as integers: iI z is the Int32 of the integer z; rows of the machine over them -/
def iI (z : Int) : Int32 := Int32.ofInt z
def b2z (b : Bool) : Int := if b then 1 else 0
theorem b2z_t {P : Prop} {h : Decidable P} (hp : P) : b2z (@decide P h) = 1 := by simp [b2z, hp]
theorem b2z_f {P : Prop} {h : Decidable P} (hp : ¬ P) : b2z (@decide P h) = 0 := by simp [b2z, hp]
theorem b2z_tr : b2z true = 1 := rfl
theorem b2z_fa : b2z false = 0 := rfl
theorem b2z_01 (b : Bool) : b2z b = 0 ∨ b2z b = 1 := by cases b <;> decide
theorem b2z_r (b : Bool) : 0 ≤ b2z b ∧ b2z b ≤ 1 := by cases b <;> decide
theorem iI_T {z : Int} (h : -2147483648 ≤ z ∧ z < 2147483648) : (iI z).toInt = z := Int32.toInt_ofInt_of_le (by omega) (by omega)
theorem iI_of (x : Int32) : ∃ z : Int, x = iI z ∧ -2147483648 ≤ z ∧ z < 2147483648 := ⟨x.toInt, (Int32.ofInt_toInt x).symm, by have := x.le_toInt; omega, by have := x.toInt_lt; omega⟩
theorem iI_lt {a b : Int} (ha : -2147483648 ≤ a ∧ a < 2147483648) (hb : -2147483648 ≤ b ∧ b < 2147483648) : iI a < iI b ↔ a < b := by rw [Int32.lt_iff_toInt_lt, iI_T ha, iI_T hb]
theorem iI_le {a b : Int} (ha : -2147483648 ≤ a ∧ a < 2147483648) (hb : -2147483648 ≤ b ∧ b < 2147483648) : iI a ≤ iI b ↔ a ≤ b := by rw [Int32.le_iff_toInt_le, iI_T ha, iI_T hb]
theorem iI_eq {a b : Int} (ha : -2147483648 ≤ a ∧ a < 2147483648) (hb : -2147483648 ≤ b ∧ b < 2147483648) : iI a = iI b ↔ a = b := by rw [← Int32.toInt_inj, iI_T ha, iI_T hb]
theorem iI_0 : iI 0 = 0 := by decide
theorem iI_add (a b : Int) : iI a + iI b = iI (a + b) := (Int32.ofInt_add a b).symm
theorem iI_sub (a b : Int) : iI a - iI b = iI (a - b) := (Int32.ofInt_sub a b).symm
theorem iI_mul (a b : Int) : iI a * iI b = iI (a * b) := (Int32.ofInt_mul a b).symm
theorem iI_n (n : Nat) : iI (n : Int) = nI n := Int32.ofInt_eq_ofNat
theorem iI_cl {z : Int} (h : 0 ≤ z ∧ z < 2147483648) : (iI z).toNatClampNeg = z.toNat := Int32.toNatClampNeg_ofInt_of_le (by omega) (by omega)
theorem iI_in {z : Int} {n : Nat} (h : 0 ≤ z ∧ z < (n : Int)) (hn : n < 2147483648) : vp_in (iI z) n := by
  rw [vp_in_iff, iI_T (by omega)]; exact h
theorem iI_and (a b : Nat) : iI (a : Int) &&& iI (b : Int) = iI ((a &&& b : Nat) : Int) := by
  rw [iI_n, iI_n, iI_n]
  apply Int32.toBitVec.inj
  show BitVec.ofNat 32 a &&& BitVec.ofNat 32 b = BitVec.ofNat 32 (a &&& b)
  exact (BitVec.ofNat_and).symm
theorem iI_or (a b : Nat) : iI (a : Int) ||| iI (b : Int) = iI ((a ||| b : Nat) : Int) := by
  rw [iI_n, iI_n, iI_n]
  apply Int32.toBitVec.inj
  show BitVec.ofNat 32 a ||| BitVec.ofNat 32 b = BitVec.ofNat 32 (a ||| b)
  exact (BitVec.ofNat_or).symm
/-- an array of ints, of integers -/
def zA (g : Nat → Int) : Nat → Int32 := fun j => iI (g j)
def uZ (g : Nat → Int) (k : Nat) (v : Int) : Nat → Int := fun j => if j = k then v else g j
theorem uZ_s (g : Nat → Int) (k : Nat) (v : Int) : uZ g k v k = v := by simp [uZ]
theorem uZ_n (g : Nat → Int) {k j : Nat} (v : Int) (h : j ≠ k) : uZ g k v j = g j := by simp [uZ, h]
theorem zA_u (g : Nat → Int) (k : Nat) (v : Int) : upd (zA g) k (iI v) = zA (uZ g k v) := by
  funext j; simp only [upd, zA, uZ]; split <;> rfl
theorem uZ_all {P : Int → Prop} {g : Nat → Int} (h : ∀ j, P (g j)) (k : Nat) {v : Int} (hv : P v) : ∀ j, P (uZ g k v j) := by
  intro j; simp only [uZ]; split
  · exact hv
  · exact h j
section RZ
variable {p : Program} {l : Launch} {e : Env} {R : Room} {s : State} {m : MethodId} {args : Array Value} {below : List Frame} {meth : Method} {c : Code} {H H0 : Heap} {locs : List Loc} {cells slots : Nat} {Q : State → Prop} {cc : ByteArray} {pc tgt : Nat} {ls : Array Slot} {rest : List Value} {off : Int} {a b : Int}
theorem rz_add (hx : p.tables.exec = Jvm.exec) (hb : c.code = cc) (hd : decode cc pc = .ok (.iadd, 1)) (k : W p l e R s m args below meth c H locs cells slots Q (F0 m (pc + 1) ls (.int (iI (a + b)) :: rest))) : W p l e R s m args below meth c H locs cells slots Q (F0 m pc ls (.int (iI b) :: .int (iI a) :: rest)) := lv_iadd hx hb hd (by rw [iI_add]; exact k)
theorem rz_sub (hx : p.tables.exec = Jvm.exec) (hb : c.code = cc) (hd : decode cc pc = .ok (.isub, 1)) (k : W p l e R s m args below meth c H locs cells slots Q (F0 m (pc + 1) ls (.int (iI (a - b)) :: rest))) : W p l e R s m args below meth c H locs cells slots Q (F0 m pc ls (.int (iI b) :: .int (iI a) :: rest)) := lv_isub hx hb hd (by rw [iI_sub]; exact k)
theorem rz_mul (hx : p.tables.exec = Jvm.exec) (hb : c.code = cc) (hd : decode cc pc = .ok (.imul, 1)) (k : W p l e R s m args below meth c H locs cells slots Q (F0 m (pc + 1) ls (.int (iI (a * b)) :: rest))) : W p l e R s m args below meth c H locs cells slots Q (F0 m pc ls (.int (iI b) :: .int (iI a) :: rest)) := lv_imul hx hb hd (by rw [iI_mul]; exact k)
theorem rz_div (hx : p.tables.exec = Jvm.exec) (hb : c.code = cc) (hd : decode cc pc = .ok (.idiv, 1)) (ha : 0 ≤ a ∧ a < 2147483648) (hq : 0 < b ∧ b < 2147483648) (k : W p l e R s m args below meth c H locs cells slots Q (F0 m (pc + 1) ls (.int (iI (a / b)) :: rest))) : W p l e R s m args below meth c H locs cells slots Q (F0 m pc ls (.int (iI b) :: .int (iI a) :: rest)) := by
  obtain ⟨x, rfl⟩ := Int.eq_ofNat_of_zero_le ha.1
  obtain ⟨y, rfl⟩ := Int.eq_ofNat_of_zero_le (Int.le_of_lt hq.1)
  have e1 : iI (x : Int) / iI (y : Int) = iI ((x : Int) / (y : Int)) := by
    rw [← Int.natCast_ediv, iI_n, iI_n, iI_n]; exact pk_div (by omega) (by omega) (by omega)
  refine lv_idiv hx hb hd ?_ (by rw [e1]; exact k)
  rw [← iI_0, iI_eq (by omega) (by omega)]; omega
theorem rz_rem (hx : p.tables.exec = Jvm.exec) (hb : c.code = cc) (hd : decode cc pc = .ok (.irem, 1)) (ha : 0 ≤ a ∧ a < 2147483648) (hq : 0 < b ∧ b < 2147483648) (k : W p l e R s m args below meth c H locs cells slots Q (F0 m (pc + 1) ls (.int (iI (a % b)) :: rest))) : W p l e R s m args below meth c H locs cells slots Q (F0 m pc ls (.int (iI b) :: .int (iI a) :: rest)) := by
  obtain ⟨x, rfl⟩ := Int.eq_ofNat_of_zero_le ha.1
  obtain ⟨y, rfl⟩ := Int.eq_ofNat_of_zero_le (Int.le_of_lt hq.1)
  have e1 : iI (x : Int) - iI (x : Int) / iI (y : Int) * iI (y : Int) = iI ((x : Int) % (y : Int)) := by
    rw [← Int.natCast_emod, iI_n, iI_n, iI_n]; exact pk_rem (by omega) (by omega) (by omega)
  refine lv_irem hx hb hd ?_ (by rw [e1]; exact k)
  rw [← iI_0, iI_eq (by omega) (by omega)]; omega
theorem rz_and {x y : Nat} (hx : p.tables.exec = Jvm.exec) (hb : c.code = cc) (hd : decode cc pc = .ok (.iand, 1)) (k : W p l e R s m args below meth c H locs cells slots Q (F0 m (pc + 1) ls (.int (iI ((x &&& y : Nat) : Int)) :: rest))) : W p l e R s m args below meth c H locs cells slots Q (F0 m pc ls (.int (iI (y : Int)) :: .int (iI (x : Int)) :: rest)) := lv_iand hx hb hd (by rw [iI_and]; exact k)
theorem rz_or {x y : Nat} (hx : p.tables.exec = Jvm.exec) (hb : c.code = cc) (hd : decode cc pc = .ok (.ior, 1)) (k : W p l e R s m args below meth c H locs cells slots Q (F0 m (pc + 1) ls (.int (iI ((x ||| y : Nat) : Int)) :: rest))) : W p l e R s m args below meth c H locs cells slots Q (F0 m pc ls (.int (iI (y : Int)) :: .int (iI (x : Int)) :: rest)) := lv_ior hx hb hd (by rw [iI_or]; exact k)
theorem sh_sm : ∀ n, n < 32 → ((nI n &&& 31).toBitVec.smod 32).toNat = n := by decide +kernel
theorem iI_shl {x n : Nat} (hn : n < 32) (h : x * 2 ^ n < 4294967296) : iI (x : Int) <<< (iI (n : Int) &&& 31) = iI ((x * 2 ^ n : Nat) : Int) := by
  rw [iI_n, iI_n, iI_n]; exact pk_shlN _ n (sh_sm n hn) h
theorem iI_shr {x n : Nat} (hn : n < 32) (h : x < 2147483648) : iI (x : Int) >>> (iI (n : Int) &&& 31) = iI ((x / 2 ^ n : Nat) : Int) := by
  rw [iI_n, iI_n, iI_n]; exact pk_shrN h _ n (sh_sm n hn)
theorem rz_shl {x n : Nat} (hx : p.tables.exec = Jvm.exec) (hb : c.code = cc) (hd : decode cc pc = .ok (.ishl, 1)) (hn : n < 32) (h : x * 2 ^ n < 4294967296) (k : W p l e R s m args below meth c H locs cells slots Q (F0 m (pc + 1) ls (.int (iI ((x * 2 ^ n : Nat) : Int)) :: rest))) : W p l e R s m args below meth c H locs cells slots Q (F0 m pc ls (.int (iI (n : Int)) :: .int (iI (x : Int)) :: rest)) := lv_ishl hx hb hd (by rw [iI_shl hn h]; exact k)
theorem rz_shr {x n : Nat} (hx : p.tables.exec = Jvm.exec) (hb : c.code = cc) (hd : decode cc pc = .ok (.ishr, 1)) (hn : n < 32) (h : x < 2147483648) (k : W p l e R s m args below meth c H locs cells slots Q (F0 m (pc + 1) ls (.int (iI ((x / 2 ^ n : Nat) : Int)) :: rest))) : W p l e R s m args below meth c H locs cells slots Q (F0 m pc ls (.int (iI (n : Int)) :: .int (iI (x : Int)) :: rest)) := lv_ishr hx hb hd (by rw [iI_shr hn h]; exact k)
-- compares and branches
theorem rz_clt (hx : p.tables.exec = Jvm.exec) (hb : c.code = cc) (hd : decode cc pc = .ok (.if_icmp .lt off, 3)) (ht : (pc : Int) + off = (tgt : Int)) (ha : -2147483648 ≤ a ∧ a < 2147483648) (hq : -2147483648 ≤ b ∧ b < 2147483648) (kt : a < b → W p l e R s m args below meth c H locs cells slots Q (F0 m tgt ls rest)) (kf : b ≤ a → W p l e R s m args below meth c H locs cells slots Q (F0 m (pc + 3) ls rest)) : W p l e R s m args below meth c H locs cells slots Q (F0 m pc ls (.int (iI b) :: .int (iI a) :: rest)) :=
  lv_icmp_lt hx hb hd ht (fun h => kt ((iI_lt ha hq).mp h)) (fun h => kf (Int.not_lt.mp (fun q => h ((iI_lt ha hq).mpr q))))
theorem rz_cge (hx : p.tables.exec = Jvm.exec) (hb : c.code = cc) (hd : decode cc pc = .ok (.if_icmp .ge off, 3)) (ht : (pc : Int) + off = (tgt : Int)) (ha : -2147483648 ≤ a ∧ a < 2147483648) (hq : -2147483648 ≤ b ∧ b < 2147483648) (kt : b ≤ a → W p l e R s m args below meth c H locs cells slots Q (F0 m tgt ls rest)) (kf : a < b → W p l e R s m args below meth c H locs cells slots Q (F0 m (pc + 3) ls rest)) : W p l e R s m args below meth c H locs cells slots Q (F0 m pc ls (.int (iI b) :: .int (iI a) :: rest)) :=
  lv_icmp_ge hx hb hd ht (fun h => kt ((iI_le hq ha).mp h)) (fun h => kf (Int.not_le.mp (fun q => h ((iI_le hq ha).mpr q))))
theorem rz_cgt (hx : p.tables.exec = Jvm.exec) (hb : c.code = cc) (hd : decode cc pc = .ok (.if_icmp .gt off, 3)) (ht : (pc : Int) + off = (tgt : Int)) (ha : -2147483648 ≤ a ∧ a < 2147483648) (hq : -2147483648 ≤ b ∧ b < 2147483648) (kt : b < a → W p l e R s m args below meth c H locs cells slots Q (F0 m tgt ls rest)) (kf : a ≤ b → W p l e R s m args below meth c H locs cells slots Q (F0 m (pc + 3) ls rest)) : W p l e R s m args below meth c H locs cells slots Q (F0 m pc ls (.int (iI b) :: .int (iI a) :: rest)) :=
  lv_icmp_gt hx hb hd ht (fun h => kt ((iI_lt hq ha).mp h)) (fun h => kf (Int.not_lt.mp (fun q => h ((iI_lt hq ha).mpr q))))
theorem rz_cle (hx : p.tables.exec = Jvm.exec) (hb : c.code = cc) (hd : decode cc pc = .ok (.if_icmp .le off, 3)) (ht : (pc : Int) + off = (tgt : Int)) (ha : -2147483648 ≤ a ∧ a < 2147483648) (hq : -2147483648 ≤ b ∧ b < 2147483648) (kt : a ≤ b → W p l e R s m args below meth c H locs cells slots Q (F0 m tgt ls rest)) (kf : b < a → W p l e R s m args below meth c H locs cells slots Q (F0 m (pc + 3) ls rest)) : W p l e R s m args below meth c H locs cells slots Q (F0 m pc ls (.int (iI b) :: .int (iI a) :: rest)) :=
  lv_icmp_le hx hb hd ht (fun h => kt ((iI_le ha hq).mp h)) (fun h => kf (Int.not_le.mp (fun q => h ((iI_le ha hq).mpr q))))
theorem rz_ceq (hx : p.tables.exec = Jvm.exec) (hb : c.code = cc) (hd : decode cc pc = .ok (.if_icmp .eq off, 3)) (ht : (pc : Int) + off = (tgt : Int)) (ha : -2147483648 ≤ a ∧ a < 2147483648) (hq : -2147483648 ≤ b ∧ b < 2147483648) (kt : a = b → W p l e R s m args below meth c H locs cells slots Q (F0 m tgt ls rest)) (kf : a ≠ b → W p l e R s m args below meth c H locs cells slots Q (F0 m (pc + 3) ls rest)) : W p l e R s m args below meth c H locs cells slots Q (F0 m pc ls (.int (iI b) :: .int (iI a) :: rest)) :=
  lv_icmp_eq hx hb hd ht (fun h => kt ((iI_eq ha hq).mp h)) (fun h => kf (fun q => h ((iI_eq ha hq).mpr q)))
theorem rz_cne (hx : p.tables.exec = Jvm.exec) (hb : c.code = cc) (hd : decode cc pc = .ok (.if_icmp .ne off, 3)) (ht : (pc : Int) + off = (tgt : Int)) (ha : -2147483648 ≤ a ∧ a < 2147483648) (hq : -2147483648 ≤ b ∧ b < 2147483648) (kt : a ≠ b → W p l e R s m args below meth c H locs cells slots Q (F0 m tgt ls rest)) (kf : a = b → W p l e R s m args below meth c H locs cells slots Q (F0 m (pc + 3) ls rest)) : W p l e R s m args below meth c H locs cells slots Q (F0 m pc ls (.int (iI b) :: .int (iI a) :: rest)) :=
  lv_icmp_ne hx hb hd ht (fun h => kt (fun q => h ((iI_eq ha hq).mpr q))) (fun h => kf ((iI_eq ha hq).mp h))
theorem rz_ilt (hx : p.tables.exec = Jvm.exec) (hb : c.code = cc) (hd : decode cc pc = .ok (.ifCond .lt off, 3)) (ht : (pc : Int) + off = (tgt : Int)) (ha : -2147483648 ≤ a ∧ a < 2147483648) (kt : a < 0 → W p l e R s m args below meth c H locs cells slots Q (F0 m tgt ls rest)) (kf : 0 ≤ a → W p l e R s m args below meth c H locs cells slots Q (F0 m (pc + 3) ls rest)) : W p l e R s m args below meth c H locs cells slots Q (F0 m pc ls (.int (iI a) :: rest)) :=
  lv_if_lt hx hb hd ht (fun h => kt ((iI_lt ha (by omega)).mp (by rw [iI_0]; exact h))) (fun h => kf (Int.not_lt.mp (fun q => h (by rw [← iI_0]; exact (iI_lt ha (by omega)).mpr q))))
theorem rz_ige (hx : p.tables.exec = Jvm.exec) (hb : c.code = cc) (hd : decode cc pc = .ok (.ifCond .ge off, 3)) (ht : (pc : Int) + off = (tgt : Int)) (ha : -2147483648 ≤ a ∧ a < 2147483648) (kt : 0 ≤ a → W p l e R s m args below meth c H locs cells slots Q (F0 m tgt ls rest)) (kf : a < 0 → W p l e R s m args below meth c H locs cells slots Q (F0 m (pc + 3) ls rest)) : W p l e R s m args below meth c H locs cells slots Q (F0 m pc ls (.int (iI a) :: rest)) :=
  lv_if_ge hx hb hd ht (fun h => kt ((iI_le (by omega) ha).mp (by rw [iI_0]; exact h))) (fun h => kf (Int.not_le.mp (fun q => h (by rw [← iI_0]; exact (iI_le (by omega) ha).mpr q))))
theorem rz_igt (hx : p.tables.exec = Jvm.exec) (hb : c.code = cc) (hd : decode cc pc = .ok (.ifCond .gt off, 3)) (ht : (pc : Int) + off = (tgt : Int)) (ha : -2147483648 ≤ a ∧ a < 2147483648) (kt : 0 < a → W p l e R s m args below meth c H locs cells slots Q (F0 m tgt ls rest)) (kf : a ≤ 0 → W p l e R s m args below meth c H locs cells slots Q (F0 m (pc + 3) ls rest)) : W p l e R s m args below meth c H locs cells slots Q (F0 m pc ls (.int (iI a) :: rest)) :=
  lv_if_gt hx hb hd ht (fun h => kt ((iI_lt (by omega) ha).mp (by rw [iI_0]; exact h))) (fun h => kf (Int.not_lt.mp (fun q => h (by rw [← iI_0]; exact (iI_lt (by omega) ha).mpr q))))
theorem rz_ile (hx : p.tables.exec = Jvm.exec) (hb : c.code = cc) (hd : decode cc pc = .ok (.ifCond .le off, 3)) (ht : (pc : Int) + off = (tgt : Int)) (ha : -2147483648 ≤ a ∧ a < 2147483648) (kt : a ≤ 0 → W p l e R s m args below meth c H locs cells slots Q (F0 m tgt ls rest)) (kf : 0 < a → W p l e R s m args below meth c H locs cells slots Q (F0 m (pc + 3) ls rest)) : W p l e R s m args below meth c H locs cells slots Q (F0 m pc ls (.int (iI a) :: rest)) :=
  lv_if_le hx hb hd ht (fun h => kt ((iI_le ha (by omega)).mp (by rw [iI_0]; exact h))) (fun h => kf (Int.not_le.mp (fun q => h (by rw [← iI_0]; exact (iI_le ha (by omega)).mpr q))))
theorem rz_ieq (hx : p.tables.exec = Jvm.exec) (hb : c.code = cc) (hd : decode cc pc = .ok (.ifCond .eq off, 3)) (ht : (pc : Int) + off = (tgt : Int)) (ha : -2147483648 ≤ a ∧ a < 2147483648) (kt : a = 0 → W p l e R s m args below meth c H locs cells slots Q (F0 m tgt ls rest)) (kf : a ≠ 0 → W p l e R s m args below meth c H locs cells slots Q (F0 m (pc + 3) ls rest)) : W p l e R s m args below meth c H locs cells slots Q (F0 m pc ls (.int (iI a) :: rest)) :=
  lv_if_eq hx hb hd ht (fun h => kt ((iI_eq ha (by omega)).mp (by rw [iI_0]; exact h))) (fun h => kf (fun q => h (by rw [← iI_0]; exact (iI_eq ha (by omega)).mpr q)))
theorem rz_ine (hx : p.tables.exec = Jvm.exec) (hb : c.code = cc) (hd : decode cc pc = .ok (.ifCond .ne off, 3)) (ht : (pc : Int) + off = (tgt : Int)) (ha : -2147483648 ≤ a ∧ a < 2147483648) (kt : a ≠ 0 → W p l e R s m args below meth c H locs cells slots Q (F0 m tgt ls rest)) (kf : a = 0 → W p l e R s m args below meth c H locs cells slots Q (F0 m (pc + 3) ls rest)) : W p l e R s m args below meth c H locs cells slots Q (F0 m pc ls (.int (iI a) :: rest)) :=
  lv_if_ne hx hb hd ht (fun h => kt (fun q => h (by rw [← iI_0]; exact (iI_eq ha (by omega)).mpr q))) (fun h => kf ((iI_eq ha (by omega)).mp (by rw [iI_0]; exact h)))
/-- a boolean on the stack -/
theorem rz_beq {z : Bool} (hx : p.tables.exec = Jvm.exec) (hb : c.code = cc) (hd : decode cc pc = .ok (.ifCond .eq off, 3)) (ht : (pc : Int) + off = (tgt : Int)) (kt : z = false → W p l e R s m args below meth c H locs cells slots Q (F0 m tgt ls rest)) (kf : z = true → W p l e R s m args below meth c H locs cells slots Q (F0 m (pc + 3) ls rest)) : W p l e R s m args below meth c H locs cells slots Q (F0 m pc ls (.int (iI (b2z z)) :: rest)) := by
  have := b2z_r z
  refine rz_ieq hx hb hd ht (by omega) (fun h => kt ?_) (fun h => kf ?_)
  · cases z
    · rfl
    · exact absurd h (by decide)
  · cases z
    · exact absurd rfl h
    · rfl
theorem rz_bne {z : Bool} (hx : p.tables.exec = Jvm.exec) (hb : c.code = cc) (hd : decode cc pc = .ok (.ifCond .ne off, 3)) (ht : (pc : Int) + off = (tgt : Int)) (kt : z = true → W p l e R s m args below meth c H locs cells slots Q (F0 m tgt ls rest)) (kf : z = false → W p l e R s m args below meth c H locs cells slots Q (F0 m (pc + 3) ls rest)) : W p l e R s m args below meth c H locs cells slots Q (F0 m pc ls (.int (iI (b2z z)) :: rest)) := by
  have := b2z_r z
  refine rz_ine hx hb hd ht (by omega) (fun h => kt ?_) (fun h => kf ?_)
  · cases z
    · exact absurd rfl h
    · rfl
  · cases z
    · rfl
    · exact absurd h (by decide)
theorem rz_beqD {P : Prop} {hdc : Decidable P} (hx : p.tables.exec = Jvm.exec) (hb : c.code = cc) (hd : decode cc pc = .ok (.ifCond .eq off, 3)) (ht : (pc : Int) + off = (tgt : Int)) (kt : ¬ P → W p l e R s m args below meth c H locs cells slots Q (F0 m tgt ls rest)) (kf : P → W p l e R s m args below meth c H locs cells slots Q (F0 m (pc + 3) ls rest)) : W p l e R s m args below meth c H locs cells slots Q (F0 m pc ls (.int (iI (b2z (@decide P hdc))) :: rest)) :=
  rz_beq hx hb hd ht (fun h => kt (of_decide_eq_false h)) (fun h => kf (of_decide_eq_true h))
theorem rz_bneD {P : Prop} {hdc : Decidable P} (hx : p.tables.exec = Jvm.exec) (hb : c.code = cc) (hd : decode cc pc = .ok (.ifCond .ne off, 3)) (ht : (pc : Int) + off = (tgt : Int)) (kt : P → W p l e R s m args below meth c H locs cells slots Q (F0 m tgt ls rest)) (kf : ¬ P → W p l e R s m args below meth c H locs cells slots Q (F0 m (pc + 3) ls rest)) : W p l e R s m args below meth c H locs cells slots Q (F0 m pc ls (.int (iI (b2z (@decide P hdc))) :: rest)) :=
  rz_bne hx hb hd ht (fun h => kt (of_decide_eq_true h)) (fun h => kf (of_decide_eq_false h))
/-- a value under another name -/
theorem rz_as {x y : Int} (he : x = y) (k : W p l e R s m args below meth c H locs cells slots Q (F0 m pc ls (.int (iI y) :: rest))) : W p l e R s m args below meth c H locs cells slots Q (F0 m pc ls (.int (iI x) :: rest)) := by rw [he]; exact k
theorem rz_top {x : Int} (k : ∀ y : Int, y = x → W p l e R s m args below meth c H locs cells slots Q (F0 m pc ls (.int (iI y) :: rest))) : W p l e R s m args below meth c H locs cells slots Q (F0 m pc ls (.int (iI x) :: rest)) := k x rfl
-- arrays
variable {D : va_G} {cl : List vw_C} {tys : List (ClassId × FieldType)} {ws : va_W} {A : Nat → Prop} {cA : ClassId} {n ad : Nat} {g : Nat → Int}
theorem rz_ald (hx : p.tables.exec = Jvm.exec) (hb : c.code = cc) (hK : va_K D cl tys s) (hP : va_P D cl ws H) (q0 t0 : Nat) (ha : ws[q0]? = some (ad, .inl (cA, n, .inl (zA g)))) (ht : tys[t0]? = some (cA, .int)) (hi : 0 ≤ a ∧ a < (n : Int)) (hn : n < 2147483648) (hd : decode cc pc = .ok (.iaload, 1))
    (k : W p l e R s m args below meth c H locs cells slots Q (F0 m (pc + 1) ls (.int (iI (g a.toNat)) :: rest))) : W p l e R s m args below meth c H locs cells slots Q (F0 m pc ls (.int (iI a) :: .ref ad :: rest)) := by
  refine va_iald hx hb hK hP q0 t0 ha ht (iI_in hi hn) hd ?_
  rw [iI_cl (by omega)]; exact k
theorem rz_zld (hx : p.tables.exec = Jvm.exec) (hb : c.code = cc) (hK : va_K D cl tys s) (hP : va_P D cl ws H) (q0 t0 : Nat) (ha : ws[q0]? = some (ad, .inl (cA, n, .inl (zA g)))) (ht : tys[t0]? = some (cA, .boolean)) (hi : 0 ≤ a ∧ a < (n : Int)) (hn : n < 2147483648) (hd : decode cc pc = .ok (.baload, 1))
    (k : W p l e R s m args below meth c H locs cells slots Q (F0 m (pc + 1) ls (.int (iI (g a.toNat)) :: rest))) : W p l e R s m args below meth c H locs cells slots Q (F0 m pc ls (.int (iI a) :: .ref ad :: rest)) := by
  refine va_zald hx hb hK hP q0 t0 ha ht (iI_in hi hn) hd ?_
  rw [iI_cl (by omega)]; exact k
theorem rz_ast (hx : p.tables.exec = Jvm.exec) (hb : c.code = cc) (hK : va_K D cl tys s) (hP : va_P D cl ws H) (hD : va_D A ws) (hS : va_S A H0 H locs) (q0 t0 : Nat) (ha : ws[q0]? = some (ad, .inl (cA, n, .inl (zA g)))) (ht : tys[t0]? = some (cA, .int)) (hi : 0 ≤ a ∧ a < (n : Int)) (hn : n < 2147483648) (hd : decode cc pc = .ok (.iastore, 1))
    (k : ∀ (H1 : Heap) (locs1 : List Loc), va_P D cl (ws.set q0 (ad, .inl (cA, n, .inl (zA (uZ g a.toNat b))))) H1 → va_D A (ws.set q0 (ad, .inl (cA, n, .inl (zA (uZ g a.toNat b))))) → va_S A H0 H1 locs1 → W p l e R s m args below meth c H1 locs1 cells slots Q (F0 m (pc + 1) ls rest)) : W p l e R s m args below meth c H locs cells slots Q (F0 m pc ls (.int (iI b) :: .int (iI a) :: .ref ad :: rest)) := by
  refine va_iast hx hb hK hP hD hS q0 t0 ha ht (iI_in hi hn) hd (fun H1 locs1 h1 h2 h3 => ?_)
  rw [iI_cl (by omega), zA_u] at h1 h2
  exact k H1 locs1 h1 h2 h3
end RZ

-- the same over Nat: what is never below zero
theorem iI_inc (i : Nat) : iI (i : Int) + Int32.ofInt 1 = iI ((i + 1 : Nat) : Int) := by
  show iI (i : Int) + iI 1 = _
  rw [iI_add]; congr 1
/-- an array of masks; of truths -/
def nZ (o : Nat → Nat) : Nat → Int := fun j => ((o j : Nat) : Int)
def bZ (o : Nat → Bool) : Nat → Int := fun j => b2z (o j)
def uN (o : Nat → Nat) (k v : Nat) : Nat → Nat := fun j => if j = k then v else o j
def uB (o : Nat → Bool) (k : Nat) (v : Bool) : Nat → Bool := fun j => if j = k then v else o j
theorem uN_s (g : Nat → Nat) (k v : Nat) : uN g k v k = v := by simp [uN]
theorem uN_n (g : Nat → Nat) {k j : Nat} (v : Nat) (h : j ≠ k) : uN g k v j = g j := by simp [uN, h]
theorem nZ_u (o : Nat → Nat) (k v : Nat) : uZ (nZ o) k ((v : Nat) : Int) = nZ (uN o k v) := by
  funext j; simp only [uZ, nZ, uN]; split <;> rfl
theorem bZ_u (o : Nat → Bool) (k : Nat) (v : Bool) : uZ (bZ o) k (b2z v) = bZ (uB o k v) := by
  funext j; simp only [uZ, bZ, uB]; split <;> rfl
theorem uN_all {P : Nat → Prop} {g : Nat → Nat} (h : ∀ j, P (g j)) (k : Nat) {v : Nat} (hv : P v) : ∀ j, P (uN g k v j) := by
  intro j; simp only [uN]; split
  · exact hv
  · exact h j
theorem b2z_vn (b : Bool) : vp_nar .boolean (iI (b2z b)) = iI (b2z b) := by cases b <;> decide +kernel
section RN
variable {p : Program} {l : Launch} {e : Env} {R : Room} {s : State} {m : MethodId} {args : Array Value} {below : List Frame} {meth : Method} {c : Code} {H H0 : Heap} {locs : List Loc} {cells slots : Nat} {Q : State → Prop} {cc : ByteArray} {pc tgt : Nat} {ls : Array Slot} {rest : List Value} {x y : Nat}
theorem rn_add (hx : p.tables.exec = Jvm.exec) (hb : c.code = cc) (hd : decode cc pc = .ok (.iadd, 1)) (k : W p l e R s m args below meth c H locs cells slots Q (F0 m (pc + 1) ls (.int (iI ((x + y : Nat) : Int)) :: rest))) : W p l e R s m args below meth c H locs cells slots Q (F0 m pc ls (.int (iI (y : Int)) :: .int (iI (x : Int)) :: rest)) := rz_add hx hb hd (rz_as (by omega) k)
theorem rn_mul (hx : p.tables.exec = Jvm.exec) (hb : c.code = cc) (hd : decode cc pc = .ok (.imul, 1)) (k : W p l e R s m args below meth c H locs cells slots Q (F0 m (pc + 1) ls (.int (iI ((x * y : Nat) : Int)) :: rest))) : W p l e R s m args below meth c H locs cells slots Q (F0 m pc ls (.int (iI (y : Int)) :: .int (iI (x : Int)) :: rest)) := rz_mul hx hb hd (rz_as (Int.natCast_mul x y).symm k)
theorem rn_sub (hx : p.tables.exec = Jvm.exec) (hb : c.code = cc) (hd : decode cc pc = .ok (.isub, 1)) (h : y ≤ x) (k : W p l e R s m args below meth c H locs cells slots Q (F0 m (pc + 1) ls (.int (iI ((x - y : Nat) : Int)) :: rest))) : W p l e R s m args below meth c H locs cells slots Q (F0 m pc ls (.int (iI (y : Int)) :: .int (iI (x : Int)) :: rest)) := rz_sub hx hb hd (rz_as (by omega) k)
theorem rn_div (hx : p.tables.exec = Jvm.exec) (hb : c.code = cc) (hd : decode cc pc = .ok (.idiv, 1)) (ha : x < 2147483648) (hq : 0 < y ∧ y < 2147483648) (k : W p l e R s m args below meth c H locs cells slots Q (F0 m (pc + 1) ls (.int (iI ((x / y : Nat) : Int)) :: rest))) : W p l e R s m args below meth c H locs cells slots Q (F0 m pc ls (.int (iI (y : Int)) :: .int (iI (x : Int)) :: rest)) := rz_div hx hb hd (by omega) (by omega) (rz_as (Int.natCast_ediv x y).symm k)
theorem rn_rem (hx : p.tables.exec = Jvm.exec) (hb : c.code = cc) (hd : decode cc pc = .ok (.irem, 1)) (ha : x < 2147483648) (hq : 0 < y ∧ y < 2147483648) (k : W p l e R s m args below meth c H locs cells slots Q (F0 m (pc + 1) ls (.int (iI ((x % y : Nat) : Int)) :: rest))) : W p l e R s m args below meth c H locs cells slots Q (F0 m pc ls (.int (iI (y : Int)) :: .int (iI (x : Int)) :: rest)) := rz_rem hx hb hd (by omega) (by omega) (rz_as (Int.natCast_emod x y).symm k)
variable {D : va_G} {cl : List vw_C} {tys : List (ClassId × FieldType)} {ws : va_W} {A : Nat → Prop} {cA : ClassId} {n ad : Nat} {g : Nat → Int} {o : Nat → Nat} {fb : Nat → Bool} {v : Int}
theorem rn_ald (hx : p.tables.exec = Jvm.exec) (hb : c.code = cc) (hK : va_K D cl tys s) (hP : va_P D cl ws H) (q0 t0 : Nat) (ha : ws[q0]? = some (ad, .inl (cA, n, .inl (zA g)))) (ht : tys[t0]? = some (cA, .int)) (hi : x < n) (hn : n < 2147483648) (hd : decode cc pc = .ok (.iaload, 1))
    (k : W p l e R s m args below meth c H locs cells slots Q (F0 m (pc + 1) ls (.int (iI (g x)) :: rest))) : W p l e R s m args below meth c H locs cells slots Q (F0 m pc ls (.int (iI (x : Int)) :: .ref ad :: rest)) := rz_ald hx hb hK hP q0 t0 ha ht (by omega) hn hd (by rw [Int.toNat_natCast]; exact k)
theorem rn_aldM (hx : p.tables.exec = Jvm.exec) (hb : c.code = cc) (hK : va_K D cl tys s) (hP : va_P D cl ws H) (q0 t0 : Nat) (ha : ws[q0]? = some (ad, .inl (cA, n, .inl (zA (nZ o))))) (ht : tys[t0]? = some (cA, .int)) (hi : x < n) (hn : n < 2147483648) (hd : decode cc pc = .ok (.iaload, 1))
    (k : W p l e R s m args below meth c H locs cells slots Q (F0 m (pc + 1) ls (.int (iI ((o x : Nat) : Int)) :: rest))) : W p l e R s m args below meth c H locs cells slots Q (F0 m pc ls (.int (iI (x : Int)) :: .ref ad :: rest)) := rn_ald hx hb hK hP q0 t0 ha ht hi hn hd k
theorem rn_zld (hx : p.tables.exec = Jvm.exec) (hb : c.code = cc) (hK : va_K D cl tys s) (hP : va_P D cl ws H) (q0 t0 : Nat) (ha : ws[q0]? = some (ad, .inl (cA, n, .inl (zA (bZ fb))))) (ht : tys[t0]? = some (cA, .boolean)) (hi : x < n) (hn : n < 2147483648) (hd : decode cc pc = .ok (.baload, 1))
    (k : W p l e R s m args below meth c H locs cells slots Q (F0 m (pc + 1) ls (.int (iI (b2z (fb x))) :: rest))) : W p l e R s m args below meth c H locs cells slots Q (F0 m pc ls (.int (iI (x : Int)) :: .ref ad :: rest)) := rz_zld hx hb hK hP q0 t0 ha ht (by omega) hn hd (by rw [Int.toNat_natCast]; exact k)
theorem rn_ast (hx : p.tables.exec = Jvm.exec) (hb : c.code = cc) (hK : va_K D cl tys s) (hP : va_P D cl ws H) (hD : va_D A ws) (hS : va_S A H0 H locs) (q0 t0 : Nat) (ha : ws[q0]? = some (ad, .inl (cA, n, .inl (zA g)))) (ht : tys[t0]? = some (cA, .int)) (hi : x < n) (hn : n < 2147483648) (hd : decode cc pc = .ok (.iastore, 1))
    (k : ∀ (H1 : Heap) (locs1 : List Loc), va_P D cl (ws.set q0 (ad, .inl (cA, n, .inl (zA (uZ g x v))))) H1 → va_D A (ws.set q0 (ad, .inl (cA, n, .inl (zA (uZ g x v))))) → va_S A H0 H1 locs1 → W p l e R s m args below meth c H1 locs1 cells slots Q (F0 m (pc + 1) ls rest)) : W p l e R s m args below meth c H locs cells slots Q (F0 m pc ls (.int (iI v) :: .int (iI (x : Int)) :: .ref ad :: rest)) :=
  rz_ast hx hb hK hP hD hS q0 t0 ha ht (by omega) hn hd (fun H1 locs1 h1 h2 h3 => k H1 locs1 (by rw [Int.toNat_natCast] at h1; exact h1) (by rw [Int.toNat_natCast] at h2; exact h2) h3)
theorem rn_astM (hx : p.tables.exec = Jvm.exec) (hb : c.code = cc) (hK : va_K D cl tys s) (hP : va_P D cl ws H) (hD : va_D A ws) (hS : va_S A H0 H locs) (q0 t0 : Nat) (ha : ws[q0]? = some (ad, .inl (cA, n, .inl (zA (nZ o))))) (ht : tys[t0]? = some (cA, .int)) (hi : x < n) (hn : n < 2147483648) (hd : decode cc pc = .ok (.iastore, 1))
    (k : ∀ (H1 : Heap) (locs1 : List Loc), va_P D cl (ws.set q0 (ad, .inl (cA, n, .inl (zA (nZ (uN o x y)))))) H1 → va_D A (ws.set q0 (ad, .inl (cA, n, .inl (zA (nZ (uN o x y)))))) → va_S A H0 H1 locs1 → W p l e R s m args below meth c H1 locs1 cells slots Q (F0 m (pc + 1) ls rest)) : W p l e R s m args below meth c H locs cells slots Q (F0 m pc ls (.int (iI (y : Int)) :: .int (iI (x : Int)) :: .ref ad :: rest)) :=
  rn_ast hx hb hK hP hD hS q0 t0 ha ht hi hn hd (fun H1 locs1 h1 h2 h3 => k H1 locs1 (by rw [nZ_u] at h1; exact h1) (by rw [nZ_u] at h2; exact h2) h3)
theorem rn_zst {z : Bool} (hx : p.tables.exec = Jvm.exec) (hb : c.code = cc) (hK : va_K D cl tys s) (hP : va_P D cl ws H) (hD : va_D A ws) (hS : va_S A H0 H locs) (q0 t0 : Nat) (ha : ws[q0]? = some (ad, .inl (cA, n, .inl (zA (bZ fb))))) (ht : tys[t0]? = some (cA, .boolean)) (hi : x < n) (hn : n < 2147483648) (hd : decode cc pc = .ok (.bastore, 1))
    (k : ∀ (H1 : Heap) (locs1 : List Loc), va_P D cl (ws.set q0 (ad, .inl (cA, n, .inl (zA (bZ (uB fb x z)))))) H1 → va_D A (ws.set q0 (ad, .inl (cA, n, .inl (zA (bZ (uB fb x z)))))) → va_S A H0 H1 locs1 → W p l e R s m args below meth c H1 locs1 cells slots Q (F0 m (pc + 1) ls rest)) : W p l e R s m args below meth c H locs cells slots Q (F0 m pc ls (.int (iI (b2z z)) :: .int (iI (x : Int)) :: .ref ad :: rest)) := by
  refine va_zast hx hb hK hP hD hS q0 t0 ha ht (iI_in (by omega) hn) hd (fun H1 locs1 h1 h2 h3 => ?_)
  rw [iI_cl (by omega), b2z_vn, Int.toNat_natCast, zA_u, bZ_u] at h1 h2
  exact k H1 locs1 h1 h2 h3
end RN
end
section
/-! shapes of contracts: cP what holds before, cB behind; and calls over them -/
abbrev ce_i (q : Nat) (cA : ClassId) (n : Nat) (g : Nat → Int) : Nat × va_E := (q, .inl (cA, n, .inl (zA g)))
def cP (D : va_G) (cl : List vw_C) (tys : List (ClassId × FieldType)) (ws : va_W) (sz : Nat) (U : State) : Prop := U.heap.size = sz ∧ va_P D cl ws U.heap ∧ va_K D cl tys U ∧ nK U ∧ va_D (fun _ => True) ws
def cB (D : va_G) (cl : List vw_C) (tys : List (ClassId × FieldType)) (A : Nat → Prop) (w : va_W) (t : State) : Prop := va_P D cl w t.heap ∧ va_K D cl tys t ∧ va_D A w
/-- a method that answers an int: 'post answer, its cells behind it' -/
def Ci (l : Launch) (y : MethodName) (wd : List Cond) (rm : Room) (D : va_G) (cl : List vw_C) (tys : List (ClassId × FieldType)) (av : List Value) (ws : va_W) (sz : Nat) (post : Int → va_W → Prop) (mc ms : Nat) : Prop :=
  Met l y wd rm (va_Pc av (cP D cl tys ws sz)) (va_Qi (fun r w => ∃ z : Int, r = iI z ∧ post z w) (cB D cl tys (va_A ws sz)) (va_A ws sz)) mc ms (va_A ws sz)
def Cv (l : Launch) (y : MethodName) (wd : List Cond) (rm : Room) (D : va_G) (cl : List vw_C) (tys : List (ClassId × FieldType)) (av : List Value) (ws : va_W) (sz : Nat) (post : va_W → Prop) (mc ms : Nat) : Prop :=
  Met l y wd rm (va_Pc av (cP D cl tys ws sz)) (va_Qv post (cB D cl tys (va_A ws sz)) (va_A ws sz)) mc ms (va_A ws sz)
def Cl (l : Launch) (y : MethodName) (wd : List Cond) (rm : Room) (D : va_G) (cl : List vw_C) (tys : List (ClassId × FieldType)) (av : List Value) (ws : va_W) (sz : Nat) (post : Int64 → va_W → Prop) (mc ms : Nat) : Prop :=
  Met l y wd rm (va_Pc av (cP D cl tys ws sz)) (va_Ql post (cB D cl tys (va_A ws sz)) (va_A ws sz)) mc ms (va_A ws sz)
theorem cP_blind {D : va_G} {cl : List vw_C} {tys : List (ClassId × FieldType)} {ws : va_W} {sz : Nat} {av : List Value} : FrameBlind (va_Pc av (cP D cl tys ws sz)) := fun a U g mk q => by
  obtain ⟨q0, q1, qP, qK, qN, qD⟩ := q
  exact ⟨q0, q1, qP, va_K.moved (u := U) (U := U.calling g mk a) (Vm.Alike.refl U.vm) qK, nK_same (s := U) (U := U.calling g mk a) rfl qN, qD⟩
theorem cP_pre {s : State} {H : Heap} {D : va_G} {cl : List vw_C} {tys : List (ClassId × FieldType)} {wc : va_W} {av : List Value} {A : Nat → Prop} (hP : va_P D cl wc H) (hK : va_K D cl tys s) (hN : nK s) (hD : va_D A wc) : ∀ U : State, U.heap = H → s.WarmedH U.vm → va_Pc av (cP D cl tys wc H.size) av.toArray U :=
  fun U hU hW => ⟨rfl, by rw [hU], by rw [hU]; exact hP, va_K.moved hW.alike hK, nK_warm hW hN, hD.weaken (fun _ _ _ _ => trivial)⟩
/-- what a call leaves: the callee's cells as it says, the rest as it was, at the old places -/
theorem va_keep {A0 : Nat → Prop} {D : va_G} {cl : List vw_C} {ws wc : va_W} {H H1 : Heap} (hP : va_P D cl ws H) (hD : va_D A0 ws) (isC : List Nat) (hC : isC.map (fun i => ws[i]?) = wc.map some)
    (hk : ∀ q : Nat, q < H.size → ¬ va_A wc H.size q → H1[q]? = H[q]?) (hP1 : va_P D cl wc H1) : va_P D cl ws H1 := by
  intro k q hq
  by_cases h : ∃ j : Nat, wc[j]? = some q
  · obtain ⟨j, hj⟩ := h
    exact hP1 j q hj
  · have hlt : q.1 < H.size := (hP k q hq).lt
    have hn : ¬ va_A wc H.size q.1 := by
      rintro (⟨j, e, hj⟩ | hge)
      · have h1 : (isC.map (fun i => ws[i]?))[j]? = some (some (q.1, e)) := by rw [hC, List.getElem?_map, hj]; rfl
        rw [List.getElem?_map] at h1
        cases hi : isC[j]? with
        | none => rw [hi] at h1; cases h1
        | some i =>
          rw [hi] at h1
          have h2 : ws[i]? = some (q.1, e) := Option.some.inj h1
          have h3 : k = i := hD.1 k i q (q.1, e) hq h2 rfl
          subst h3
          rw [hq] at h2
          exact h ⟨j, by rw [hj]; exact h2.symm ▸ rfl⟩
      · omega
    exact (hP k q hq).kept (hk q.1 hlt hn)
section RC
variable {p : Program} {l : Launch} {e : Env} {R : Room} {s : State} {m : MethodId} {args : Array Value} {below : List Frame} {meth : Method} {c : Code} {H H0 : Heap} {locs : List Loc} {cells slots mc ms : Nat} {Q : State → Prop} {pc : Nat} {ls : Array Slot} {rest st0 : List Value} {av : Array Value}
  {D : va_G} {cl : List vw_C} {tys : List (ClassId × FieldType)} {ws wc wr : va_W} {A : Nat → Prop}
theorem rz_calli {post : Int → va_W → Prop} (hr : va_Run p l e R s m args below meth c H locs cells slots 0 0 (F0 m pc ls st0) rest (va_Qi (fun r w => ∃ z : Int, r = iI z ∧ post z w) (cB D cl tys (va_A wc H.size)) (va_A wc H.size) av) (va_A wc H.size))
    (hP : va_P D cl ws H) (hD : va_D A ws) (hS : va_S A H0 H locs) (hA : ∀ q, H0.size ≤ q → A q) (isC isR : List Nat) (hC : isC.map (fun i => ws[i]?) = wc.map some) (hR : isR.map (fun i => ws[i]?) = wr.map some) (hn : va_nd isR = true) (hdis : ∀ i ∈ isR, i ∉ isC)
    (k : ∀ (z : Int) (w : va_W) (H1 : Heap) (locs1 : List Loc), post z w → va_P D cl (wr ++ w) H1 → va_D A (wr ++ w) → va_S A H0 H1 locs1 → W p l e R s m args below meth c H1 locs1 cells slots Q (F0 m (pc + 3) ls (.int (iI z) :: rest))) : W p l e R s m args below meth c H locs cells slots Q (F0 m pc ls st0) := by
  have hF := va_free (wc := wc) hD hS hA isC hC
  refine va_calli hr hS (fun q _ h => hF q h) hF (fun r w t H1 locs1 ht hvm hw hB hz1 hk1 hS1 => ?_)
  obtain ⟨z, rfl, hp⟩ := hw
  obtain ⟨hP1, hK1, hD1⟩ := hB
  rw [ht] at hP1
  obtain ⟨hP2, hD2⟩ := va_join (wr := wr) (w1 := w) hP hD isC isR hC hR hn hdis hk1 hF hP1 hD1
  exact k z w H1 locs1 hp hP2 hD2 hS1
/-- the callee leaves its cells as they were -/
theorem rz_calliR {post : Int → Prop} (hr : va_Run p l e R s m args below meth c H locs cells slots 0 0 (F0 m pc ls st0) rest (va_Qi (fun r w => ∃ z : Int, r = iI z ∧ (w = wc ∧ post z)) (cB D cl tys (va_A wc H.size)) (va_A wc H.size) av) (va_A wc H.size))
    (hP : va_P D cl ws H) (hD : va_D A ws) (hS : va_S A H0 H locs) (hA : ∀ q, H0.size ≤ q → A q) (isC : List Nat) (hC : isC.map (fun i => ws[i]?) = wc.map some)
    (k : ∀ (z : Int) (H1 : Heap) (locs1 : List Loc), post z → va_P D cl ws H1 → va_S A H0 H1 locs1 → W p l e R s m args below meth c H1 locs1 cells slots Q (F0 m (pc + 3) ls (.int (iI z) :: rest))) : W p l e R s m args below meth c H locs cells slots Q (F0 m pc ls st0) := by
  have hF := va_free (wc := wc) hD hS hA isC hC
  refine va_calli hr hS (fun q _ h => hF q h) hF (fun r w t H1 locs1 ht hvm hw hB hz1 hk1 hS1 => ?_)
  obtain ⟨z, rfl, rfl, hp⟩ := hw
  obtain ⟨hP1, hK1, hD1⟩ := hB
  rw [ht] at hP1
  exact k z H1 locs1 hp (va_keep hP hD isC hC hk1 hP1) hS1
theorem rz_callv {post : va_W → Prop} (hr : va_Run p l e R s m args below meth c H locs cells slots 0 0 (F0 m pc ls st0) rest (va_Qv post (cB D cl tys (va_A wc H.size)) (va_A wc H.size) av) (va_A wc H.size))
    (hP : va_P D cl ws H) (hD : va_D A ws) (hS : va_S A H0 H locs) (hA : ∀ q, H0.size ≤ q → A q) (isC isR : List Nat) (hC : isC.map (fun i => ws[i]?) = wc.map some) (hR : isR.map (fun i => ws[i]?) = wr.map some) (hn : va_nd isR = true) (hdis : ∀ i ∈ isR, i ∉ isC)
    (k : ∀ (w : va_W) (H1 : Heap) (locs1 : List Loc), post w → va_P D cl (wr ++ w) H1 → va_D A (wr ++ w) → va_S A H0 H1 locs1 → W p l e R s m args below meth c H1 locs1 cells slots Q (F0 m (pc + 3) ls rest)) : W p l e R s m args below meth c H locs cells slots Q (F0 m pc ls st0) := by
  have hF := va_free (wc := wc) hD hS hA isC hC
  refine va_callv hr hS (fun q _ h => hF q h) hF (fun w t H1 locs1 ht hvm hw hB hz1 hk1 hS1 => ?_)
  obtain ⟨hP1, hK1, hD1⟩ := hB
  rw [ht] at hP1
  obtain ⟨hP2, hD2⟩ := va_join (wr := wr) (w1 := w) hP hD isC isR hC hR hn hdis hk1 hF hP1 hD1
  exact k w H1 locs1 hw hP2 hD2 hS1
end RC
/-! a method by its walk: all that is the same for every method stands here once; the end 'hret' is handed to the walk, the machine's aim Q stays shut -/
theorem Ci_of {l : Launch} {y : MethodName} {wd wd' : List Cond} {rm : Room} {D : va_G} {cl : List vw_C} {tys : List (ClassId × FieldType)} {av : List Value} {ws : va_W} {sz : Nat} {post : Int → va_W → Prop} {mc ms : Nat} {cc : ByteArray} {nL : Nat} (hy : plainName y.cls = true) (hw : wd = Cond.code y cc nL (some .int) :: wd') (hl0 : (lg_sl av).length ≤ nL)
    (body : ∀ (p : Program) (e : Env) (s : State) (m : MethodId) (below : List Frame) (meth : Method) (c : Code) (A : Nat → Prop) (Q : State → Prop), s.heap.size = sz → CallFix p m c cc nL s av.toArray wd y.cls → va_K D cl tys s → nK s → (∀ q : Nat, s.heap.size ≤ q → A q) → va_P D cl ws s.heap → va_D A ws → va_S A s.heap s.heap [] →
      (∀ (z : Int) (w : va_W) (H : Heap) (locs : List Loc) (ls : Array Slot) (pc : Nat), decode cc pc = .ok (.ireturn, 1) → post z w → va_P D cl w H → va_D A w → va_S A s.heap H locs → W p l e rm s m av.toArray below meth c H locs mc ms Q (F0 m pc ls [.int (iI z)])) →
      ∀ (ls : Array Slot), lv_has ls nL (lv_args 0 av) → W p l e rm s m av.toArray below meth c s.heap [] 0 0 Q (F0 m 0 ls [])) : Ci l y wd rm D cl tys av ws sz post mc ms := by
  refine Met.ofW (cc := cc) (maxL := nL) (ret := some .int) hy hw ?_
  intro p e s m args below meth c s₁ B hml hv
  obtain ⟨rfl, hsz, hP, hK, hN, hD0⟩ := hv
  have hx := B.exec
  have hb := B.bytes
  have hr := B.returns
  have hts := atoms_spec (ws := wd) B.pre
  have hown : s.vm.findClass y.cls = some m.cls := findClass_of_methodNamed B.named
  have hlocks := B.notSynchronized
  have hD := hD0.self (sz := sz)
  rw [lg_entry_eq]
  refine body p e s m below meth c (va_A ws sz) _ hsz ⟨hx, hb, hml, hown, hts⟩ hK hN (fun q h => Or.inr (by omega)) hP hD va_S.rf ?_ _ (lv_entry av hl0)
  intro z w H locs ls pc hd hp h1 h2 h3
  exact W.iret hx hb hr (fun t ht hW => ⟨⟨iI z, w, rfl, ⟨z, rfl, hp⟩, by rw [ht]; exact h1, va_K.moved hW.alike hK, h2⟩, h3.F ht⟩) h3.2.2 hd
theorem b2z_nar (b : Bool) : narrow .boolean (.int (iI (b2z b))) = .int (iI (b2z b)) := by cases b <;> decide +kernel
theorem Cz_of {l : Launch} {y : MethodName} {wd wd' : List Cond} {rm : Room} {D : va_G} {cl : List vw_C} {tys : List (ClassId × FieldType)} {av : List Value} {ws : va_W} {sz : Nat} {post : Int → va_W → Prop} {mc ms : Nat} {cc : ByteArray} {nL : Nat} (hy : plainName y.cls = true) (hw : wd = Cond.code y cc nL (some .boolean) :: wd') (hl0 : (lg_sl av).length ≤ nL)
    (body : ∀ (p : Program) (e : Env) (s : State) (m : MethodId) (below : List Frame) (meth : Method) (c : Code) (A : Nat → Prop) (Q : State → Prop), s.heap.size = sz → CallFix p m c cc nL s av.toArray wd y.cls → va_K D cl tys s → nK s → (∀ q : Nat, s.heap.size ≤ q → A q) → va_P D cl ws s.heap → va_D A ws → va_S A s.heap s.heap [] →
      (∀ (z : Int) (w : va_W) (H : Heap) (locs : List Loc) (ls : Array Slot) (pc : Nat), decode cc pc = .ok (.ireturn, 1) → (z = 0 ∨ z = 1) → post z w → va_P D cl w H → va_D A w → va_S A s.heap H locs → W p l e rm s m av.toArray below meth c H locs mc ms Q (F0 m pc ls [.int (iI z)])) →
      ∀ (ls : Array Slot), lv_has ls nL (lv_args 0 av) → W p l e rm s m av.toArray below meth c s.heap [] 0 0 Q (F0 m 0 ls [])) : Ci l y wd rm D cl tys av ws sz post mc ms := by
  refine Met.ofW (cc := cc) (maxL := nL) (ret := some .boolean) hy hw ?_
  intro p e s m args below meth c s₁ B hml hv
  obtain ⟨rfl, hsz, hP, hK, hN, hD0⟩ := hv
  have hx := B.exec
  have hb := B.bytes
  have hr := B.returns
  have hts := atoms_spec (ws := wd) B.pre
  have hown : s.vm.findClass y.cls = some m.cls := findClass_of_methodNamed B.named
  have hlocks := B.notSynchronized
  have hD := hD0.self (sz := sz)
  rw [lg_entry_eq]
  refine body p e s m below meth c (va_A ws sz) _ hsz ⟨hx, hb, hml, hown, hts⟩ hK hN (fun q h => Or.inr (by omega)) hP hD va_S.rf ?_ _ (lv_entry av hl0)
  intro z w H locs ls pc hd hz hp h1 h2 h3
  exact W.zret hx hb hr (by rcases hz with rfl | rfl <;> decide +kernel) (fun t ht hW => ⟨⟨iI z, w, rfl, ⟨z, rfl, hp⟩, by rw [ht]; exact h1, va_K.moved hW.alike hK, h2⟩, h3.F ht⟩) h3.2.2 hd
theorem Cv_of {l : Launch} {y : MethodName} {wd wd' : List Cond} {rm : Room} {D : va_G} {cl : List vw_C} {tys : List (ClassId × FieldType)} {av : List Value} {ws : va_W} {sz : Nat} {post : va_W → Prop} {mc ms : Nat} {cc : ByteArray} {nL : Nat} (hy : plainName y.cls = true) (hw : wd = Cond.code y cc nL none :: wd') (hl0 : (lg_sl av).length ≤ nL)
    (body : ∀ (p : Program) (e : Env) (s : State) (m : MethodId) (below : List Frame) (meth : Method) (c : Code) (A : Nat → Prop) (Q : State → Prop), s.heap.size = sz → CallFix p m c cc nL s av.toArray wd y.cls → va_K D cl tys s → nK s → (∀ q : Nat, s.heap.size ≤ q → A q) → va_P D cl ws s.heap → va_D A ws → va_S A s.heap s.heap [] → meth.name = y.name →
      (∀ (w : va_W) (H : Heap) (locs : List Loc) (ls : Array Slot) (pc : Nat), decode cc pc = .ok (.return_, 1) → post w → va_P D cl w H → va_D A w → va_S A s.heap H locs → W p l e rm s m av.toArray below meth c H locs mc ms Q (F0 m pc ls [])) →
      ∀ (ls : Array Slot), lv_has ls nL (lv_args 0 av) → W p l e rm s m av.toArray below meth c s.heap [] 0 0 Q (F0 m 0 ls [])) : Cv l y wd rm D cl tys av ws sz post mc ms := by
  refine Met.ofW (cc := cc) (maxL := nL) (ret := none) hy hw ?_
  intro p e s m args below meth c s₁ B hml hv
  obtain ⟨rfl, hsz, hP, hK, hN, hD0⟩ := hv
  have hx := B.exec
  have hb := B.bytes
  have hr := B.returns
  have hts := atoms_spec (ws := wd) B.pre
  have hown : s.vm.findClass y.cls = some m.cls := findClass_of_methodNamed B.named
  have hlocks := B.notSynchronized
  have hin : meth.name = y.name := (name_of_methodNamed B.named B.method).1
  have hD := hD0.self (sz := sz)
  rw [lg_entry_eq]
  refine body p e s m below meth c (va_A ws sz) _ hsz ⟨hx, hb, hml, hown, hts⟩ hK hN (fun q h => Or.inr (by omega)) hP hD va_S.rf hin ?_ _ (lv_entry av hl0)
  intro w H locs ls pc hd hp h1 h2 h3
  exact W.vret hx hb hr (fun t ht hW => ⟨⟨w, rfl, hp, by rw [ht]; exact h1, va_K.moved hW.alike hK, h2⟩, h3.F ht⟩) h3.2.2 hd
theorem Cl_of {l : Launch} {y : MethodName} {wd wd' : List Cond} {rm : Room} {D : va_G} {cl : List vw_C} {tys : List (ClassId × FieldType)} {av : List Value} {ws : va_W} {sz : Nat} {post : Int64 → va_W → Prop} {mc ms : Nat} {cc : ByteArray} {nL : Nat} (hy : plainName y.cls = true) (hw : wd = Cond.code y cc nL (some .long) :: wd') (hl0 : (lg_sl av).length ≤ nL)
    (body : ∀ (p : Program) (e : Env) (s : State) (m : MethodId) (below : List Frame) (meth : Method) (c : Code) (A : Nat → Prop) (Q : State → Prop), s.heap.size = sz → CallFix p m c cc nL s av.toArray wd y.cls → va_K D cl tys s → nK s → (∀ q : Nat, s.heap.size ≤ q → A q) → va_P D cl ws s.heap → va_D A ws → va_S A s.heap s.heap [] →
      (∀ (z : Int64) (w : va_W) (H : Heap) (locs : List Loc) (ls : Array Slot) (pc : Nat), decode cc pc = .ok (.lreturn, 1) → post z w → va_P D cl w H → va_D A w → va_S A s.heap H locs → W p l e rm s m av.toArray below meth c H locs mc ms Q (F0 m pc ls [.long z])) →
      ∀ (ls : Array Slot), lv_has ls nL (lv_args 0 av) → W p l e rm s m av.toArray below meth c s.heap [] 0 0 Q (F0 m 0 ls [])) : Cl l y wd rm D cl tys av ws sz post mc ms := by
  refine Met.ofW (cc := cc) (maxL := nL) (ret := some .long) hy hw ?_
  intro p e s m args below meth c s₁ B hml hv
  obtain ⟨rfl, hsz, hP, hK, hN, hD0⟩ := hv
  have hx := B.exec
  have hb := B.bytes
  have hr := B.returns
  have hts := atoms_spec (ws := wd) B.pre
  have hown : s.vm.findClass y.cls = some m.cls := findClass_of_methodNamed B.named
  have hlocks := B.notSynchronized
  have hD := hD0.self (sz := sz)
  rw [lg_entry_eq]
  refine body p e s m below meth c (va_A ws sz) _ hsz ⟨hx, hb, hml, hown, hts⟩ hK hN (fun q h => Or.inr (by omega)) hP hD va_S.rf ?_ _ (lv_entry av hl0)
  intro z w H locs ls pc hd hp h1 h2 h3
  exact W.lret hx hb hr (fun t ht hW => ⟨⟨z, w, rfl, hp, by rw [ht]; exact h1, va_K.moved hW.alike hK, h2⟩, h3.F ht⟩) h3.2.2 hd
end
section
/-! words at a call, by their places in the tables; rooms by depth; Math.max, min, abs -/
def rmD (d : Nat) : Room := { frames := d, cells := 0, slots := 0, locals := 40 * d }
theorem gG {c : Cond} {ws : List Cond} (h : ∀ w ∈ ws, w ∈ lw_g) : GoodIn (c :: lw_g) ws := fun w hw => ⟨List.mem_cons_of_mem _ (h w hw), good_of_word (List.mem_filter.mp (h w hw)).2⟩
theorem gGL {ws : List Cond} (h : ∀ w ∈ ws, w ∈ lw_g) : GoodIn lw_g ws := fun w hw => ⟨h w hw, good_of_word (List.mem_filter.mp (h w hw)).2⟩
theorem g_c {d : Cond} (h : d ∈ lw_g) : ∀ w ∈ d :: lw_g, w ∈ lw_g := fun w hw => (List.mem_cons.mp hw).elim (fun e => e ▸ h) id
theorem g_V {own C : String} {i : Nat} {y : MethodName} {d : Cond} (h1 : Cond.methodLink own i y ∈ lw_g) (h2 : Cond.instanceMethod y ∈ lw_g) (h3 : Cond.selects C y y ∈ lw_g) (h4 : Cond.initialized C ∈ lw_g) (h5 : d ∈ lw_g) : ∀ w ∈ wsV own i C y (d :: lw_g), w ∈ lw_g := fun w hw => by
  rcases List.mem_append.mp hw with h | h
  · simp only [List.mem_cons, List.not_mem_nil, or_false] at h
    rcases h with rfl | rfl | rfl | rfl
    · exact h1
    · exact h2
    · exact h3
    · exact h4
  · exact g_c h5 w h
theorem g_S {own : String} {i : Nat} {y : MethodName} {d : Cond} (h1 : Cond.methodLink own i y ∈ lw_g) (h2 : Cond.static y ∈ lw_g) (h4 : Cond.initialized y.cls ∈ lw_g) (h5 : d ∈ lw_g) : ∀ w ∈ va_wsS own i y (d :: lw_g), w ∈ lw_g := fun w hw => by
  rcases List.mem_append.mp hw with h | h
  · simp only [List.mem_cons, List.not_mem_nil, or_false] at h
    rcases h with rfl | rfl | rfl
    · exact h1
    · exact h2
    · exact h4
  · exact g_c h5 w h
theorem iI_incK (i k : Nat) : iI (i : Int) + Int32.ofInt (k : Int) = iI ((i + k : Nat) : Int) := by
  show iI (i : Int) + iI (k : Int) = _
  rw [iI_add]; congr 1
theorem iI_decK {i k : Nat} (h : k ≤ i) : iI (i : Int) + Int32.ofInt (-(k : Int)) = iI ((i - k : Nat) : Int) := by
  show iI (i : Int) + iI (-(k : Int)) = _
  rw [iI_add]; congr 1; omega
theorem nI_xor (a b : Nat) : nI a ^^^ nI b = nI (a ^^^ b) := by
  apply Int32.toBitVec.inj
  show BitVec.ofNat 32 a ^^^ BitVec.ofNat 32 b = BitVec.ofNat 32 (a ^^^ b)
  exact (BitVec.ofNat_xor).symm
/-- the bits of x that y has not -/
def dif (x y : Nat) : Nat := x &&& (y ^^^ 4294967295)
theorem iI_m1 : iI (-1) = nI 4294967295 := by decide +kernel
theorem iI_dif (x y : Nat) : iI (x : Int) &&& (iI (y : Int) ^^^ iI (-1)) = iI ((dif x y : Nat) : Int) := by
  rw [iI_m1, iI_n y, nI_xor, ← iI_n, iI_and]; rfl
theorem dif_tb {x y i : Nat} (h : i < 32) : (dif x y).testBit i = (x.testBit i && !(y.testBit i)) := by
  rw [dif, Nat.testBit_and, Nat.testBit_xor, show (4294967295 : Nat) = 2 ^ 32 - 1 from rfl, Nat.testBit_two_pow_sub_one]
  simp [h]
theorem dif_le (x y : Nat) : dif x y ≤ x := Nat.and_le_left
theorem sh_us : ∀ n, n < 32 → (((nI n).toUInt32 &&& Int32.toUInt32 31).toBitVec % 32).toNat = n := by decide +kernel
section RM
variable {p : Program} {l : Launch} {e : Env} {R : Room} {s : State} {m : MethodId} {args : Array Value} {below : List Frame} {meth : Method} {c : Code} {H H0 : Heap} {locs : List Loc} {cells slots : Nat} {Q : State → Prop} {cc : ByteArray} {pc : Nat} {ls : Array Slot} {rest : List Value} {a b : Int} {own : String} {index : Nat} {c0 : Cond}
theorem iI_max (ha : -2147483648 ≤ a ∧ a < 2147483648) (hb : -2147483648 ≤ b ∧ b < 2147483648) : (if iI a < iI b then iI b else iI a) = iI (max a b) := by
  by_cases h : a < b
  · rw [if_pos ((iI_lt ha hb).mpr h)]; congr 1; omega
  · rw [if_neg (fun q => h ((iI_lt ha hb).mp q))]; congr 1; omega
theorem rz_mmax (hx : p.tables.exec = Jvm.exec) (hb : c.code = cc) (hml : c.maxLocals = ls.size) (hown : s.vm.findClass own = some m.cls) (hts : ∀ w ∈ c0 :: lw_g, w.before args s = true) (hm : Cond.methodLink own index Lib.Math.max.name ∈ lw_g) (hf : 1 ≤ R.frames) (hlo : (rest.map fun v => v.category).sum + 13 ≤ R.locals) (hc : cells ≤ R.cells) (hs : slots ≤ R.slots) (hd : decode cc pc = .ok (.invokestatic index, 3)) (ha : -2147483648 ≤ a ∧ a < 2147483648) (hq : -2147483648 ≤ b ∧ b < 2147483648)
    (k : W p l e R s m args below meth c H locs cells slots Q (F0 m (pc + 3) ls (.int (iI (max a b)) :: rest))) : W p l e R s m args below meth c H locs cells slots Q (F0 m pc ls (.int (iI b) :: .int (iI a) :: rest)) :=
  va_mmax hx hb hml hown (hts _ (List.mem_cons_of_mem _ hm)) (hts _ (List.mem_cons_of_mem _ ts_J9_max)) (hts _ (List.mem_cons_of_mem _ tin_J9)) (hts _ (List.mem_cons_of_mem _ tcode_max)) hf hlo hc hs hd (by rw [iI_max ha hq]; exact k)
theorem rz_raw {x : Int32} {y : Int} (he : x = iI y) (k : W p l e R s m args below meth c H locs cells slots Q (F0 m pc ls (.int (iI y) :: rest))) : W p l e R s m args below meth c H locs cells slots Q (F0 m pc ls (.int x :: rest)) := by rw [he]; exact k
theorem rz_ushr {x n : Nat} (hx : p.tables.exec = Jvm.exec) (hb : c.code = cc) (hd : decode cc pc = .ok (.iushr, 1)) (hn : n < 32) (h : x < 2147483648) (k : W p l e R s m args below meth c H locs cells slots Q (F0 m (pc + 1) ls (.int (iI ((x / 2 ^ n : Nat) : Int)) :: rest))) : W p l e R s m args below meth c H locs cells slots Q (F0 m pc ls (.int (iI (n : Int)) :: .int (iI (x : Int)) :: rest)) :=
  lv_iushr hx hb hd (by rw [iI_n, iI_n, iI_n]; exact pk_ushrN (by omega) _ n (sh_us n hn)) k
theorem iI_abs (ha : -2147483648 < a ∧ a < 2147483648) : (if 0 ≤ iI a then iI a else 0 - iI a) = iI (if 0 ≤ a then a else -a) := by
  by_cases h : 0 ≤ a
  · rw [if_pos (by rw [← iI_0]; exact (iI_le (by omega) (by omega)).mpr h), if_pos h]
  · rw [if_neg (by rw [← iI_0]; exact fun q => h ((iI_le (by omega) (by omega)).mp q)), if_neg h, ← iI_0, iI_sub]; congr 1; omega
theorem rz_mabs (hx : p.tables.exec = Jvm.exec) (hb : c.code = cc) (hml : c.maxLocals = ls.size) (hown : s.vm.findClass own = some m.cls) (hts : ∀ w ∈ c0 :: lw_g, w.before args s = true) (hm : Cond.methodLink own index Lib.Math.abs.name ∈ lw_g) (hf : 1 ≤ R.frames) (hlo : (rest.map fun v => v.category).sum + 13 ≤ R.locals) (hc : cells ≤ R.cells) (hs : slots ≤ R.slots) (hd : decode cc pc = .ok (.invokestatic index, 3)) (ha : -2147483648 < a ∧ a < 2147483648)
    (k : W p l e R s m args below meth c H locs cells slots Q (F0 m (pc + 3) ls (.int (iI (if 0 ≤ a then a else -a)) :: rest))) : W p l e R s m args below meth c H locs cells slots Q (F0 m pc ls (.int (iI a) :: rest)) :=
  va_mabs hx hb hml hown (hts _ (List.mem_cons_of_mem _ hm)) (hts _ (List.mem_cons_of_mem _ ts_J9_abs)) (hts _ (List.mem_cons_of_mem _ tin_J9)) (hts _ (List.mem_cons_of_mem _ tcode_abs)) hf (by omega) hc hs hd (by rw [iI_abs ha]; exact k)
theorem iI_min (ha : -2147483648 ≤ a ∧ a < 2147483648) (hb : -2147483648 ≤ b ∧ b < 2147483648) : (if iI b < iI a then iI b else iI a) = iI (min a b) := by
  by_cases h : b < a
  · rw [if_pos ((iI_lt hb ha).mpr h)]; congr 1; omega
  · rw [if_neg (fun q => h ((iI_lt hb ha).mp q))]; congr 1; omega
theorem rz_mmin (hx : p.tables.exec = Jvm.exec) (hb : c.code = cc) (hml : c.maxLocals = ls.size) (hown : s.vm.findClass own = some m.cls) (hts : ∀ w ∈ c0 :: lw_g, w.before args s = true) (hm : Cond.methodLink own index Lib.Math.min.name ∈ lw_g) (hf : 1 ≤ R.frames) (hlo : (rest.map fun v => v.category).sum + 13 ≤ R.locals) (hc : cells ≤ R.cells) (hs : slots ≤ R.slots) (hd : decode cc pc = .ok (.invokestatic index, 3)) (ha : -2147483648 ≤ a ∧ a < 2147483648) (hq : -2147483648 ≤ b ∧ b < 2147483648)
    (k : W p l e R s m args below meth c H locs cells slots Q (F0 m (pc + 3) ls (.int (iI (min a b)) :: rest))) : W p l e R s m args below meth c H locs cells slots Q (F0 m pc ls (.int (iI b) :: .int (iI a) :: rest)) :=
  va_mmin hx hb hml hown (hts _ (List.mem_cons_of_mem _ hm)) (hts _ (List.mem_cons_of_mem _ ts_J9_min)) (hts _ (List.mem_cons_of_mem _ tin_J9)) (hts _ (List.mem_cons_of_mem _ tcode_min)) hf hlo hc hs hd (by rw [iI_min ha hq]; exact k)
theorem nZ_c (f g : Nat → Nat) (sp dp n : Nat) : va_cpy (zA (nZ f)) (zA (nZ g)) sp dp n = zA (nZ (va_cpy f g sp dp n)) := by
  funext j; simp only [va_cpy, zA, nZ]; split <;> rfl
theorem zZ_c (f g : Nat → Int) (sp dp n : Nat) : va_cpy (zA f) (zA g) sp dp n = zA (va_cpy f g sp dp n) := by
  funext j; simp only [va_cpy, zA]; split <;> rfl
theorem n_nlt {x : Nat} (h : x < 2147483648) : ¬ iI (x : Int) < 0 := by rw [← iI_0, iI_lt (by omega) (by omega)]; omega
theorem n_cl {x : Nat} (h : x < 2147483648) : (iI (x : Int)).toNatClampNeg = x := by rw [iI_cl (by omega), Int.toNat_natCast]
variable {D : va_G} {cl : List vw_C} {tys : List (ClassId × FieldType)} {ws : va_W} {A : Nat → Prop} {cA cB : ClassId} {n0 n1 a0 a1 sp dp n : Nat} {f g : Nat → Nat}
theorem rn_copyM (hx : p.tables.exec = Jvm.exec) (hb : c.code = cc) (hml : c.maxLocals = ls.size) (hown : s.vm.findClass own = some m.cls) (hts : ∀ w ∈ c0 :: lw_g, w.before args s = true) (hm : Cond.methodLink own index arraycopyName ∈ lw_g) (hK : va_K D cl tys s) (hP : va_P D cl ws H) (hD : va_D A ws) (hS : va_S A H0 H locs) (q0 q1 t0 : Nat) (ha0 : ws[q0]? = some (a0, .inl (cA, n0, .inl (zA (nZ f))))) (ha1 : ws[q1]? = some (a1, .inl (cA, n1, .inl (zA (nZ g))))) (ht : tys[t0]? = some (cA, .int)) (h4 : sp + n ≤ n0) (h5 : dp + n ≤ n1) (hn0 : n0 < 2147483648) (hn1 : n1 < 2147483648) (hfr : 1 ≤ R.frames) (hlo : (rest.map fun v => v.category).sum + (nativeFrameWords "java/lang/System" "arraycopy" 5 + 11) ≤ R.locals) (hd : decode cc pc = .ok (.invokestatic index, 3))
    (k : ∀ (H1 : Heap) (locs1 : List Loc), va_P D cl (ws.set q1 (a1, .inl (cA, n1, .inl (zA (nZ (va_cpy f g sp dp n)))))) H1 → va_D A (ws.set q1 (a1, .inl (cA, n1, .inl (zA (nZ (va_cpy f g sp dp n)))))) → va_S A H0 H1 locs1 → W p l e R s m args below meth c H1 locs1 cells slots Q (F0 m (pc + 3) ls rest)) : W p l e R s m args below meth c H locs cells slots Q (F0 m pc ls (.int (iI (n : Int)) :: .int (iI (dp : Int)) :: .ref a1 :: .int (iI (sp : Int)) :: .ref a0 :: rest)) := by
  refine va_copyi hx hb hml hown (hts _ (List.mem_cons_of_mem _ hm)) (hts _ (List.mem_cons_of_mem _ tnat_J10_arraycopy)) (hts _ (List.mem_cons_of_mem _ ts_J10_arraycopy)) (hts _ (List.mem_cons_of_mem _ tin_J10)) hK hP hD hS q0 q1 t0 t0 ha0 ha1 ht ht rfl (n_nlt (by omega)) (n_nlt (by omega)) (n_nlt (by omega)) (by rw [n_cl (by omega), n_cl (by omega)]; exact h4) (by rw [n_cl (by omega), n_cl (by omega)]; exact h5) (fun i _ => rfl) hfr hlo hd (fun H1 locs1 h1 h2 h3 => ?_)
  rw [n_cl (by omega), n_cl (by omega), n_cl (by omega), nZ_c] at h1 h2
  exact k H1 locs1 h1 h2 h3
end RM
end
section
/-! pure words of the class, and its small methods -/
def daysF (a b : Int) : Nat := if max a 0 ≤ min b 9 then 1 * 2 ^ (min b 9 + 1).toNat - 1 * 2 ^ (max a 0).toNat else 0
theorem pw_lt {n : Nat} (h : n ≤ 31) : 1 * 2 ^ n < 4294967296 := by
  rw [Nat.one_mul]; exact Nat.lt_of_le_of_lt (Nat.pow_le_pow_right (by decide) h) (by decide)
theorem pw_le {n k : Nat} (h : n ≤ k) : 1 * 2 ^ n ≤ 1 * 2 ^ k := by
  rw [Nat.one_mul, Nat.one_mul]; exact Nat.pow_le_pow_right (by decide) h
theorem tb_e (x b : Nat) : (x / 2 ^ b &&& 1) = (x.testBit b).toNat := by
  rw [Nat.and_one_is_mod, Nat.toNat_testBit]
theorem tb_f {x b : Nat} (h : (((x / 2 ^ b &&& 1 : Nat)) : Int) = 0) : x.testBit b = false := by
  rw [tb_e] at h; cases hb : x.testBit b
  · rfl
  · rw [hb] at h; exact absurd h (by decide)
theorem tb_t {x b : Nat} (h : (((x / 2 ^ b &&& 1 : Nat)) : Int) ≠ 0) : x.testBit b = true := by
  rw [tb_e] at h; cases hb : x.testBit b
  · rw [hb] at h; exact absurd rfl h
  · rfl
theorem tb_r (x b : Nat) : (x / 2 ^ b &&& 1) ≤ 1 := by
  rw [tb_e]; cases x.testBit b <;> decide
/-- the member of a set that has k smaller ones in it: r to look at, from b on, sn seen -/
def memF (X : Nat → Bool) (k : Int) : Nat → Nat → Int → Int
  | 0, _, _ => -1
  | r + 1, b, sn => if X b = true then (if sn = k then (b : Int) else memF X k r (b + 1) (sn + 1)) else memF X k r (b + 1) sn
theorem memF_0 {X : Nat → Bool} {k sn : Int} {N b : Nat} (h : N ≤ b) : memF X k (N - b) b sn = -1 := by
  rw [Nat.sub_eq_zero_of_le h]; rfl
theorem memF_1 {X : Nat → Bool} {k sn : Int} {N b : Nat} (h : b < N) (hx : X b = true) (hk : sn = k) : memF X k (N - b) b sn = (b : Int) := by
  obtain ⟨r, hr⟩ : ∃ r, N - b = r + 1 := ⟨N - b - 1, by omega⟩
  rw [hr, memF, if_pos hx, if_pos hk]
theorem memF_2 {X : Nat → Bool} {k sn : Int} {N b : Nat} (h : b < N) (hx : X b = true) (hk : sn ≠ k) : memF X k (N - b) b sn = memF X k (N - (b + 1)) (b + 1) (sn + 1) := by
  obtain ⟨r, hr⟩ : ∃ r, N - b = r + 1 := ⟨N - b - 1, by omega⟩
  rw [hr, memF, if_pos hx, if_neg hk, show N - (b + 1) = r by omega]
theorem memF_3 {X : Nat → Bool} {k sn : Int} {N b : Nat} (h : b < N) (hx : X b = false) : memF X k (N - b) b sn = memF X k (N - (b + 1)) (b + 1) sn := by
  obtain ⟨r, hr⟩ : ∃ r, N - b = r + 1 := ⟨N - b - 1, by omega⟩
  rw [hr, memF, if_neg (by rw [hx]; decide), show N - (b + 1) = r by omega]

set_option maxHeartbeats 4000000 in
set_option maxRecDepth 100000 in
theorem k_X0_isFull (l : Launch) (D : va_G) (cI cZ : ClassId) (sz : Nat) (hB : Nat) (qL : Nat) (qP : Nat) (qE : Nat) (qF : Nat) (n : Nat) (hn : n ≤ 4) : Ci l yX0_isFull wsX0_isFull (rmD 0) D vwCl [(cI, .int), (cZ, .boolean)] [.ref hB] [(hB, .inr (0, [.ref qL, .ref qP, .ref qE, .ref qF, .int (iI (((n : Nat) : Int)))]))] sz (fun z w => w = [(hB, .inr (0, [.ref qL, .ref qP, .ref qE, .ref qF, .int (iI (((n : Nat) : Int)))]))] ∧ (z = b2z (decide (4 ≤ n)))) 0 0 := by
  refine Cz_of (cc := cX0_isFull) (nL := 1) (by decide) rfl (Nat.le_of_ble_eq_true rfl) ?_
  intro p e s m below meth c A Q hsz C hK hN hA hP hD hS hret ls hl
  obtain ⟨hx, hb, hml, hown, hts⟩ := id C
  have hown : s.vm.findClass RX0 = some m.cls := hown
  have hl : lv_has ls 1 [(0, .ref hB)] := hl
  have in_X0 : ∀ w ∈ u_ws RX0 TX0 5, w ∈ wsX0_isFull := fun w h => List.mem_cons_of_mem _ (inX0 w h)
  refine lv_aload_n hx hb dX0_isFull_0 rfl (lv_at hl 0 rfl) ?_
  refine va_get (D := D) (ci := 0) (v := .int (iI (((n : Nat) : Int)))) (C := RX0) (T := TX0) (N := 5) hx hb hts in_X0 hown hK hP 0 rfl rfl 4 (by decide) (hts _ (List.mem_cons_of_mem _ tf_X0_25)) (fun _ h9 => h9) rfl dX0_isFull_1 ?_
  refine lv_iconst (v := iI (((4 : Nat) : Int))) hx hb dX0_isFull_4 (by decide +kernel) ?_
  refine rz_clt (tgt := 12) hx hb dX0_isFull_5 (by decide) (by omega) (by omega) (fun c1 => ?_) (fun c1 => ?_)
  · refine lv_iconst (v := iI (((0 : Nat) : Int))) hx hb dX0_isFull_12 (by decide +kernel) ?_
    exact hret _ _ _ _ _ _ dX0_isFull_13 (Or.inl rfl) ⟨rfl, (by first | exact (b2z_t (by omega)).symm | exact (b2z_f (by omega)).symm)⟩ hP hD hS
  · refine lv_iconst (v := iI (((1 : Nat) : Int))) hx hb dX0_isFull_8 (by decide +kernel) ?_
    refine lv_goto (tgt := 13) hx hb dX0_isFull_9 (by decide) ?_
    exact hret _ _ _ _ _ _ dX0_isFull_13 (Or.inr rfl) ⟨rfl, (by first | exact (b2z_t (by omega)).symm | exact (b2z_f (by omega)).symm)⟩ hP hD hS

set_option maxHeartbeats 4000000 in
set_option maxRecDepth 100000 in
theorem k_X0_has (l : Launch) (D : va_G) (cI cZ : ClassId) (sz : Nat) (hB : Nat) (qL : Nat) (qP : Nat) (qE : Nat) (qF : Nat) (n : Nat) (k : Int) (hn : n ≤ 4) (hk : -2147483648 ≤ k ∧ k < 2147483648) : Ci l yX0_has wsX0_has (rmD 0) D vwCl [(cI, .int), (cZ, .boolean)] [.ref hB, .int (iI (k))] [(hB, .inr (0, [.ref qL, .ref qP, .ref qE, .ref qF, .int (iI (((n : Nat) : Int)))]))] sz (fun z w => w = [(hB, .inr (0, [.ref qL, .ref qP, .ref qE, .ref qF, .int (iI (((n : Nat) : Int)))]))] ∧ (z = b2z (decide (0 ≤ k ∧ k < ((n : Nat) : Int))))) 0 0 := by
  refine Cz_of (cc := cX0_has) (nL := 2) (by decide) rfl (Nat.le_of_ble_eq_true rfl) ?_
  intro p e s m below meth c A Q hsz C hK hN hA hP hD hS hret ls hl
  obtain ⟨hx, hb, hml, hown, hts⟩ := id C
  have hown : s.vm.findClass RX0 = some m.cls := hown
  have hl : lv_has ls 2 [(0, .ref hB), (1, .int (iI (k)))] := hl
  have in_X0 : ∀ w ∈ u_ws RX0 TX0 5, w ∈ wsX0_has := fun w h => List.mem_cons_of_mem _ (inX0 w h)
  refine lv_iload_n hx hb dX0_has_0 rfl (lv_at hl 1 rfl) ?_
  refine rz_ilt (tgt := 16) hx hb dX0_has_1 (by decide) (by omega) (fun c1 => ?_) (fun c1 => ?_)
  · refine lv_iconst (v := iI (((0 : Nat) : Int))) hx hb dX0_has_16 (by decide +kernel) ?_
    exact hret _ _ _ _ _ _ dX0_has_17 (Or.inl rfl) ⟨rfl, (by first | exact (b2z_t (by omega)).symm | exact (b2z_f (by omega)).symm)⟩ hP hD hS
  · refine lv_iload_n hx hb dX0_has_4 rfl (lv_at hl 1 rfl) ?_
    refine lv_aload_n hx hb dX0_has_5 rfl (lv_at hl 0 rfl) ?_
    refine va_get (D := D) (ci := 0) (v := .int (iI (((n : Nat) : Int)))) (C := RX0) (T := TX0) (N := 5) hx hb hts in_X0 hown hK hP 0 rfl rfl 4 (by decide) (hts _ (List.mem_cons_of_mem _ tf_X0_25)) (fun _ h9 => h9) rfl dX0_has_6 ?_
    refine rz_cge (tgt := 16) hx hb dX0_has_9 (by decide) (by omega) (by omega) (fun c2 => ?_) (fun c2 => ?_)
    · refine lv_iconst (v := iI (((0 : Nat) : Int))) hx hb dX0_has_16 (by decide +kernel) ?_
      exact hret _ _ _ _ _ _ dX0_has_17 (Or.inl rfl) ⟨rfl, (by first | exact (b2z_t (by omega)).symm | exact (b2z_f (by omega)).symm)⟩ hP hD hS
    · refine lv_iconst (v := iI (((1 : Nat) : Int))) hx hb dX0_has_12 (by decide +kernel) ?_
      refine lv_goto (tgt := 17) hx hb dX0_has_13 (by decide) ?_
      exact hret _ _ _ _ _ _ dX0_has_17 (Or.inr rfl) ⟨rfl, (by first | exact (b2z_t (by omega)).symm | exact (b2z_f (by omega)).symm)⟩ hP hD hS

set_option maxHeartbeats 4000000 in
set_option maxRecDepth 100000 in
theorem k_X0_add (l : Launch) (D : va_G) (cI cZ : ClassId) (sz : Nat) (hB : Nat) (qL : Nat) (qP : Nat) (qE : Nat) (qF : Nat) (n : Nat) (ln : Nat → Nat) (pl : Nat → Nat) (p0 : Nat) (l0 : Nat) (hn : n < 4) : Ci l yX0_add wsX0_add (rmD 0) D vwCl [(cI, .int), (cZ, .boolean)] [.ref hB, .int (iI (((p0 : Nat) : Int))), .int (iI (((l0 : Nat) : Int)))] [(hB, .inr (0, [.ref qL, .ref qP, .ref qE, .ref qF, .int (iI (((n : Nat) : Int)))])), ce_i qL cI 4 (nZ (ln)), ce_i qP cI 4 (nZ (pl))] sz (fun z w => w = [(hB, .inr (0, [.ref qL, .ref qP, .ref qE, .ref qF, .int (iI (((n + 1 : Nat) : Int)))])), ce_i qL cI 4 (nZ (uN ln n l0)), ce_i qP cI 4 (nZ (uN pl n p0))] ∧ (z = ((n : Nat) : Int))) 0 0 := by
  refine Ci_of (cc := cX0_add) (nL := 3) (by decide) rfl (Nat.le_of_ble_eq_true rfl) ?_
  intro p e s m below meth c A Q hsz C hK hN hA hP hD hS hret ls hl
  obtain ⟨hx, hb, hml, hown, hts⟩ := id C
  have hown : s.vm.findClass RX0 = some m.cls := hown
  have hl : lv_has ls 3 [(0, .ref hB), (1, .int (iI (((p0 : Nat) : Int)))), (2, .int (iI (((l0 : Nat) : Int))))] := hl
  have in_X0 : ∀ w ∈ u_ws RX0 TX0 5, w ∈ wsX0_add := fun w h => List.mem_cons_of_mem _ (inX0 w h)
  refine lv_aload_n hx hb dX0_add_0 rfl (lv_at hl 0 rfl) ?_
  refine va_get (D := D) (ci := 0) (v := .ref qL) (C := RX0) (T := TX0) (N := 5) hx hb hts in_X0 hown hK hP 0 rfl rfl 0 (by decide) (hts _ (List.mem_cons_of_mem _ tf_X0_9)) (fun _ h9 => h9) rfl dX0_add_1 ?_
  refine lv_aload_n hx hb dX0_add_4 rfl (lv_at hl 0 rfl) ?_
  refine va_get (D := D) (ci := 0) (v := .int (iI (((n : Nat) : Int)))) (C := RX0) (T := TX0) (N := 5) hx hb hts in_X0 hown hK hP 0 rfl rfl 4 (by decide) (hts _ (List.mem_cons_of_mem _ tf_X0_25)) (fun _ h9 => h9) rfl dX0_add_5 ?_
  refine lv_iload_n hx hb dX0_add_8 rfl (lv_at hl 2 rfl) ?_
  refine rn_astM hx hb hK hP hD hS 1 0 rfl rfl (by omega) (by omega) dX0_add_9 (fun H locs hP hD hS => ?_)
  have hP : va_P D vwCl [(hB, .inr (0, [.ref qL, .ref qP, .ref qE, .ref qF, .int (iI (((n : Nat) : Int)))])), ce_i qL cI 4 (nZ (uN ln n l0)), ce_i qP cI 4 (nZ (pl))] H := hP
  have hD : va_D A [(hB, .inr (0, [.ref qL, .ref qP, .ref qE, .ref qF, .int (iI (((n : Nat) : Int)))])), ce_i qL cI 4 (nZ (uN ln n l0)), ce_i qP cI 4 (nZ (pl))] := hD
  refine lv_aload_n hx hb dX0_add_10 rfl (lv_at hl 0 rfl) ?_
  refine va_get (D := D) (ci := 0) (v := .ref qP) (C := RX0) (T := TX0) (N := 5) hx hb hts in_X0 hown hK hP 0 rfl rfl 1 (by decide) (hts _ (List.mem_cons_of_mem _ tf_X0_15)) (fun _ h9 => h9) rfl dX0_add_11 ?_
  refine lv_aload_n hx hb dX0_add_14 rfl (lv_at hl 0 rfl) ?_
  refine va_get (D := D) (ci := 0) (v := .int (iI (((n : Nat) : Int)))) (C := RX0) (T := TX0) (N := 5) hx hb hts in_X0 hown hK hP 0 rfl rfl 4 (by decide) (hts _ (List.mem_cons_of_mem _ tf_X0_25)) (fun _ h9 => h9) rfl dX0_add_15 ?_
  refine lv_iload_n hx hb dX0_add_18 rfl (lv_at hl 1 rfl) ?_
  refine rn_astM hx hb hK hP hD hS 2 0 rfl rfl (by omega) (by omega) dX0_add_19 (fun H locs hP hD hS => ?_)
  have hP : va_P D vwCl [(hB, .inr (0, [.ref qL, .ref qP, .ref qE, .ref qF, .int (iI (((n : Nat) : Int)))])), ce_i qL cI 4 (nZ (uN ln n l0)), ce_i qP cI 4 (nZ (uN pl n p0))] H := hP
  have hD : va_D A [(hB, .inr (0, [.ref qL, .ref qP, .ref qE, .ref qF, .int (iI (((n : Nat) : Int)))])), ce_i qL cI 4 (nZ (uN ln n l0)), ce_i qP cI 4 (nZ (uN pl n p0))] := hD
  refine lv_aload_n hx hb dX0_add_20 rfl (lv_at hl 0 rfl) ?_
  refine lv_dup hx hb dX0_add_21 rfl ?_
  refine va_get (D := D) (ci := 0) (v := .int (iI (((n : Nat) : Int)))) (C := RX0) (T := TX0) (N := 5) hx hb hts in_X0 hown hK hP 0 rfl rfl 4 (by decide) (hts _ (List.mem_cons_of_mem _ tf_X0_25)) (fun _ h9 => h9) rfl dX0_add_22 ?_
  refine lv_iconst (v := iI (((1 : Nat) : Int))) hx hb dX0_add_25 (by decide +kernel) ?_
  refine rn_add hx hb dX0_add_26 ?_
  refine va_put (D := D) (ci := 0) (v := .int (iI (((n + 1 : Nat) : Int)))) (ty := .int) (C := RX0) (T := TX0) (N := 5) hx hb hts in_X0 tyX0 tyX0_ok nmX0 hown hK hP hD hS 0 rfl rfl 4 (by decide) (hts _ (List.mem_cons_of_mem _ tf_X0_25)) (fun _ h9 => h9) rfl (by decide +kernel) rfl rfl (Nat.le_of_ble_eq_true rfl) dX0_add_27 (fun H locs hP hD hS => ?_)
  have hP : va_P D vwCl [(hB, .inr (0, [.ref qL, .ref qP, .ref qE, .ref qF, .int (iI (((n + 1 : Nat) : Int)))])), ce_i qL cI 4 (nZ (uN ln n l0)), ce_i qP cI 4 (nZ (uN pl n p0))] H := hP
  have hD : va_D A [(hB, .inr (0, [.ref qL, .ref qP, .ref qE, .ref qF, .int (iI (((n + 1 : Nat) : Int)))])), ce_i qL cI 4 (nZ (uN ln n l0)), ce_i qP cI 4 (nZ (uN pl n p0))] := hD
  refine lv_aload_n hx hb dX0_add_30 rfl (lv_at hl 0 rfl) ?_
  refine va_get (D := D) (ci := 0) (v := .int (iI (((n + 1 : Nat) : Int)))) (C := RX0) (T := TX0) (N := 5) hx hb hts in_X0 hown hK hP 0 rfl rfl 4 (by decide) (hts _ (List.mem_cons_of_mem _ tf_X0_25)) (fun _ h9 => h9) rfl dX0_add_31 ?_
  refine lv_iconst (v := iI (((1 : Nat) : Int))) hx hb dX0_add_34 (by decide +kernel) ?_
  refine rn_sub hx hb dX0_add_35 (by omega) ?_
  exact hret _ _ _ _ _ _ dX0_add_36 ⟨rfl, by omega⟩ hP hD hS

set_option maxHeartbeats 4000000 in
set_option maxRecDepth 100000 in
theorem k_X4_daysFromTo (l : Launch) (D : va_G) (cI cZ : ClassId) (sz : Nat) (a : Int) (b : Int) (ha : -1000 ≤ a ∧ a ≤ 1000) (hb2 : -1000 ≤ b ∧ b ≤ 1000) : Ci l yX4_daysFromTo wsX4_daysFromTo (rmD 1) D vwCl [(cI, .int), (cZ, .boolean)] [.int (iI (a)), .int (iI (b))] [] sz (fun z w => w = [] ∧ (z = ((daysF a b : Nat) : Int))) 0 0 := by
  refine Ci_of (cc := cX4_daysFromTo) (nL := 4) (by decide) rfl (Nat.le_of_ble_eq_true rfl) ?_
  intro p e s m below meth c A Q hsz C hK hN hA hP hD hS hret ls hl
  obtain ⟨hx, hb, hml, hown, hts⟩ := id C
  have hown : s.vm.findClass RX4 = some m.cls := hown
  have hl : lv_has ls 4 [(0, .int (iI (a))), (1, .int (iI (b)))] := hl
  refine lv_iload_n hx hb dX4_daysFromTo_0 rfl (lv_at hl 0 rfl) ?_
  refine lv_iconst (v := iI (((0 : Nat) : Int))) hx hb dX4_daysFromTo_1 (by decide +kernel) ?_
  refine rz_mmax (rest := []) hx hb (hml.trans hl.1.symm) hown hts tm_X4_48 (Nat.le_of_ble_eq_true rfl) (Nat.le_of_ble_eq_true rfl) (Nat.le_refl _) (Nat.le_refl _) dX4_daysFromTo_2 (by omega) (by omega) ?_
  refine lv_istore_n (lv' := [(2, .int (iI (max a ((0 : Nat) : Int)))), (0, .int (iI (a))), (1, .int (iI (b)))]) hx hb dX4_daysFromTo_5 rfl hl (by decide) rfl (fun ls hl => ?_)
  refine lv_iload_n hx hb dX4_daysFromTo_6 rfl (lv_at hl 2 rfl) ?_
  refine lv_bipush (v := iI (((9 : Nat) : Int))) hx hb dX4_daysFromTo_7 (by decide +kernel) ?_
  refine rz_mmin (rest := []) hx hb (hml.trans hl.1.symm) hown hts tm_X4_42 (Nat.le_of_ble_eq_true rfl) (Nat.le_of_ble_eq_true rfl) (Nat.le_refl _) (Nat.le_refl _) dX4_daysFromTo_9 (by omega) (by omega) ?_
  refine lv_istore_n (lv' := [(3, .int (iI (min b ((9 : Nat) : Int)))), (2, .int (iI (max a ((0 : Nat) : Int)))), (0, .int (iI (a))), (1, .int (iI (b)))]) hx hb dX4_daysFromTo_12 rfl hl (by decide) rfl (fun ls hl => ?_)
  refine lv_iload_n hx hb dX4_daysFromTo_13 rfl (lv_at hl 1 rfl) ?_
  refine lv_iload_n hx hb dX4_daysFromTo_14 rfl (lv_at hl 0 rfl) ?_
  refine rz_cle (tgt := 22) hx hb dX4_daysFromTo_15 (by decide) (by omega) (by omega) (fun c1 => ?_) (fun c1 => ?_)
  · refine lv_iconst (v := iI (((1 : Nat) : Int))) hx hb dX4_daysFromTo_22 (by decide +kernel) ?_
    refine lv_iload_n hx hb dX4_daysFromTo_23 rfl (lv_at hl 0 rfl) ?_
    refine lv_iconst (v := iI (((1 : Nat) : Int))) hx hb dX4_daysFromTo_24 (by decide +kernel) ?_
    refine rz_add hx hb dX4_daysFromTo_25 ?_
    refine rz_as (y := (((min b 9 + 1).toNat : Nat) : Int)) (by omega) ?_
    refine rz_shl hx hb dX4_daysFromTo_26 (by omega) (pw_lt (by omega)) ?_
    refine lv_iconst (v := iI (((1 : Nat) : Int))) hx hb dX4_daysFromTo_27 (by decide +kernel) ?_
    refine lv_iload_n hx hb dX4_daysFromTo_28 rfl (lv_at hl 1 rfl) ?_
    refine rz_as (y := (((max a 0).toNat : Nat) : Int)) (by omega) ?_
    refine rz_shl hx hb dX4_daysFromTo_29 (by omega) (pw_lt (by omega)) ?_
    refine rn_sub hx hb dX4_daysFromTo_30 (pw_le (by omega)) ?_
    exact hret _ _ _ _ _ _ dX4_daysFromTo_31 ⟨rfl, (by first | rw [daysF, if_pos (by omega)] | rw [daysF, if_neg (by omega)])⟩ hP hD hS
  · refine lv_iconst (v := iI (((0 : Nat) : Int))) hx hb dX4_daysFromTo_18 (by decide +kernel) ?_
    refine lv_goto (tgt := 31) hx hb dX4_daysFromTo_19 (by decide) ?_
    exact hret _ _ _ _ _ _ dX4_daysFromTo_31 ⟨rfl, (by first | rw [daysF, if_pos (by omega)] | rw [daysF, if_neg (by omega)])⟩ hP hD hS

set_option maxHeartbeats 4000000 in
set_option maxRecDepth 100000 in
theorem k_X4_tankOfPlace (l : Launch) (D : va_G) (cI cZ : ClassId) (sz : Nat) (x : Nat) (hx2 : x < 2147483648) : Ci l yX4_tankOfPlace wsX4_tankOfPlace (rmD 0) D vwCl [(cI, .int), (cZ, .boolean)] [.int (iI (((x : Nat) : Int)))] [] sz (fun z w => w = [] ∧ (z = ((x / 10 : Nat) : Int))) 0 0 := by
  refine Ci_of (cc := cX4_tankOfPlace) (nL := 1) (by decide) rfl (Nat.le_of_ble_eq_true rfl) ?_
  intro p e s m below meth c A Q hsz C hK hN hA hP hD hS hret ls hl
  obtain ⟨hx, hb, hml, hown, hts⟩ := id C
  have hown : s.vm.findClass RX4 = some m.cls := hown
  have hl : lv_has ls 1 [(0, .int (iI (((x : Nat) : Int))))] := hl
  refine lv_iload_n hx hb dX4_tankOfPlace_0 rfl (lv_at hl 0 rfl) ?_
  refine lv_bipush (v := iI (((10 : Nat) : Int))) hx hb dX4_tankOfPlace_1 (by decide +kernel) ?_
  refine rn_div hx hb dX4_tankOfPlace_3 (by omega) (by omega) ?_
  exact hret _ _ _ _ _ _ dX4_tankOfPlace_4 ⟨rfl, rfl⟩ hP hD hS

set_option maxHeartbeats 4000000 in
set_option maxRecDepth 100000 in
theorem k_X4_startOfPlace (l : Launch) (D : va_G) (cI cZ : ClassId) (sz : Nat) (x : Nat) (hx2 : x < 2147483648) : Ci l yX4_startOfPlace wsX4_startOfPlace (rmD 0) D vwCl [(cI, .int), (cZ, .boolean)] [.int (iI (((x : Nat) : Int)))] [] sz (fun z w => w = [] ∧ (z = ((x % 10 : Nat) : Int))) 0 0 := by
  refine Ci_of (cc := cX4_startOfPlace) (nL := 1) (by decide) rfl (Nat.le_of_ble_eq_true rfl) ?_
  intro p e s m below meth c A Q hsz C hK hN hA hP hD hS hret ls hl
  obtain ⟨hx, hb, hml, hown, hts⟩ := id C
  have hown : s.vm.findClass RX4 = some m.cls := hown
  have hl : lv_has ls 1 [(0, .int (iI (((x : Nat) : Int))))] := hl
  refine lv_iload_n hx hb dX4_startOfPlace_0 rfl (lv_at hl 0 rfl) ?_
  refine lv_bipush (v := iI (((10 : Nat) : Int))) hx hb dX4_startOfPlace_1 (by decide +kernel) ?_
  refine rn_rem hx hb dX4_startOfPlace_3 (by omega) (by omega) ?_
  exact hret _ _ _ _ _ _ dX4_startOfPlace_4 ⟨rfl, rfl⟩ hP hD hS

set_option maxHeartbeats 4000000 in
set_option maxRecDepth 100000 in
theorem k_X4_isNumber (l : Launch) (D : va_G) (cI cZ : ClassId) (sz : Nat) (x : Int) (hx2 : -2147483648 ≤ x ∧ x < 2147483648) : Ci l yX4_isNumber wsX4_isNumber (rmD 0) D vwCl [(cI, .int), (cZ, .boolean)] [.int (iI (x))] [] sz (fun z w => w = [] ∧ (z = b2z (decide (0 ≤ x ∧ x ≤ 10)))) 0 0 := by
  refine Cz_of (cc := cX4_isNumber) (nL := 1) (by decide) rfl (Nat.le_of_ble_eq_true rfl) ?_
  intro p e s m below meth c A Q hsz C hK hN hA hP hD hS hret ls hl
  obtain ⟨hx, hb, hml, hown, hts⟩ := id C
  have hown : s.vm.findClass RX4 = some m.cls := hown
  have hl : lv_has ls 1 [(0, .int (iI (x)))] := hl
  refine lv_iload_n hx hb dX4_isNumber_0 rfl (lv_at hl 0 rfl) ?_
  refine rz_ilt (tgt := 14) hx hb dX4_isNumber_1 (by decide) (by omega) (fun c1 => ?_) (fun c1 => ?_)
  · refine lv_iconst (v := iI (((0 : Nat) : Int))) hx hb dX4_isNumber_14 (by decide +kernel) ?_
    exact hret _ _ _ _ _ _ dX4_isNumber_15 (Or.inl rfl) ⟨rfl, (by first | exact (b2z_t (by omega)).symm | exact (b2z_f (by omega)).symm)⟩ hP hD hS
  · refine lv_iload_n hx hb dX4_isNumber_4 rfl (lv_at hl 0 rfl) ?_
    refine lv_bipush (v := iI (((10 : Nat) : Int))) hx hb dX4_isNumber_5 (by decide +kernel) ?_
    refine rz_cgt (tgt := 14) hx hb dX4_isNumber_7 (by decide) (by omega) (by omega) (fun c2 => ?_) (fun c2 => ?_)
    · refine lv_iconst (v := iI (((0 : Nat) : Int))) hx hb dX4_isNumber_14 (by decide +kernel) ?_
      exact hret _ _ _ _ _ _ dX4_isNumber_15 (Or.inl rfl) ⟨rfl, (by first | exact (b2z_t (by omega)).symm | exact (b2z_f (by omega)).symm)⟩ hP hD hS
    · refine lv_iconst (v := iI (((1 : Nat) : Int))) hx hb dX4_isNumber_10 (by decide +kernel) ?_
      refine lv_goto (tgt := 15) hx hb dX4_isNumber_11 (by decide) ?_
      exact hret _ _ _ _ _ _ dX4_isNumber_15 (Or.inr rfl) ⟨rfl, (by first | exact (b2z_t (by omega)).symm | exact (b2z_f (by omega)).symm)⟩ hP hD hS

set_option maxHeartbeats 4000000 in
set_option maxRecDepth 100000 in
theorem k_X2_inEveryTank (l : Launch) (D : va_G) (cI cZ : ClassId) (sz : Nat) (x : Nat)  : Ci l yX2_inEveryTank wsX2_inEveryTank (rmD 0) D vwCl [(cI, .int), (cZ, .boolean)] [.int (iI (((x : Nat) : Int)))] [] sz (fun z w => w = [] ∧ (z = ((x * 1049601 : Nat) : Int))) 0 0 := by
  refine Ci_of (cc := cX2_inEveryTank) (nL := 1) (by decide) rfl (Nat.le_of_ble_eq_true rfl) ?_
  intro p e s m below meth c A Q hsz C hK hN hA hP hD hS hret ls hl
  obtain ⟨hx, hb, hml, hown, hts⟩ := id C
  have hown : s.vm.findClass RX2 = some m.cls := hown
  have hl : lv_has ls 1 [(0, .int (iI (((x : Nat) : Int))))] := hl
  refine lv_iload_n hx hb dX2_inEveryTank_0 rfl (lv_at hl 0 rfl) ?_
  refine lv_ldc (v := iI (((1049601 : Nat) : Int))) hx hb hown (hts _ (List.mem_cons_of_mem _ tc_X2_156)) dX2_inEveryTank_1 ?_
  refine rn_mul hx hb dX2_inEveryTank_3 ?_
  exact hret _ _ _ _ _ _ dX2_inEveryTank_4 ⟨rfl, rfl⟩ hP hD hS

set_option maxHeartbeats 4000000 in
set_option maxRecDepth 100000 in
theorem k_X4_memberAt (l : Launch) (D : va_G) (cI cZ : ClassId) (sz : Nat) (st : Nat) (k : Int) (hst : st < 16) (hk : -2147483648 ≤ k ∧ k < 2147483648) : Ci l yX4_memberAt wsX4_memberAt (rmD 0) D vwCl [(cI, .int), (cZ, .boolean)] [.int (iI (((st : Nat) : Int))), .int (iI (k))] [] sz (fun z w => w = [] ∧ (z = memF (fun j => Nat.testBit st j) k 4 0 0)) 0 0 := by
  refine Ci_of (cc := cX4_memberAt) (nL := 4) (by decide) rfl (Nat.le_of_ble_eq_true rfl) ?_
  intro p e s m below meth c A Q hsz C hK hN hA hP hD hS hret ls hl
  obtain ⟨hx, hb, hml, hown, hts⟩ := id C
  have hown : s.vm.findClass RX4 = some m.cls := hown
  have hl : lv_has ls 4 [(0, .int (iI (((st : Nat) : Int)))), (1, .int (iI (k)))] := hl
  have K4 : ∀ (fu : Nat) (b : Nat) (sn : Int), 4 - b < fu → (b ≤ 4) → (0 ≤ sn ∧ sn ≤ (b : Int)) → (memF (fun j => Nat.testBit st j) k (4 - b) b sn = memF (fun j => Nat.testBit st j) k 4 0 0) → ∀ (H : Heap) (locs : List Loc) (ls : Array Slot), va_P D vwCl [] H → va_D A [] → va_S A s.heap H locs → lv_has ls 4 [(0, .int (iI (((st : Nat) : Int)))), (1, .int (iI (k))), (2, .int (iI (sn))), (3, .int (iI (((b : Nat) : Int))))] → W p l e (rmD 0) s m ([.int (iI (((st : Nat) : Int))), .int (iI (k))] : List Value).toArray below meth c H locs 0 0 Q (F0 m 4 ls []) := by
    intro fu
    induction fu with
    | zero => intro b sn hmu; exact absurd hmu (Nat.not_lt_zero _)
    | succ fu ih =>
      intro b sn hmu hb4 hs hv H locs ls hP hD hS hl
      refine lv_iload_n hx hb dX4_memberAt_4 rfl (lv_at hl 3 rfl) ?_
      refine lv_iconst (v := iI (((4 : Nat) : Int))) hx hb dX4_memberAt_5 (by decide +kernel) ?_
      refine rz_cge (tgt := 33) hx hb dX4_memberAt_6 (by decide) (by omega) (by omega) (fun c1 => ?_) (fun c1 => ?_)
      · refine lv_iconst (v := iI ((-1 : Int))) hx hb dX4_memberAt_33 (by decide +kernel) ?_
        exact hret _ _ _ _ _ _ dX4_memberAt_34 ⟨rfl, ((memF_0 (N := 4) (by omega)).symm.trans hv)⟩ hP hD hS
      · refine lv_iload_n hx hb dX4_memberAt_9 rfl (lv_at hl 0 rfl) ?_
        refine lv_iload_n hx hb dX4_memberAt_10 rfl (lv_at hl 3 rfl) ?_
        refine rz_shr hx hb dX4_memberAt_11 (by omega) (by omega) ?_
        refine lv_iconst (v := iI (((1 : Nat) : Int))) hx hb dX4_memberAt_12 (by decide +kernel) ?_
        refine rz_and hx hb dX4_memberAt_13 ?_
        refine rz_ieq (tgt := 27) hx hb dX4_memberAt_14 (by decide) (by have := tb_r st b; omega) (fun c2 => ?_) (fun c2 => ?_)
        · have c2 := tb_f c2
          refine lv_iinc (v := iI (((b + 1 : Nat) : Int))) (lv' := [(3, .int (iI (((b + 1 : Nat) : Int)))), (0, .int (iI (((st : Nat) : Int)))), (1, .int (iI (k))), (2, .int (iI (sn)))]) hx hb dX4_memberAt_27 hl (k := 3) rfl (iI_inc _) (by decide) rfl (fun ls hl => ?_)
          refine lv_goto (tgt := 4) hx hb dX4_memberAt_30 (by decide) ?_
          exact ih (b + 1) (sn) (by omega) (by omega) (by omega) (by first | exact (memF_2 (N := 4) (by omega) (by assumption) (by assumption)).symm.trans hv | exact (memF_3 (N := 4) (by omega) (by assumption)).symm.trans hv) _ _ _ hP hD hS (lv_sub hl [1, 2, 3, 0] rfl)
        · have c2 := tb_t c2
          refine lv_iload_n hx hb dX4_memberAt_17 rfl (lv_at hl 2 rfl) ?_
          refine lv_iload_n hx hb dX4_memberAt_18 rfl (lv_at hl 1 rfl) ?_
          refine rz_cne (tgt := 24) hx hb dX4_memberAt_19 (by decide) (by omega) (by omega) (fun c3 => ?_) (fun c3 => ?_)
          · refine lv_iinc (v := iI (sn + (1))) (lv' := [(2, .int (iI (sn + (1)))), (0, .int (iI (((st : Nat) : Int)))), (1, .int (iI (k))), (3, .int (iI (((b : Nat) : Int))))]) hx hb dX4_memberAt_24 hl (k := 2) rfl (iI_add _ _) (by decide) rfl (fun ls hl => ?_)
            refine lv_iinc (v := iI (((b + 1 : Nat) : Int))) (lv' := [(3, .int (iI (((b + 1 : Nat) : Int)))), (2, .int (iI (sn + (1)))), (0, .int (iI (((st : Nat) : Int)))), (1, .int (iI (k)))]) hx hb dX4_memberAt_27 hl (k := 3) rfl (iI_inc _) (by decide) rfl (fun ls hl => ?_)
            refine lv_goto (tgt := 4) hx hb dX4_memberAt_30 (by decide) ?_
            exact ih (b + 1) (sn + (1)) (by omega) (by omega) (by omega) (by first | exact (memF_2 (N := 4) (by omega) (by assumption) (by assumption)).symm.trans hv | exact (memF_3 (N := 4) (by omega) (by assumption)).symm.trans hv) _ _ _ hP hD hS (lv_sub hl [2, 3, 1, 0] rfl)
          · refine lv_iload_n hx hb dX4_memberAt_22 rfl (lv_at hl 3 rfl) ?_
            exact hret _ _ _ _ _ _ dX4_memberAt_23 ⟨rfl, ((memF_1 (N := 4) (by omega) (by assumption) (by assumption)).symm.trans hv)⟩ hP hD hS
  refine lv_iconst (v := iI (((0 : Nat) : Int))) hx hb dX4_memberAt_0 (by decide +kernel) ?_
  refine lv_istore_n (lv' := [(2, .int (iI (((0 : Nat) : Int)))), (0, .int (iI (((st : Nat) : Int)))), (1, .int (iI (k)))]) hx hb dX4_memberAt_1 rfl hl (by decide) rfl (fun ls hl => ?_)
  refine lv_iconst (v := iI (((0 : Nat) : Int))) hx hb dX4_memberAt_2 (by decide +kernel) ?_
  refine lv_istore_n (lv' := [(3, .int (iI (((0 : Nat) : Int)))), (2, .int (iI (((0 : Nat) : Int)))), (0, .int (iI (((st : Nat) : Int)))), (1, .int (iI (k)))]) hx hb dX4_memberAt_3 rfl hl (by decide) rfl (fun ls hl => ?_)
  exact K4 (4 - (0) + 1) (0) (((0 : Nat) : Int)) (Nat.lt_succ_self _) (by omega) (by omega) rfl _ _ _ hP hD hS (lv_sub hl [2, 3, 1, 0] rfl)
end
section
/-! the small methods of Rules, Shelf, and of the class itself -/
def othF (X : Nat → Bool) : Nat → Nat
  | 0 => 0
  | b + 1 => if X b = true then othF X b ||| 1 * 2 ^ b else othF X b
theorem othF_lt (X : Nat → Bool) : ∀ n, othF X n < 2 ^ n
  | 0 => Nat.one_pos
  | n + 1 => by
    have h := othF_lt X n
    have h2 : othF X n < 2 ^ (n + 1) := Nat.lt_of_lt_of_le h (Nat.pow_le_pow_right (by decide) (Nat.le_succ n))
    rw [othF]; split
    · exact Nat.or_lt_two_pow h2 (by rw [Nat.one_mul]; exact Nat.pow_lt_pow_right (by decide) (Nat.lt_succ_self n))
    · exact h2
theorem othF_tb (X : Nat → Bool) (j : Nat) : ∀ n, (othF X n).testBit j = (decide (j < n) && X j)
  | 0 => by simp [othF]
  | n + 1 => by
    have h := othF_tb X j n
    by_cases hj : j = n
    · subst hj
      have hlt : (othF X j).testBit j = false := by rw [h]; simp
      rw [othF]; split
      · rename_i hx; rw [Nat.testBit_or, hlt, Nat.one_mul, Nat.testBit_two_pow_self]; simp [hx]
      · rename_i hx; rw [hlt]; simp [hx]
    · have e : (decide (j < n + 1)) = decide (j < n) := by by_cases q : j < n <;> simp [q] <;> omega
      rw [othF, e]; split
      · rw [Nat.testBit_or, h, Nat.one_mul, Nat.testBit_two_pow_of_ne (Ne.symm hj)]; simp
      · exact h
/-- the batches that have another place now than in a plan laid by, or had none then -/
def othX (sz sp pl : Nat → Nat) (nu : Nat) (b : Nat) : Bool := decide (sz nu ≤ b ∨ sp (nu * 4 + b) ≠ pl b)

set_option maxHeartbeats 4000000 in
set_option maxRecDepth 100000 in
theorem k_X1_isFull (l : Launch) (D : va_G) (cI cZ : ClassId) (sz : Nat) (hR : Nat) (qK : Nat) (qA : Nat) (qB : Nat) (qN : Nat) (nr : Nat) (hm : nr ≤ 8) : Ci l yX1_isFull wsX1_isFull (rmD 0) D vwCl [(cI, .int), (cZ, .boolean)] [.ref hR] [(hR, .inr (1, [.ref qK, .ref qA, .ref qB, .ref qN, .int (iI (((nr : Nat) : Int)))]))] sz (fun z w => w = [(hR, .inr (1, [.ref qK, .ref qA, .ref qB, .ref qN, .int (iI (((nr : Nat) : Int)))]))] ∧ z = b2z (decide (8 ≤ nr))) 0 0 := by
  refine Cz_of (cc := cX1_isFull) (nL := 1) (by decide) rfl (Nat.le_of_ble_eq_true rfl) ?_
  intro p e s m below meth c A Q hsz C hK hN hA hP hD hS hret ls hl
  obtain ⟨hx, hb, hml, hown, hts⟩ := id C
  have hown : s.vm.findClass RX1 = some m.cls := hown
  have hl : lv_has ls 1 [(0, .ref hR)] := hl
  have in_X1 : ∀ w ∈ u_ws RX1 TX1 5, w ∈ wsX1_isFull := fun w h => List.mem_cons_of_mem _ (inX1 w h)
  refine lv_aload_n hx hb dX1_isFull_0 rfl (lv_at hl 0 rfl) ?_
  refine va_get (D := D) (ci := 1) (v := .int (iI (((nr : Nat) : Int)))) (C := RX1) (T := TX1) (N := 5) hx hb hts in_X1 hown hK hP 0 rfl rfl 4 (by decide) (hts _ (List.mem_cons_of_mem _ tf_X1_24)) (fun _ h9 => h9) rfl dX1_isFull_1 ?_
  refine lv_bipush (v := iI (((8 : Nat) : Int))) hx hb dX1_isFull_4 (by decide +kernel) ?_
  refine rz_clt (tgt := 13) hx hb dX1_isFull_6 (by decide) (by omega) (by omega) (fun c1 => ?_) (fun c1 => ?_)
  · refine lv_iconst (v := iI (((0 : Nat) : Int))) hx hb dX1_isFull_13 (by decide +kernel) ?_
    exact hret _ _ _ _ _ _ dX1_isFull_14 (Or.inl rfl) ⟨rfl, (by first | exact (b2z_t (by omega)).symm | exact (b2z_f (by omega)).symm)⟩ hP hD hS
  · refine lv_iconst (v := iI (((1 : Nat) : Int))) hx hb dX1_isFull_9 (by decide +kernel) ?_
    refine lv_goto (tgt := 14) hx hb dX1_isFull_10 (by decide) ?_
    exact hret _ _ _ _ _ _ dX1_isFull_14 (Or.inr rfl) ⟨rfl, (by first | exact (b2z_t (by omega)).symm | exact (b2z_f (by omega)).symm)⟩ hP hD hS

set_option maxHeartbeats 4000000 in
set_option maxRecDepth 100000 in
theorem k_X1_add (l : Launch) (D : va_G) (cI cZ : ClassId) (sz : Nat) (hR : Nat) (qK : Nat) (qA : Nat) (qB : Nat) (qN : Nat) (nr : Nat) (rk : Nat → Int) (ra : Nat → Int) (rb : Nat → Int) (rd : Nat → Int) (x0 : Int) (x1 : Int) (x2 : Int) (x3 : Int) (hm : nr < 8) : Cv l yX1_add wsX1_add (rmD 0) D vwCl [(cI, .int), (cZ, .boolean)] [.ref hR, .int (iI (x0)), .int (iI (x1)), .int (iI (x2)), .int (iI (x3))] [(hR, .inr (1, [.ref qK, .ref qA, .ref qB, .ref qN, .int (iI (((nr : Nat) : Int)))])), ce_i qK cI 8 (rk), ce_i qA cI 8 (ra), ce_i qB cI 8 (rb), ce_i qN cI 8 (rd)] sz (fun w => w = [(hR, .inr (1, [.ref qK, .ref qA, .ref qB, .ref qN, .int (iI (((nr + 1 : Nat) : Int)))])), ce_i qK cI 8 (uZ rk nr x0), ce_i qA cI 8 (uZ ra nr x1), ce_i qB cI 8 (uZ rb nr x2), ce_i qN cI 8 (uZ rd nr x3)]) 0 0 := by
  refine Cv_of (cc := cX1_add) (nL := 5) (by decide) rfl (Nat.le_of_ble_eq_true rfl) ?_
  intro p e s m below meth c A Q hsz C hK hN hA hP hD hS hin hret ls hl
  obtain ⟨hx, hb, hml, hown, hts⟩ := id C
  have hown : s.vm.findClass RX1 = some m.cls := hown
  have hl : lv_has ls 5 [(0, .ref hR), (1, .int (iI (x0))), (2, .int (iI (x1))), (3, .int (iI (x2))), (4, .int (iI (x3)))] := hl
  have in_X1 : ∀ w ∈ u_ws RX1 TX1 5, w ∈ wsX1_add := fun w h => List.mem_cons_of_mem _ (inX1 w h)
  refine lv_aload_n hx hb dX1_add_0 rfl (lv_at hl 0 rfl) ?_
  refine va_get (D := D) (ci := 1) (v := .ref qK) (C := RX1) (T := TX1) (N := 5) hx hb hts in_X1 hown hK hP 0 rfl rfl 0 (by decide) (hts _ (List.mem_cons_of_mem _ tf_X1_9)) (fun _ h9 => h9) rfl dX1_add_1 ?_
  refine lv_aload_n hx hb dX1_add_4 rfl (lv_at hl 0 rfl) ?_
  refine va_get (D := D) (ci := 1) (v := .int (iI (((nr : Nat) : Int)))) (C := RX1) (T := TX1) (N := 5) hx hb hts in_X1 hown hK hP 0 rfl rfl 4 (by decide) (hts _ (List.mem_cons_of_mem _ tf_X1_24)) (fun _ h9 => h9) rfl dX1_add_5 ?_
  refine lv_iload_n hx hb dX1_add_8 rfl (lv_at hl 1 rfl) ?_
  refine rn_ast hx hb hK hP hD hS 1 0 rfl rfl (by omega) (by omega) dX1_add_9 (fun H locs hP hD hS => ?_)
  have hP : va_P D vwCl [(hR, .inr (1, [.ref qK, .ref qA, .ref qB, .ref qN, .int (iI (((nr : Nat) : Int)))])), ce_i qK cI 8 (uZ rk nr x0), ce_i qA cI 8 (ra), ce_i qB cI 8 (rb), ce_i qN cI 8 (rd)] H := hP
  have hD : va_D A [(hR, .inr (1, [.ref qK, .ref qA, .ref qB, .ref qN, .int (iI (((nr : Nat) : Int)))])), ce_i qK cI 8 (uZ rk nr x0), ce_i qA cI 8 (ra), ce_i qB cI 8 (rb), ce_i qN cI 8 (rd)] := hD
  refine lv_aload_n hx hb dX1_add_10 rfl (lv_at hl 0 rfl) ?_
  refine va_get (D := D) (ci := 1) (v := .ref qA) (C := RX1) (T := TX1) (N := 5) hx hb hts in_X1 hown hK hP 0 rfl rfl 1 (by decide) (hts _ (List.mem_cons_of_mem _ tf_X1_15)) (fun _ h9 => h9) rfl dX1_add_11 ?_
  refine lv_aload_n hx hb dX1_add_14 rfl (lv_at hl 0 rfl) ?_
  refine va_get (D := D) (ci := 1) (v := .int (iI (((nr : Nat) : Int)))) (C := RX1) (T := TX1) (N := 5) hx hb hts in_X1 hown hK hP 0 rfl rfl 4 (by decide) (hts _ (List.mem_cons_of_mem _ tf_X1_24)) (fun _ h9 => h9) rfl dX1_add_15 ?_
  refine lv_iload_n hx hb dX1_add_18 rfl (lv_at hl 2 rfl) ?_
  refine rn_ast hx hb hK hP hD hS 2 0 rfl rfl (by omega) (by omega) dX1_add_19 (fun H locs hP hD hS => ?_)
  have hP : va_P D vwCl [(hR, .inr (1, [.ref qK, .ref qA, .ref qB, .ref qN, .int (iI (((nr : Nat) : Int)))])), ce_i qK cI 8 (uZ rk nr x0), ce_i qA cI 8 (uZ ra nr x1), ce_i qB cI 8 (rb), ce_i qN cI 8 (rd)] H := hP
  have hD : va_D A [(hR, .inr (1, [.ref qK, .ref qA, .ref qB, .ref qN, .int (iI (((nr : Nat) : Int)))])), ce_i qK cI 8 (uZ rk nr x0), ce_i qA cI 8 (uZ ra nr x1), ce_i qB cI 8 (rb), ce_i qN cI 8 (rd)] := hD
  refine lv_aload_n hx hb dX1_add_20 rfl (lv_at hl 0 rfl) ?_
  refine va_get (D := D) (ci := 1) (v := .ref qB) (C := RX1) (T := TX1) (N := 5) hx hb hts in_X1 hown hK hP 0 rfl rfl 2 (by decide) (hts _ (List.mem_cons_of_mem _ tf_X1_18)) (fun _ h9 => h9) rfl dX1_add_21 ?_
  refine lv_aload_n hx hb dX1_add_24 rfl (lv_at hl 0 rfl) ?_
  refine va_get (D := D) (ci := 1) (v := .int (iI (((nr : Nat) : Int)))) (C := RX1) (T := TX1) (N := 5) hx hb hts in_X1 hown hK hP 0 rfl rfl 4 (by decide) (hts _ (List.mem_cons_of_mem _ tf_X1_24)) (fun _ h9 => h9) rfl dX1_add_25 ?_
  refine lv_iload_n hx hb dX1_add_28 rfl (lv_at hl 3 rfl) ?_
  refine rn_ast hx hb hK hP hD hS 3 0 rfl rfl (by omega) (by omega) dX1_add_29 (fun H locs hP hD hS => ?_)
  have hP : va_P D vwCl [(hR, .inr (1, [.ref qK, .ref qA, .ref qB, .ref qN, .int (iI (((nr : Nat) : Int)))])), ce_i qK cI 8 (uZ rk nr x0), ce_i qA cI 8 (uZ ra nr x1), ce_i qB cI 8 (uZ rb nr x2), ce_i qN cI 8 (rd)] H := hP
  have hD : va_D A [(hR, .inr (1, [.ref qK, .ref qA, .ref qB, .ref qN, .int (iI (((nr : Nat) : Int)))])), ce_i qK cI 8 (uZ rk nr x0), ce_i qA cI 8 (uZ ra nr x1), ce_i qB cI 8 (uZ rb nr x2), ce_i qN cI 8 (rd)] := hD
  refine lv_aload_n hx hb dX1_add_30 rfl (lv_at hl 0 rfl) ?_
  refine va_get (D := D) (ci := 1) (v := .ref qN) (C := RX1) (T := TX1) (N := 5) hx hb hts in_X1 hown hK hP 0 rfl rfl 3 (by decide) (hts _ (List.mem_cons_of_mem _ tf_X1_21)) (fun _ h9 => h9) rfl dX1_add_31 ?_
  refine lv_aload_n hx hb dX1_add_34 rfl (lv_at hl 0 rfl) ?_
  refine va_get (D := D) (ci := 1) (v := .int (iI (((nr : Nat) : Int)))) (C := RX1) (T := TX1) (N := 5) hx hb hts in_X1 hown hK hP 0 rfl rfl 4 (by decide) (hts _ (List.mem_cons_of_mem _ tf_X1_24)) (fun _ h9 => h9) rfl dX1_add_35 ?_
  refine lv_iload hx hb dX1_add_38 (lv_at hl 4 rfl) ?_
  refine rn_ast hx hb hK hP hD hS 4 0 rfl rfl (by omega) (by omega) dX1_add_40 (fun H locs hP hD hS => ?_)
  have hP : va_P D vwCl [(hR, .inr (1, [.ref qK, .ref qA, .ref qB, .ref qN, .int (iI (((nr : Nat) : Int)))])), ce_i qK cI 8 (uZ rk nr x0), ce_i qA cI 8 (uZ ra nr x1), ce_i qB cI 8 (uZ rb nr x2), ce_i qN cI 8 (uZ rd nr x3)] H := hP
  have hD : va_D A [(hR, .inr (1, [.ref qK, .ref qA, .ref qB, .ref qN, .int (iI (((nr : Nat) : Int)))])), ce_i qK cI 8 (uZ rk nr x0), ce_i qA cI 8 (uZ ra nr x1), ce_i qB cI 8 (uZ rb nr x2), ce_i qN cI 8 (uZ rd nr x3)] := hD
  refine lv_aload_n hx hb dX1_add_41 rfl (lv_at hl 0 rfl) ?_
  refine lv_dup hx hb dX1_add_42 rfl ?_
  refine va_get (D := D) (ci := 1) (v := .int (iI (((nr : Nat) : Int)))) (C := RX1) (T := TX1) (N := 5) hx hb hts in_X1 hown hK hP 0 rfl rfl 4 (by decide) (hts _ (List.mem_cons_of_mem _ tf_X1_24)) (fun _ h9 => h9) rfl dX1_add_43 ?_
  refine lv_iconst (v := iI (((1 : Nat) : Int))) hx hb dX1_add_46 (by decide +kernel) ?_
  refine rn_add hx hb dX1_add_47 ?_
  refine va_put (D := D) (ci := 1) (v := .int (iI (((nr + 1 : Nat) : Int)))) (ty := .int) (C := RX1) (T := TX1) (N := 5) hx hb hts in_X1 tyX1 tyX1_ok nmX1 hown hK hP hD hS 0 rfl rfl 4 (by decide) (hts _ (List.mem_cons_of_mem _ tf_X1_24)) (fun _ h9 => h9) rfl (by decide +kernel) rfl rfl (Nat.le_of_ble_eq_true rfl) dX1_add_48 (fun H locs hP hD hS => ?_)
  have hP : va_P D vwCl [(hR, .inr (1, [.ref qK, .ref qA, .ref qB, .ref qN, .int (iI (((nr + 1 : Nat) : Int)))])), ce_i qK cI 8 (uZ rk nr x0), ce_i qA cI 8 (uZ ra nr x1), ce_i qB cI 8 (uZ rb nr x2), ce_i qN cI 8 (uZ rd nr x3)] H := hP
  have hD : va_D A [(hR, .inr (1, [.ref qK, .ref qA, .ref qB, .ref qN, .int (iI (((nr + 1 : Nat) : Int)))])), ce_i qK cI 8 (uZ rk nr x0), ce_i qA cI 8 (uZ ra nr x1), ce_i qB cI 8 (uZ rb nr x2), ce_i qN cI 8 (uZ rd nr x3)] := hD
  exact hret _ _ _ _ _ dX1_add_51 rfl hP hD hS

set_option maxHeartbeats 4000000 in
set_option maxRecDepth 100000 in
theorem k_X3_isEmpty (l : Launch) (D : va_G) (cI cZ : ClassId) (sz : Nat) (hW : Nat) (rm : Nat) (qS : Nat) (qQ : Nat) (cn : Nat) (hc : cn ≤ 16) : Ci l yX3_isEmpty wsX3_isEmpty (rmD 0) D vwCl [(cI, .int), (cZ, .boolean)] [.ref hW] [(hW, .inr (3, [.int (iI (((rm : Nat) : Int))), .ref qS, .ref qQ, .int (iI (((cn : Nat) : Int)))]))] sz (fun z w => w = [(hW, .inr (3, [.int (iI (((rm : Nat) : Int))), .ref qS, .ref qQ, .int (iI (((cn : Nat) : Int)))]))] ∧ z = b2z (decide (cn = 0))) 0 0 := by
  refine Cz_of (cc := cX3_isEmpty) (nL := 1) (by decide) rfl (Nat.le_of_ble_eq_true rfl) ?_
  intro p e s m below meth c A Q hsz C hK hN hA hP hD hS hret ls hl
  obtain ⟨hx, hb, hml, hown, hts⟩ := id C
  have hown : s.vm.findClass RX3 = some m.cls := hown
  have hl : lv_has ls 1 [(0, .ref hW)] := hl
  have in_X3 : ∀ w ∈ u_ws RX3 TX3 4, w ∈ wsX3_isEmpty := fun w h => List.mem_cons_of_mem _ (inX3 w h)
  refine lv_aload_n hx hb dX3_isEmpty_0 rfl (lv_at hl 0 rfl) ?_
  refine va_get (D := D) (ci := 3) (v := .int (iI (((cn : Nat) : Int)))) (C := RX3) (T := TX3) (N := 4) hx hb hts in_X3 hown hK hP 0 rfl rfl 3 (by decide) (hts _ (List.mem_cons_of_mem _ tf_X3_28)) (fun _ h9 => h9) rfl dX3_isEmpty_1 ?_
  refine rz_ine (tgt := 11) hx hb dX3_isEmpty_4 (by decide) (by omega) (fun c1 => ?_) (fun c1 => ?_)
  · refine lv_iconst (v := iI (((0 : Nat) : Int))) hx hb dX3_isEmpty_11 (by decide +kernel) ?_
    exact hret _ _ _ _ _ _ dX3_isEmpty_12 (Or.inl rfl) ⟨rfl, (by first | exact (b2z_t (by omega)).symm | exact (b2z_f (by omega)).symm)⟩ hP hD hS
  · refine lv_iconst (v := iI (((1 : Nat) : Int))) hx hb dX3_isEmpty_7 (by decide +kernel) ?_
    refine lv_goto (tgt := 12) hx hb dX3_isEmpty_8 (by decide) ?_
    exact hret _ _ _ _ _ _ dX3_isEmpty_12 (Or.inr rfl) ⟨rfl, (by first | exact (b2z_t (by omega)).symm | exact (b2z_f (by omega)).symm)⟩ hP hD hS

set_option maxHeartbeats 4000000 in
set_option maxRecDepth 100000 in
theorem k_X3_isFull (l : Launch) (D : va_G) (cI cZ : ClassId) (sz : Nat) (hW : Nat) (rm : Nat) (qS : Nat) (qQ : Nat) (cn : Nat) (hc : cn ≤ 16) (hrm : rm ≤ 16) : Ci l yX3_isFull wsX3_isFull (rmD 0) D vwCl [(cI, .int), (cZ, .boolean)] [.ref hW] [(hW, .inr (3, [.int (iI (((rm : Nat) : Int))), .ref qS, .ref qQ, .int (iI (((cn : Nat) : Int)))]))] sz (fun z w => w = [(hW, .inr (3, [.int (iI (((rm : Nat) : Int))), .ref qS, .ref qQ, .int (iI (((cn : Nat) : Int)))]))] ∧ z = b2z (decide (rm ≤ cn))) 0 0 := by
  refine Cz_of (cc := cX3_isFull) (nL := 1) (by decide) rfl (Nat.le_of_ble_eq_true rfl) ?_
  intro p e s m below meth c A Q hsz C hK hN hA hP hD hS hret ls hl
  obtain ⟨hx, hb, hml, hown, hts⟩ := id C
  have hown : s.vm.findClass RX3 = some m.cls := hown
  have hl : lv_has ls 1 [(0, .ref hW)] := hl
  have in_X3 : ∀ w ∈ u_ws RX3 TX3 4, w ∈ wsX3_isFull := fun w h => List.mem_cons_of_mem _ (inX3 w h)
  refine lv_aload_n hx hb dX3_isFull_0 rfl (lv_at hl 0 rfl) ?_
  refine va_get (D := D) (ci := 3) (v := .int (iI (((cn : Nat) : Int)))) (C := RX3) (T := TX3) (N := 4) hx hb hts in_X3 hown hK hP 0 rfl rfl 3 (by decide) (hts _ (List.mem_cons_of_mem _ tf_X3_28)) (fun _ h9 => h9) rfl dX3_isFull_1 ?_
  refine lv_aload_n hx hb dX3_isFull_4 rfl (lv_at hl 0 rfl) ?_
  refine va_get (D := D) (ci := 3) (v := .int (iI (((rm : Nat) : Int)))) (C := RX3) (T := TX3) (N := 4) hx hb hts in_X3 hown hK hP 0 rfl rfl 0 (by decide) (hts _ (List.mem_cons_of_mem _ tf_X3_15)) (fun _ h9 => h9) rfl dX3_isFull_5 ?_
  refine rz_clt (tgt := 15) hx hb dX3_isFull_8 (by decide) (by omega) (by omega) (fun c1 => ?_) (fun c1 => ?_)
  · refine lv_iconst (v := iI (((0 : Nat) : Int))) hx hb dX3_isFull_15 (by decide +kernel) ?_
    exact hret _ _ _ _ _ _ dX3_isFull_16 (Or.inl rfl) ⟨rfl, (by first | exact (b2z_t (by omega)).symm | exact (b2z_f (by omega)).symm)⟩ hP hD hS
  · refine lv_iconst (v := iI (((1 : Nat) : Int))) hx hb dX3_isFull_11 (by decide +kernel) ?_
    refine lv_goto (tgt := 16) hx hb dX3_isFull_12 (by decide) ?_
    exact hret _ _ _ _ _ _ dX3_isFull_16 (Or.inr rfl) ⟨rfl, (by first | exact (b2z_t (by omega)).symm | exact (b2z_f (by omega)).symm)⟩ hP hD hS

set_option maxHeartbeats 4000000 in
set_option maxRecDepth 100000 in
theorem k_X3_has (l : Launch) (D : va_G) (cI cZ : ClassId) (sz : Nat) (hW : Nat) (rm : Nat) (qS : Nat) (qQ : Nat) (cn : Nat) (k : Int) (hc : cn ≤ 16) (hk : -2147483648 ≤ k ∧ k < 2147483648) : Ci l yX3_has wsX3_has (rmD 0) D vwCl [(cI, .int), (cZ, .boolean)] [.ref hW, .int (iI (k))] [(hW, .inr (3, [.int (iI (((rm : Nat) : Int))), .ref qS, .ref qQ, .int (iI (((cn : Nat) : Int)))]))] sz (fun z w => w = [(hW, .inr (3, [.int (iI (((rm : Nat) : Int))), .ref qS, .ref qQ, .int (iI (((cn : Nat) : Int)))]))] ∧ z = b2z (decide (0 ≤ k ∧ k < ((cn : Nat) : Int)))) 0 0 := by
  refine Cz_of (cc := cX3_has) (nL := 2) (by decide) rfl (Nat.le_of_ble_eq_true rfl) ?_
  intro p e s m below meth c A Q hsz C hK hN hA hP hD hS hret ls hl
  obtain ⟨hx, hb, hml, hown, hts⟩ := id C
  have hown : s.vm.findClass RX3 = some m.cls := hown
  have hl : lv_has ls 2 [(0, .ref hW), (1, .int (iI (k)))] := hl
  have in_X3 : ∀ w ∈ u_ws RX3 TX3 4, w ∈ wsX3_has := fun w h => List.mem_cons_of_mem _ (inX3 w h)
  refine lv_iload_n hx hb dX3_has_0 rfl (lv_at hl 1 rfl) ?_
  refine rz_ilt (tgt := 16) hx hb dX3_has_1 (by decide) (by omega) (fun c1 => ?_) (fun c1 => ?_)
  · refine lv_iconst (v := iI (((0 : Nat) : Int))) hx hb dX3_has_16 (by decide +kernel) ?_
    exact hret _ _ _ _ _ _ dX3_has_17 (Or.inl rfl) ⟨rfl, (by first | exact (b2z_t (by omega)).symm | exact (b2z_f (by omega)).symm)⟩ hP hD hS
  · refine lv_iload_n hx hb dX3_has_4 rfl (lv_at hl 1 rfl) ?_
    refine lv_aload_n hx hb dX3_has_5 rfl (lv_at hl 0 rfl) ?_
    refine va_get (D := D) (ci := 3) (v := .int (iI (((cn : Nat) : Int)))) (C := RX3) (T := TX3) (N := 4) hx hb hts in_X3 hown hK hP 0 rfl rfl 3 (by decide) (hts _ (List.mem_cons_of_mem _ tf_X3_28)) (fun _ h9 => h9) rfl dX3_has_6 ?_
    refine rz_cge (tgt := 16) hx hb dX3_has_9 (by decide) (by omega) (by omega) (fun c2 => ?_) (fun c2 => ?_)
    · refine lv_iconst (v := iI (((0 : Nat) : Int))) hx hb dX3_has_16 (by decide +kernel) ?_
      exact hret _ _ _ _ _ _ dX3_has_17 (Or.inl rfl) ⟨rfl, (by first | exact (b2z_t (by omega)).symm | exact (b2z_f (by omega)).symm)⟩ hP hD hS
    · refine lv_iconst (v := iI (((1 : Nat) : Int))) hx hb dX3_has_12 (by decide +kernel) ?_
      refine lv_goto (tgt := 17) hx hb dX3_has_13 (by decide) ?_
      exact hret _ _ _ _ _ _ dX3_has_17 (Or.inr rfl) ⟨rfl, (by first | exact (b2z_t (by omega)).symm | exact (b2z_f (by omega)).symm)⟩ hP hD hS

set_option maxHeartbeats 4000000 in
set_option maxRecDepth 100000 in
theorem k_X3_put (l : Launch) (D : va_G) (cI cZ : ClassId) (sz : Nat) (hW : Nat) (rm : Nat) (qS : Nat) (qQ : Nat) (cn : Nat) (r4 : Nat) (sz_ : Nat → Nat) (sp : Nat → Nat) (hB : Nat) (qL : Nat) (qP : Nat) (qE : Nat) (qF : Nat) (n : Nat) (pl : Nat → Nat) (hc : cn < rm) (hrm : rm ≤ 16) (hr4 : r4 = rm * 4) (hn : n ≤ 4) : Ci l yX3_put wsX3_put (rmD 2) D vwCl [(cI, .int), (cZ, .boolean)] [.ref hW, .ref hB] [(hW, .inr (3, [.int (iI (((rm : Nat) : Int))), .ref qS, .ref qQ, .int (iI (((cn : Nat) : Int)))])), ce_i qS cI rm (nZ (sz_)), ce_i qQ cI r4 (nZ (sp)), (hB, .inr (0, [.ref qL, .ref qP, .ref qE, .ref qF, .int (iI (((n : Nat) : Int)))])), ce_i qP cI 4 (nZ (pl))] sz (fun z w => w = [(hW, .inr (3, [.int (iI (((rm : Nat) : Int))), .ref qS, .ref qQ, .int (iI (((cn + 1 : Nat) : Int)))])), ce_i qS cI rm (nZ (uN sz_ cn n)), ce_i qQ cI r4 (nZ (va_cpy pl sp 0 (cn * 4) n)), (hB, .inr (0, [.ref qL, .ref qP, .ref qE, .ref qF, .int (iI (((n : Nat) : Int)))])), ce_i qP cI 4 (nZ (pl))] ∧ z = ((cn : Nat) : Int)) 0 0 := by
  refine Ci_of (cc := cX3_put) (nL := 2) (by decide) rfl (Nat.le_of_ble_eq_true rfl) ?_
  intro p e s m below meth c A Q hsz C hK hN hA hP hD hS hret ls hl
  obtain ⟨hx, hb, hml, hown, hts⟩ := id C
  have hown : s.vm.findClass RX3 = some m.cls := hown
  have hl : lv_has ls 2 [(0, .ref hW), (1, .ref hB)] := hl
  have in_X3 : ∀ w ∈ u_ws RX3 TX3 4, w ∈ wsX3_put := fun w h => List.mem_cons_of_mem _ (inX3 w h)
  have in_X0 : ∀ w ∈ u_ws RX0 TX0 5, w ∈ wsX3_put := fun w h => List.mem_cons_of_mem _ (inX0 w h)
  refine lv_aload_n hx hb dX3_put_0 rfl (lv_at hl 0 rfl) ?_
  refine va_get (D := D) (ci := 3) (v := .ref qS) (C := RX3) (T := TX3) (N := 4) hx hb hts in_X3 hown hK hP 0 rfl rfl 1 (by decide) (hts _ (List.mem_cons_of_mem _ tf_X3_21)) (fun _ h9 => h9) rfl dX3_put_1 ?_
  refine lv_aload_n hx hb dX3_put_4 rfl (lv_at hl 0 rfl) ?_
  refine va_get (D := D) (ci := 3) (v := .int (iI (((cn : Nat) : Int)))) (C := RX3) (T := TX3) (N := 4) hx hb hts in_X3 hown hK hP 0 rfl rfl 3 (by decide) (hts _ (List.mem_cons_of_mem _ tf_X3_28)) (fun _ h9 => h9) rfl dX3_put_5 ?_
  refine lv_aload_n hx hb dX3_put_8 rfl (lv_at hl 1 rfl) ?_
  refine va_get (D := D) (ci := 0) (v := .int (iI (((n : Nat) : Int)))) (C := RX0) (T := TX0) (N := 5) hx hb hts in_X0 hown hK hP 3 rfl rfl 4 (by decide) (hts _ (List.mem_cons_of_mem _ tf_X3_31)) (fun _ h9 => h9) rfl dX3_put_9 ?_
  refine rn_astM hx hb hK hP hD hS 1 0 rfl rfl (by omega) (by omega) dX3_put_12 (fun H locs hP hD hS => ?_)
  have hP : va_P D vwCl [(hW, .inr (3, [.int (iI (((rm : Nat) : Int))), .ref qS, .ref qQ, .int (iI (((cn : Nat) : Int)))])), ce_i qS cI rm (nZ (uN sz_ cn n)), ce_i qQ cI r4 (nZ (sp)), (hB, .inr (0, [.ref qL, .ref qP, .ref qE, .ref qF, .int (iI (((n : Nat) : Int)))])), ce_i qP cI 4 (nZ (pl))] H := hP
  have hD : va_D A [(hW, .inr (3, [.int (iI (((rm : Nat) : Int))), .ref qS, .ref qQ, .int (iI (((cn : Nat) : Int)))])), ce_i qS cI rm (nZ (uN sz_ cn n)), ce_i qQ cI r4 (nZ (sp)), (hB, .inr (0, [.ref qL, .ref qP, .ref qE, .ref qF, .int (iI (((n : Nat) : Int)))])), ce_i qP cI 4 (nZ (pl))] := hD
  refine lv_aload_n hx hb dX3_put_13 rfl (lv_at hl 1 rfl) ?_
  refine va_get (D := D) (ci := 0) (v := .ref qP) (C := RX0) (T := TX0) (N := 5) hx hb hts in_X0 hown hK hP 3 rfl rfl 1 (by decide) (hts _ (List.mem_cons_of_mem _ tf_X3_34)) (fun _ h9 => h9) rfl dX3_put_14 ?_
  refine lv_iconst (v := iI (((0 : Nat) : Int))) hx hb dX3_put_17 (by decide +kernel) ?_
  refine lv_aload_n hx hb dX3_put_18 rfl (lv_at hl 0 rfl) ?_
  refine va_get (D := D) (ci := 3) (v := .ref qQ) (C := RX3) (T := TX3) (N := 4) hx hb hts in_X3 hown hK hP 0 rfl rfl 2 (by decide) (hts _ (List.mem_cons_of_mem _ tf_X3_25)) (fun _ h9 => h9) rfl dX3_put_19 ?_
  refine lv_aload_n hx hb dX3_put_22 rfl (lv_at hl 0 rfl) ?_
  refine va_get (D := D) (ci := 3) (v := .int (iI (((cn : Nat) : Int)))) (C := RX3) (T := TX3) (N := 4) hx hb hts in_X3 hown hK hP 0 rfl rfl 3 (by decide) (hts _ (List.mem_cons_of_mem _ tf_X3_28)) (fun _ h9 => h9) rfl dX3_put_23 ?_
  refine lv_iconst (v := iI (((4 : Nat) : Int))) hx hb dX3_put_26 (by decide +kernel) ?_
  refine rn_mul hx hb dX3_put_27 ?_
  refine lv_aload_n hx hb dX3_put_28 rfl (lv_at hl 1 rfl) ?_
  refine va_get (D := D) (ci := 0) (v := .int (iI (((n : Nat) : Int)))) (C := RX0) (T := TX0) (N := 5) hx hb hts in_X0 hown hK hP 3 rfl rfl 4 (by decide) (hts _ (List.mem_cons_of_mem _ tf_X3_31)) (fun _ h9 => h9) rfl dX3_put_29 ?_
  refine rn_copyM (rest := []) hx hb (hml.trans hl.1.symm) hown hts tm_X3_35 hK hP hD hS 4 2 0 rfl rfl rfl (by omega) (by omega) (by omega) (by omega) (Nat.le_of_ble_eq_true rfl) (Nat.le_of_ble_eq_true rfl) dX3_put_32 (fun H locs hP hD hS => ?_)
  have hP : va_P D vwCl [(hW, .inr (3, [.int (iI (((rm : Nat) : Int))), .ref qS, .ref qQ, .int (iI (((cn : Nat) : Int)))])), ce_i qS cI rm (nZ (uN sz_ cn n)), ce_i qQ cI r4 (nZ (va_cpy pl sp 0 (cn * 4) n)), (hB, .inr (0, [.ref qL, .ref qP, .ref qE, .ref qF, .int (iI (((n : Nat) : Int)))])), ce_i qP cI 4 (nZ (pl))] H := hP
  have hD : va_D A [(hW, .inr (3, [.int (iI (((rm : Nat) : Int))), .ref qS, .ref qQ, .int (iI (((cn : Nat) : Int)))])), ce_i qS cI rm (nZ (uN sz_ cn n)), ce_i qQ cI r4 (nZ (va_cpy pl sp 0 (cn * 4) n)), (hB, .inr (0, [.ref qL, .ref qP, .ref qE, .ref qF, .int (iI (((n : Nat) : Int)))])), ce_i qP cI 4 (nZ (pl))] := hD
  refine lv_aload_n hx hb dX3_put_35 rfl (lv_at hl 0 rfl) ?_
  refine lv_dup hx hb dX3_put_36 rfl ?_
  refine va_get (D := D) (ci := 3) (v := .int (iI (((cn : Nat) : Int)))) (C := RX3) (T := TX3) (N := 4) hx hb hts in_X3 hown hK hP 0 rfl rfl 3 (by decide) (hts _ (List.mem_cons_of_mem _ tf_X3_28)) (fun _ h9 => h9) rfl dX3_put_37 ?_
  refine lv_iconst (v := iI (((1 : Nat) : Int))) hx hb dX3_put_40 (by decide +kernel) ?_
  refine rn_add hx hb dX3_put_41 ?_
  refine va_put (D := D) (ci := 3) (v := .int (iI (((cn + 1 : Nat) : Int)))) (ty := .int) (C := RX3) (T := TX3) (N := 4) hx hb hts in_X3 tyX3 tyX3_ok nmX3 hown hK hP hD hS 0 rfl rfl 3 (by decide) (hts _ (List.mem_cons_of_mem _ tf_X3_28)) (fun _ h9 => h9) rfl (by decide +kernel) rfl rfl (Nat.le_of_ble_eq_true rfl) dX3_put_42 (fun H locs hP hD hS => ?_)
  have hP : va_P D vwCl [(hW, .inr (3, [.int (iI (((rm : Nat) : Int))), .ref qS, .ref qQ, .int (iI (((cn + 1 : Nat) : Int)))])), ce_i qS cI rm (nZ (uN sz_ cn n)), ce_i qQ cI r4 (nZ (va_cpy pl sp 0 (cn * 4) n)), (hB, .inr (0, [.ref qL, .ref qP, .ref qE, .ref qF, .int (iI (((n : Nat) : Int)))])), ce_i qP cI 4 (nZ (pl))] H := hP
  have hD : va_D A [(hW, .inr (3, [.int (iI (((rm : Nat) : Int))), .ref qS, .ref qQ, .int (iI (((cn + 1 : Nat) : Int)))])), ce_i qS cI rm (nZ (uN sz_ cn n)), ce_i qQ cI r4 (nZ (va_cpy pl sp 0 (cn * 4) n)), (hB, .inr (0, [.ref qL, .ref qP, .ref qE, .ref qF, .int (iI (((n : Nat) : Int)))])), ce_i qP cI 4 (nZ (pl))] := hD
  refine lv_aload_n hx hb dX3_put_45 rfl (lv_at hl 0 rfl) ?_
  refine va_get (D := D) (ci := 3) (v := .int (iI (((cn + 1 : Nat) : Int)))) (C := RX3) (T := TX3) (N := 4) hx hb hts in_X3 hown hK hP 0 rfl rfl 3 (by decide) (hts _ (List.mem_cons_of_mem _ tf_X3_28)) (fun _ h9 => h9) rfl dX3_put_46 ?_
  refine lv_iconst (v := iI (((1 : Nat) : Int))) hx hb dX3_put_49 (by decide +kernel) ?_
  refine rn_sub hx hb dX3_put_50 (by omega) ?_
  exact hret _ _ _ _ _ _ dX3_put_51 ⟨rfl, by omega⟩ hP hD hS

set_option maxHeartbeats 4000000 in
set_option maxRecDepth 100000 in
theorem k_X3_dropOldest (l : Launch) (D : va_G) (cI cZ : ClassId) (sz : Nat) (hW : Nat) (rm : Nat) (qS : Nat) (qQ : Nat) (cn : Nat) (r4 : Nat) (sz_ : Nat → Nat) (sp : Nat → Nat) (hc : 0 < cn ∧ cn ≤ rm) (hrm : rm ≤ 16) (hr4 : r4 = rm * 4) : Cv l yX3_dropOldest wsX3_dropOldest (rmD 2) D vwCl [(cI, .int), (cZ, .boolean)] [.ref hW] [(hW, .inr (3, [.int (iI (((rm : Nat) : Int))), .ref qS, .ref qQ, .int (iI (((cn : Nat) : Int)))])), ce_i qS cI rm (nZ (sz_)), ce_i qQ cI r4 (nZ (sp))] sz (fun w => w = [(hW, .inr (3, [.int (iI (((rm : Nat) : Int))), .ref qS, .ref qQ, .int (iI (((cn - 1 : Nat) : Int)))])), ce_i qS cI rm (nZ (va_cpy sz_ sz_ 1 0 (cn - 1))), ce_i qQ cI r4 (nZ (va_cpy sp sp 4 0 ((cn - 1) * 4)))]) 0 0 := by
  refine Cv_of (cc := cX3_dropOldest) (nL := 1) (by decide) rfl (Nat.le_of_ble_eq_true rfl) ?_
  intro p e s m below meth c A Q hsz C hK hN hA hP hD hS hin hret ls hl
  obtain ⟨hx, hb, hml, hown, hts⟩ := id C
  have hown : s.vm.findClass RX3 = some m.cls := hown
  have hl : lv_has ls 1 [(0, .ref hW)] := hl
  have in_X3 : ∀ w ∈ u_ws RX3 TX3 4, w ∈ wsX3_dropOldest := fun w h => List.mem_cons_of_mem _ (inX3 w h)
  refine lv_aload_n hx hb dX3_dropOldest_0 rfl (lv_at hl 0 rfl) ?_
  refine lv_dup hx hb dX3_dropOldest_1 rfl ?_
  refine va_get (D := D) (ci := 3) (v := .int (iI (((cn : Nat) : Int)))) (C := RX3) (T := TX3) (N := 4) hx hb hts in_X3 hown hK hP 0 rfl rfl 3 (by decide) (hts _ (List.mem_cons_of_mem _ tf_X3_28)) (fun _ h9 => h9) rfl dX3_dropOldest_2 ?_
  refine lv_iconst (v := iI (((1 : Nat) : Int))) hx hb dX3_dropOldest_5 (by decide +kernel) ?_
  refine rn_sub hx hb dX3_dropOldest_6 (by omega) ?_
  refine va_put (D := D) (ci := 3) (v := .int (iI (((cn - 1 : Nat) : Int)))) (ty := .int) (C := RX3) (T := TX3) (N := 4) hx hb hts in_X3 tyX3 tyX3_ok nmX3 hown hK hP hD hS 0 rfl rfl 3 (by decide) (hts _ (List.mem_cons_of_mem _ tf_X3_28)) (fun _ h9 => h9) rfl (by decide +kernel) rfl rfl (Nat.le_of_ble_eq_true rfl) dX3_dropOldest_7 (fun H locs hP hD hS => ?_)
  have hP : va_P D vwCl [(hW, .inr (3, [.int (iI (((rm : Nat) : Int))), .ref qS, .ref qQ, .int (iI (((cn - 1 : Nat) : Int)))])), ce_i qS cI rm (nZ (sz_)), ce_i qQ cI r4 (nZ (sp))] H := hP
  have hD : va_D A [(hW, .inr (3, [.int (iI (((rm : Nat) : Int))), .ref qS, .ref qQ, .int (iI (((cn - 1 : Nat) : Int)))])), ce_i qS cI rm (nZ (sz_)), ce_i qQ cI r4 (nZ (sp))] := hD
  refine lv_aload_n hx hb dX3_dropOldest_10 rfl (lv_at hl 0 rfl) ?_
  refine va_get (D := D) (ci := 3) (v := .ref qS) (C := RX3) (T := TX3) (N := 4) hx hb hts in_X3 hown hK hP 0 rfl rfl 1 (by decide) (hts _ (List.mem_cons_of_mem _ tf_X3_21)) (fun _ h9 => h9) rfl dX3_dropOldest_11 ?_
  refine lv_iconst (v := iI (((1 : Nat) : Int))) hx hb dX3_dropOldest_14 (by decide +kernel) ?_
  refine lv_aload_n hx hb dX3_dropOldest_15 rfl (lv_at hl 0 rfl) ?_
  refine va_get (D := D) (ci := 3) (v := .ref qS) (C := RX3) (T := TX3) (N := 4) hx hb hts in_X3 hown hK hP 0 rfl rfl 1 (by decide) (hts _ (List.mem_cons_of_mem _ tf_X3_21)) (fun _ h9 => h9) rfl dX3_dropOldest_16 ?_
  refine lv_iconst (v := iI (((0 : Nat) : Int))) hx hb dX3_dropOldest_19 (by decide +kernel) ?_
  refine lv_aload_n hx hb dX3_dropOldest_20 rfl (lv_at hl 0 rfl) ?_
  refine va_get (D := D) (ci := 3) (v := .int (iI (((cn - 1 : Nat) : Int)))) (C := RX3) (T := TX3) (N := 4) hx hb hts in_X3 hown hK hP 0 rfl rfl 3 (by decide) (hts _ (List.mem_cons_of_mem _ tf_X3_28)) (fun _ h9 => h9) rfl dX3_dropOldest_21 ?_
  refine rn_copyM (rest := []) hx hb (hml.trans hl.1.symm) hown hts tm_X3_35 hK hP hD hS 1 1 0 rfl rfl rfl (by omega) (by omega) (by omega) (by omega) (Nat.le_of_ble_eq_true rfl) (Nat.le_of_ble_eq_true rfl) dX3_dropOldest_24 (fun H locs hP hD hS => ?_)
  have hP : va_P D vwCl [(hW, .inr (3, [.int (iI (((rm : Nat) : Int))), .ref qS, .ref qQ, .int (iI (((cn - 1 : Nat) : Int)))])), ce_i qS cI rm (nZ (va_cpy sz_ sz_ 1 0 (cn - 1))), ce_i qQ cI r4 (nZ (sp))] H := hP
  have hD : va_D A [(hW, .inr (3, [.int (iI (((rm : Nat) : Int))), .ref qS, .ref qQ, .int (iI (((cn - 1 : Nat) : Int)))])), ce_i qS cI rm (nZ (va_cpy sz_ sz_ 1 0 (cn - 1))), ce_i qQ cI r4 (nZ (sp))] := hD
  refine lv_aload_n hx hb dX3_dropOldest_27 rfl (lv_at hl 0 rfl) ?_
  refine va_get (D := D) (ci := 3) (v := .ref qQ) (C := RX3) (T := TX3) (N := 4) hx hb hts in_X3 hown hK hP 0 rfl rfl 2 (by decide) (hts _ (List.mem_cons_of_mem _ tf_X3_25)) (fun _ h9 => h9) rfl dX3_dropOldest_28 ?_
  refine lv_iconst (v := iI (((4 : Nat) : Int))) hx hb dX3_dropOldest_31 (by decide +kernel) ?_
  refine lv_aload_n hx hb dX3_dropOldest_32 rfl (lv_at hl 0 rfl) ?_
  refine va_get (D := D) (ci := 3) (v := .ref qQ) (C := RX3) (T := TX3) (N := 4) hx hb hts in_X3 hown hK hP 0 rfl rfl 2 (by decide) (hts _ (List.mem_cons_of_mem _ tf_X3_25)) (fun _ h9 => h9) rfl dX3_dropOldest_33 ?_
  refine lv_iconst (v := iI (((0 : Nat) : Int))) hx hb dX3_dropOldest_36 (by decide +kernel) ?_
  refine lv_aload_n hx hb dX3_dropOldest_37 rfl (lv_at hl 0 rfl) ?_
  refine va_get (D := D) (ci := 3) (v := .int (iI (((cn - 1 : Nat) : Int)))) (C := RX3) (T := TX3) (N := 4) hx hb hts in_X3 hown hK hP 0 rfl rfl 3 (by decide) (hts _ (List.mem_cons_of_mem _ tf_X3_28)) (fun _ h9 => h9) rfl dX3_dropOldest_38 ?_
  refine lv_iconst (v := iI (((4 : Nat) : Int))) hx hb dX3_dropOldest_41 (by decide +kernel) ?_
  refine rn_mul hx hb dX3_dropOldest_42 ?_
  refine rn_copyM (rest := []) hx hb (hml.trans hl.1.symm) hown hts tm_X3_35 hK hP hD hS 2 2 0 rfl rfl rfl (by omega) (by omega) (by omega) (by omega) (Nat.le_of_ble_eq_true rfl) (Nat.le_of_ble_eq_true rfl) dX3_dropOldest_43 (fun H locs hP hD hS => ?_)
  have hP : va_P D vwCl [(hW, .inr (3, [.int (iI (((rm : Nat) : Int))), .ref qS, .ref qQ, .int (iI (((cn - 1 : Nat) : Int)))])), ce_i qS cI rm (nZ (va_cpy sz_ sz_ 1 0 (cn - 1))), ce_i qQ cI r4 (nZ (va_cpy sp sp 4 0 ((cn - 1) * 4)))] H := hP
  have hD : va_D A [(hW, .inr (3, [.int (iI (((rm : Nat) : Int))), .ref qS, .ref qQ, .int (iI (((cn - 1 : Nat) : Int)))])), ce_i qS cI rm (nZ (va_cpy sz_ sz_ 1 0 (cn - 1))), ce_i qQ cI r4 (nZ (va_cpy sp sp 4 0 ((cn - 1) * 4)))] := hD
  exact hret _ _ _ _ _ dX3_dropOldest_46 rfl hP hD hS

set_option maxHeartbeats 4000000 in
set_option maxRecDepth 100000 in
theorem k_X3_takeNewestInto (l : Launch) (D : va_G) (cI cZ : ClassId) (sz : Nat) (hW : Nat) (rm : Nat) (qS : Nat) (qQ : Nat) (cn : Nat) (r4 : Nat) (sz_ : Nat → Nat) (sp : Nat → Nat) (hB : Nat) (qL : Nat) (qP : Nat) (qE : Nat) (qF : Nat) (n : Nat) (pl : Nat → Nat) (hc : 0 < cn ∧ cn ≤ rm) (hrm : rm ≤ 16) (hr4 : r4 = rm * 4) (hz : sz_ (cn - 1) ≤ 4) : Cv l yX3_takeNewestInto wsX3_takeNewestInto (rmD 2) D vwCl [(cI, .int), (cZ, .boolean)] [.ref hW, .ref hB] [(hW, .inr (3, [.int (iI (((rm : Nat) : Int))), .ref qS, .ref qQ, .int (iI (((cn : Nat) : Int)))])), ce_i qS cI rm (nZ (sz_)), ce_i qQ cI r4 (nZ (sp)), (hB, .inr (0, [.ref qL, .ref qP, .ref qE, .ref qF, .int (iI (((n : Nat) : Int)))])), ce_i qP cI 4 (nZ (pl))] sz (fun w => w = [(hW, .inr (3, [.int (iI (((rm : Nat) : Int))), .ref qS, .ref qQ, .int (iI (((cn - 1 : Nat) : Int)))])), ce_i qS cI rm (nZ (sz_)), ce_i qQ cI r4 (nZ (sp)), (hB, .inr (0, [.ref qL, .ref qP, .ref qE, .ref qF, .int (iI (((n : Nat) : Int)))])), ce_i qP cI 4 (nZ (va_cpy sp pl ((cn - 1) * 4) 0 (sz_ (cn - 1))))]) 0 0 := by
  refine Cv_of (cc := cX3_takeNewestInto) (nL := 2) (by decide) rfl (Nat.le_of_ble_eq_true rfl) ?_
  intro p e s m below meth c A Q hsz C hK hN hA hP hD hS hin hret ls hl
  obtain ⟨hx, hb, hml, hown, hts⟩ := id C
  have hown : s.vm.findClass RX3 = some m.cls := hown
  have hl : lv_has ls 2 [(0, .ref hW), (1, .ref hB)] := hl
  have in_X3 : ∀ w ∈ u_ws RX3 TX3 4, w ∈ wsX3_takeNewestInto := fun w h => List.mem_cons_of_mem _ (inX3 w h)
  have in_X0 : ∀ w ∈ u_ws RX0 TX0 5, w ∈ wsX3_takeNewestInto := fun w h => List.mem_cons_of_mem _ (inX0 w h)
  refine lv_aload_n hx hb dX3_takeNewestInto_0 rfl (lv_at hl 0 rfl) ?_
  refine lv_dup hx hb dX3_takeNewestInto_1 rfl ?_
  refine va_get (D := D) (ci := 3) (v := .int (iI (((cn : Nat) : Int)))) (C := RX3) (T := TX3) (N := 4) hx hb hts in_X3 hown hK hP 0 rfl rfl 3 (by decide) (hts _ (List.mem_cons_of_mem _ tf_X3_28)) (fun _ h9 => h9) rfl dX3_takeNewestInto_2 ?_
  refine lv_iconst (v := iI (((1 : Nat) : Int))) hx hb dX3_takeNewestInto_5 (by decide +kernel) ?_
  refine rn_sub hx hb dX3_takeNewestInto_6 (by omega) ?_
  refine va_put (D := D) (ci := 3) (v := .int (iI (((cn - 1 : Nat) : Int)))) (ty := .int) (C := RX3) (T := TX3) (N := 4) hx hb hts in_X3 tyX3 tyX3_ok nmX3 hown hK hP hD hS 0 rfl rfl 3 (by decide) (hts _ (List.mem_cons_of_mem _ tf_X3_28)) (fun _ h9 => h9) rfl (by decide +kernel) rfl rfl (Nat.le_of_ble_eq_true rfl) dX3_takeNewestInto_7 (fun H locs hP hD hS => ?_)
  have hP : va_P D vwCl [(hW, .inr (3, [.int (iI (((rm : Nat) : Int))), .ref qS, .ref qQ, .int (iI (((cn - 1 : Nat) : Int)))])), ce_i qS cI rm (nZ (sz_)), ce_i qQ cI r4 (nZ (sp)), (hB, .inr (0, [.ref qL, .ref qP, .ref qE, .ref qF, .int (iI (((n : Nat) : Int)))])), ce_i qP cI 4 (nZ (pl))] H := hP
  have hD : va_D A [(hW, .inr (3, [.int (iI (((rm : Nat) : Int))), .ref qS, .ref qQ, .int (iI (((cn - 1 : Nat) : Int)))])), ce_i qS cI rm (nZ (sz_)), ce_i qQ cI r4 (nZ (sp)), (hB, .inr (0, [.ref qL, .ref qP, .ref qE, .ref qF, .int (iI (((n : Nat) : Int)))])), ce_i qP cI 4 (nZ (pl))] := hD
  refine lv_aload_n hx hb dX3_takeNewestInto_10 rfl (lv_at hl 0 rfl) ?_
  refine va_get (D := D) (ci := 3) (v := .ref qQ) (C := RX3) (T := TX3) (N := 4) hx hb hts in_X3 hown hK hP 0 rfl rfl 2 (by decide) (hts _ (List.mem_cons_of_mem _ tf_X3_25)) (fun _ h9 => h9) rfl dX3_takeNewestInto_11 ?_
  refine lv_aload_n hx hb dX3_takeNewestInto_14 rfl (lv_at hl 0 rfl) ?_
  refine va_get (D := D) (ci := 3) (v := .int (iI (((cn - 1 : Nat) : Int)))) (C := RX3) (T := TX3) (N := 4) hx hb hts in_X3 hown hK hP 0 rfl rfl 3 (by decide) (hts _ (List.mem_cons_of_mem _ tf_X3_28)) (fun _ h9 => h9) rfl dX3_takeNewestInto_15 ?_
  refine lv_iconst (v := iI (((4 : Nat) : Int))) hx hb dX3_takeNewestInto_18 (by decide +kernel) ?_
  refine rn_mul hx hb dX3_takeNewestInto_19 ?_
  refine lv_aload_n hx hb dX3_takeNewestInto_20 rfl (lv_at hl 1 rfl) ?_
  refine va_get (D := D) (ci := 0) (v := .ref qP) (C := RX0) (T := TX0) (N := 5) hx hb hts in_X0 hown hK hP 3 rfl rfl 1 (by decide) (hts _ (List.mem_cons_of_mem _ tf_X3_34)) (fun _ h9 => h9) rfl dX3_takeNewestInto_21 ?_
  refine lv_iconst (v := iI (((0 : Nat) : Int))) hx hb dX3_takeNewestInto_24 (by decide +kernel) ?_
  refine lv_aload_n hx hb dX3_takeNewestInto_25 rfl (lv_at hl 0 rfl) ?_
  refine va_get (D := D) (ci := 3) (v := .ref qS) (C := RX3) (T := TX3) (N := 4) hx hb hts in_X3 hown hK hP 0 rfl rfl 1 (by decide) (hts _ (List.mem_cons_of_mem _ tf_X3_21)) (fun _ h9 => h9) rfl dX3_takeNewestInto_26 ?_
  refine lv_aload_n hx hb dX3_takeNewestInto_29 rfl (lv_at hl 0 rfl) ?_
  refine va_get (D := D) (ci := 3) (v := .int (iI (((cn - 1 : Nat) : Int)))) (C := RX3) (T := TX3) (N := 4) hx hb hts in_X3 hown hK hP 0 rfl rfl 3 (by decide) (hts _ (List.mem_cons_of_mem _ tf_X3_28)) (fun _ h9 => h9) rfl dX3_takeNewestInto_30 ?_
  refine rn_aldM hx hb hK hP 1 0 rfl rfl (by omega) (by omega) dX3_takeNewestInto_33 ?_
  refine rn_copyM (rest := []) hx hb (hml.trans hl.1.symm) hown hts tm_X3_35 hK hP hD hS 2 4 0 rfl rfl rfl (by omega) (by omega) (by omega) (by omega) (Nat.le_of_ble_eq_true rfl) (Nat.le_of_ble_eq_true rfl) dX3_takeNewestInto_34 (fun H locs hP hD hS => ?_)
  have hP : va_P D vwCl [(hW, .inr (3, [.int (iI (((rm : Nat) : Int))), .ref qS, .ref qQ, .int (iI (((cn - 1 : Nat) : Int)))])), ce_i qS cI rm (nZ (sz_)), ce_i qQ cI r4 (nZ (sp)), (hB, .inr (0, [.ref qL, .ref qP, .ref qE, .ref qF, .int (iI (((n : Nat) : Int)))])), ce_i qP cI 4 (nZ (va_cpy sp pl ((cn - 1) * 4) 0 (sz_ (cn - 1))))] H := hP
  have hD : va_D A [(hW, .inr (3, [.int (iI (((rm : Nat) : Int))), .ref qS, .ref qQ, .int (iI (((cn - 1 : Nat) : Int)))])), ce_i qS cI rm (nZ (sz_)), ce_i qQ cI r4 (nZ (sp)), (hB, .inr (0, [.ref qL, .ref qP, .ref qE, .ref qF, .int (iI (((n : Nat) : Int)))])), ce_i qP cI 4 (nZ (va_cpy sp pl ((cn - 1) * 4) 0 (sz_ (cn - 1))))] := hD
  exact hret _ _ _ _ _ dX3_takeNewestInto_37 rfl hP hD hS

set_option maxHeartbeats 4000000 in
set_option maxRecDepth 100000 in
theorem k_X3_otherPlaces (l : Launch) (D : va_G) (cI cZ : ClassId) (sz : Nat) (hW : Nat) (rm : Nat) (qS : Nat) (qQ : Nat) (cn : Nat) (r4 : Nat) (sz_ : Nat → Nat) (sp : Nat → Nat) (hB : Nat) (qL : Nat) (qP : Nat) (qE : Nat) (qF : Nat) (n : Nat) (pl : Nat → Nat) (nu : Nat) (hc : nu < cn ∧ cn ≤ rm) (hrm : rm ≤ 16) (hr4 : r4 = rm * 4) (hn : n ≤ 4) (hz : sz_ nu ≤ 4) (hpl : ∀ j, pl j < 30) (hsp : ∀ j, sp j < 30) : Ci l yX3_otherPlaces wsX3_otherPlaces (rmD 0) D vwCl [(cI, .int), (cZ, .boolean)] [.ref hW, .int (iI (((nu : Nat) : Int))), .ref hB] [(hW, .inr (3, [.int (iI (((rm : Nat) : Int))), .ref qS, .ref qQ, .int (iI (((cn : Nat) : Int)))])), ce_i qS cI rm (nZ (sz_)), ce_i qQ cI r4 (nZ (sp)), (hB, .inr (0, [.ref qL, .ref qP, .ref qE, .ref qF, .int (iI (((n : Nat) : Int)))])), ce_i qP cI 4 (nZ (pl))] sz (fun z w => w = [(hW, .inr (3, [.int (iI (((rm : Nat) : Int))), .ref qS, .ref qQ, .int (iI (((cn : Nat) : Int)))])), ce_i qS cI rm (nZ (sz_)), ce_i qQ cI r4 (nZ (sp)), (hB, .inr (0, [.ref qL, .ref qP, .ref qE, .ref qF, .int (iI (((n : Nat) : Int)))])), ce_i qP cI 4 (nZ (pl))] ∧ z = ((othF (othX sz_ sp pl nu) n : Nat) : Int)) 0 0 := by
  refine Ci_of (cc := cX3_otherPlaces) (nL := 6) (by decide) rfl (Nat.le_of_ble_eq_true rfl) ?_
  intro p e s m below meth c A Q hsz C hK hN hA hP hD hS hret ls hl
  obtain ⟨hx, hb, hml, hown, hts⟩ := id C
  have hown : s.vm.findClass RX3 = some m.cls := hown
  have hl : lv_has ls 6 [(0, .ref hW), (1, .int (iI (((nu : Nat) : Int)))), (2, .ref hB)] := hl
  have in_X0 : ∀ w ∈ u_ws RX0 TX0 5, w ∈ wsX3_otherPlaces := fun w h => List.mem_cons_of_mem _ (inX0 w h)
  have in_X3 : ∀ w ∈ u_ws RX3 TX3 4, w ∈ wsX3_otherPlaces := fun w h => List.mem_cons_of_mem _ (inX3 w h)
  have K5 : ∀ (fu : Nat) (b : Nat) (st : Nat), n - b < fu → b ≤ n → st = othF (othX sz_ sp pl nu) b → ∀ (H : Heap) (locs : List Loc) (ls : Array Slot), va_P D vwCl [(hW, .inr (3, [.int (iI (((rm : Nat) : Int))), .ref qS, .ref qQ, .int (iI (((cn : Nat) : Int)))])), ce_i qS cI rm (nZ (sz_)), ce_i qQ cI r4 (nZ (sp)), (hB, .inr (0, [.ref qL, .ref qP, .ref qE, .ref qF, .int (iI (((n : Nat) : Int)))])), ce_i qP cI 4 (nZ (pl))] H → va_D A [(hW, .inr (3, [.int (iI (((rm : Nat) : Int))), .ref qS, .ref qQ, .int (iI (((cn : Nat) : Int)))])), ce_i qS cI rm (nZ (sz_)), ce_i qQ cI r4 (nZ (sp)), (hB, .inr (0, [.ref qL, .ref qP, .ref qE, .ref qF, .int (iI (((n : Nat) : Int)))])), ce_i qP cI 4 (nZ (pl))] → va_S A s.heap H locs → lv_has ls 6 [(0, .ref hW), (1, .int (iI (((nu : Nat) : Int)))), (2, .ref hB), (3, .int (iI (((st : Nat) : Int)))), (4, .int (iI (((b : Nat) : Int))))] → W p l e (rmD 0) s m ([.ref hW, .int (iI (((nu : Nat) : Int))), .ref hB] : List Value).toArray below meth c H locs 0 0 Q (F0 m 5 ls []) := by
    intro fu
    induction fu with
    | zero => intro b st hmu; exact absurd hmu (Nat.not_lt_zero _)
    | succ fu ih =>
      intro b st hmu hb4 hst H locs ls hP hD hS hl
      refine lv_iload hx hb dX3_otherPlaces_5 (lv_at hl 4 rfl) ?_
      refine lv_aload_n hx hb dX3_otherPlaces_7 rfl (lv_at hl 2 rfl) ?_
      refine va_get (D := D) (ci := 0) (v := .int (iI (((n : Nat) : Int)))) (C := RX0) (T := TX0) (N := 5) hx hb hts in_X0 hown hK hP 3 rfl rfl 4 (by decide) (hts _ (List.mem_cons_of_mem _ tf_X3_31)) (fun _ h9 => h9) rfl dX3_otherPlaces_8 ?_
      refine rz_cge (tgt := 71) hx hb dX3_otherPlaces_11 (by decide) (by omega) (by omega) (fun c1 => ?_) (fun c1 => ?_)
      · refine lv_iload_n hx hb dX3_otherPlaces_71 rfl (lv_at hl 3 rfl) ?_
        exact hret _ _ _ _ _ _ dX3_otherPlaces_72 ⟨rfl, (by rw [hst, show b = n by omega])⟩ hP hD hS
      · refine lv_iload hx hb dX3_otherPlaces_14 (lv_at hl 4 rfl) ?_
        refine lv_aload_n hx hb dX3_otherPlaces_16 rfl (lv_at hl 0 rfl) ?_
        refine va_get (D := D) (ci := 3) (v := .ref qS) (C := RX3) (T := TX3) (N := 4) hx hb hts in_X3 hown hK hP 0 rfl rfl 1 (by decide) (hts _ (List.mem_cons_of_mem _ tf_X3_21)) (fun _ h9 => h9) rfl dX3_otherPlaces_17 ?_
        refine lv_iload_n hx hb dX3_otherPlaces_20 rfl (lv_at hl 1 rfl) ?_
        refine rn_aldM hx hb hK hP 1 0 rfl rfl (by omega) (by omega) dX3_otherPlaces_21 ?_
        refine rz_cge (tgt := 29) hx hb dX3_otherPlaces_22 (by decide) (by omega) (by omega) (fun c2 => ?_) (fun c2 => ?_)
        · refine lv_iconst (v := iI (((0 : Nat) : Int))) hx hb dX3_otherPlaces_29 (by decide +kernel) ?_
          refine lv_istore (lv' := [(5, .int (iI (((0 : Nat) : Int)))), (0, .ref hW), (1, .int (iI (((nu : Nat) : Int)))), (2, .ref hB), (3, .int (iI (((st : Nat) : Int)))), (4, .int (iI (((b : Nat) : Int))))]) hx hb dX3_otherPlaces_30 hl (by decide) rfl (fun ls hl => ?_)
          refine lv_iload hx hb dX3_otherPlaces_32 (lv_at hl 0 rfl) ?_
          refine rz_ieq (tgt := 58) hx hb dX3_otherPlaces_34 (by decide) (by omega) (fun c3 => ?_) (fun c3 => ?_)
          · refine lv_iload_n hx hb dX3_otherPlaces_58 rfl (lv_at hl 4 rfl) ?_
            refine lv_iconst (v := iI (((1 : Nat) : Int))) hx hb dX3_otherPlaces_59 (by decide +kernel) ?_
            refine lv_iload hx hb dX3_otherPlaces_60 (lv_at hl 5 rfl) ?_
            refine rz_shl hx hb dX3_otherPlaces_62 (by omega) (pw_lt (by omega)) ?_
            refine rz_or hx hb dX3_otherPlaces_63 ?_
            refine lv_istore_n (lv' := [(3, .int (iI (((st ||| (1 * 2 ^ b) : Nat) : Int)))), (5, .int (iI (((0 : Nat) : Int)))), (0, .ref hW), (1, .int (iI (((nu : Nat) : Int)))), (2, .ref hB), (4, .int (iI (((b : Nat) : Int))))]) hx hb dX3_otherPlaces_64 rfl hl (by decide) rfl (fun ls hl => ?_)
            refine lv_iinc (v := iI (((b + 1 : Nat) : Int))) (lv' := [(4, .int (iI (((b + 1 : Nat) : Int)))), (3, .int (iI (((st ||| (1 * 2 ^ b) : Nat) : Int)))), (5, .int (iI (((0 : Nat) : Int)))), (0, .ref hW), (1, .int (iI (((nu : Nat) : Int)))), (2, .ref hB)]) hx hb dX3_otherPlaces_65 hl (k := 5) rfl (iI_inc _) (by decide) rfl (fun ls hl => ?_)
            refine lv_goto (tgt := 5) hx hb dX3_otherPlaces_68 (by decide) ?_
            exact ih (b + 1) (st ||| (1 * 2 ^ b)) (by omega) (by omega) (by first | rw [hst, othF, if_pos (by unfold othX; rw [decide_eq_true_eq]; omega)] | rw [hst, othF, if_neg (by unfold othX; rw [decide_eq_true_eq]; omega)]) _ _ _ hP hD hS (lv_sub hl [3, 4, 5, 1, 0] rfl)
          · exfalso; omega
        · refine lv_iconst (v := iI (((1 : Nat) : Int))) hx hb dX3_otherPlaces_25 (by decide +kernel) ?_
          refine lv_goto (tgt := 30) hx hb dX3_otherPlaces_26 (by decide) ?_
          refine lv_istore (lv' := [(5, .int (iI (((1 : Nat) : Int)))), (0, .ref hW), (1, .int (iI (((nu : Nat) : Int)))), (2, .ref hB), (3, .int (iI (((st : Nat) : Int)))), (4, .int (iI (((b : Nat) : Int))))]) hx hb dX3_otherPlaces_30 hl (by decide) rfl (fun ls hl => ?_)
          refine lv_iload hx hb dX3_otherPlaces_32 (lv_at hl 0 rfl) ?_
          refine rz_ieq (tgt := 58) hx hb dX3_otherPlaces_34 (by decide) (by omega) (fun c4 => ?_) (fun c4 => ?_)
          · exfalso; omega
          · refine lv_aload_n hx hb dX3_otherPlaces_37 rfl (lv_at hl 1 rfl) ?_
            refine va_get (D := D) (ci := 3) (v := .ref qQ) (C := RX3) (T := TX3) (N := 4) hx hb hts in_X3 hown hK hP 0 rfl rfl 2 (by decide) (hts _ (List.mem_cons_of_mem _ tf_X3_25)) (fun _ h9 => h9) rfl dX3_otherPlaces_38 ?_
            refine lv_iload_n hx hb dX3_otherPlaces_41 rfl (lv_at hl 2 rfl) ?_
            refine lv_iconst (v := iI (((4 : Nat) : Int))) hx hb dX3_otherPlaces_42 (by decide +kernel) ?_
            refine rn_mul hx hb dX3_otherPlaces_43 ?_
            refine lv_iload hx hb dX3_otherPlaces_44 (lv_at hl 5 rfl) ?_
            refine rn_add hx hb dX3_otherPlaces_46 ?_
            refine rn_aldM hx hb hK hP 2 0 rfl rfl (by omega) (by omega) dX3_otherPlaces_47 ?_
            refine lv_aload_n hx hb dX3_otherPlaces_48 rfl (lv_at hl 3 rfl) ?_
            refine va_get (D := D) (ci := 0) (v := .ref qP) (C := RX0) (T := TX0) (N := 5) hx hb hts in_X0 hown hK hP 3 rfl rfl 1 (by decide) (hts _ (List.mem_cons_of_mem _ tf_X3_34)) (fun _ h9 => h9) rfl dX3_otherPlaces_49 ?_
            refine lv_iload hx hb dX3_otherPlaces_52 (lv_at hl 5 rfl) ?_
            refine rn_aldM hx hb hK hP 4 0 rfl rfl (by omega) (by omega) dX3_otherPlaces_54 ?_
            refine rz_ceq (tgt := 65) hx hb dX3_otherPlaces_55 (by decide) (by have := hsp (nu * 4 + b); omega) (by have := hpl b; omega) (fun c5 => ?_) (fun c5 => ?_)
            · refine lv_iinc (v := iI (((b + 1 : Nat) : Int))) (lv' := [(4, .int (iI (((b + 1 : Nat) : Int)))), (5, .int (iI (((1 : Nat) : Int)))), (0, .ref hW), (1, .int (iI (((nu : Nat) : Int)))), (2, .ref hB), (3, .int (iI (((st : Nat) : Int))))]) hx hb dX3_otherPlaces_65 hl (k := 5) rfl (iI_inc _) (by decide) rfl (fun ls hl => ?_)
              refine lv_goto (tgt := 5) hx hb dX3_otherPlaces_68 (by decide) ?_
              exact ih (b + 1) (st) (by omega) (by omega) (by first | rw [hst, othF, if_pos (by unfold othX; rw [decide_eq_true_eq]; omega)] | rw [hst, othF, if_neg (by unfold othX; rw [decide_eq_true_eq]; omega)]) _ _ _ hP hD hS (lv_sub hl [2, 3, 4, 5, 0] rfl)
            · refine lv_iload_n hx hb dX3_otherPlaces_58 rfl (lv_at hl 4 rfl) ?_
              refine lv_iconst (v := iI (((1 : Nat) : Int))) hx hb dX3_otherPlaces_59 (by decide +kernel) ?_
              refine lv_iload hx hb dX3_otherPlaces_60 (lv_at hl 5 rfl) ?_
              refine rz_shl hx hb dX3_otherPlaces_62 (by omega) (pw_lt (by omega)) ?_
              refine rz_or hx hb dX3_otherPlaces_63 ?_
              refine lv_istore_n (lv' := [(3, .int (iI (((st ||| (1 * 2 ^ b) : Nat) : Int)))), (5, .int (iI (((1 : Nat) : Int)))), (0, .ref hW), (1, .int (iI (((nu : Nat) : Int)))), (2, .ref hB), (4, .int (iI (((b : Nat) : Int))))]) hx hb dX3_otherPlaces_64 rfl hl (by decide) rfl (fun ls hl => ?_)
              refine lv_iinc (v := iI (((b + 1 : Nat) : Int))) (lv' := [(4, .int (iI (((b + 1 : Nat) : Int)))), (3, .int (iI (((st ||| (1 * 2 ^ b) : Nat) : Int)))), (5, .int (iI (((1 : Nat) : Int)))), (0, .ref hW), (1, .int (iI (((nu : Nat) : Int)))), (2, .ref hB)]) hx hb dX3_otherPlaces_65 hl (k := 5) rfl (iI_inc _) (by decide) rfl (fun ls hl => ?_)
              refine lv_goto (tgt := 5) hx hb dX3_otherPlaces_68 (by decide) ?_
              exact ih (b + 1) (st ||| (1 * 2 ^ b)) (by omega) (by omega) (by first | rw [hst, othF, if_pos (by unfold othX; rw [decide_eq_true_eq]; omega)] | rw [hst, othF, if_neg (by unfold othX; rw [decide_eq_true_eq]; omega)]) _ _ _ hP hD hS (lv_sub hl [3, 4, 5, 1, 0] rfl)
  refine lv_iconst (v := iI (((0 : Nat) : Int))) hx hb dX3_otherPlaces_0 (by decide +kernel) ?_
  refine lv_istore_n (lv' := [(3, .int (iI (((0 : Nat) : Int)))), (0, .ref hW), (1, .int (iI (((nu : Nat) : Int)))), (2, .ref hB)]) hx hb dX3_otherPlaces_1 rfl hl (by decide) rfl (fun ls hl => ?_)
  refine lv_iconst (v := iI (((0 : Nat) : Int))) hx hb dX3_otherPlaces_2 (by decide +kernel) ?_
  refine lv_istore (lv' := [(4, .int (iI (((0 : Nat) : Int)))), (3, .int (iI (((0 : Nat) : Int)))), (0, .ref hW), (1, .int (iI (((nu : Nat) : Int)))), (2, .ref hB)]) hx hb dX3_otherPlaces_3 hl (by decide) rfl (fun ls hl => ?_)
  exact K5 (n - (0) + 1) (0) (0) (Nat.lt_succ_self _) (by omega) rfl _ _ _ hP hD hS (lv_sub hl [2, 3, 4, 1, 0] rfl)

set_option maxHeartbeats 4000000 in
set_option maxRecDepth 100000 in
theorem k_X4_isTank (l : Launch) (D : va_G) (cI cZ : ClassId) (sz : Nat) (hX : Nat) (T : Nat) (dd : Nat) (hB : Nat) (hR : Nat) (hQ : Nat) (hF : Nat) (hC : Nat) (no : Nat) (sh : Nat) (cs : Nat) (lc : Nat) (co : Int64) (t : Int) (hT : 1 ≤ T ∧ T ≤ 3) (ht : -2147483648 ≤ t ∧ t < 2147483648) : Ci l yX4_isTank wsX4_isTank (rmD 0) D vwCl [(cI, .int), (cZ, .boolean)] [.ref hX, .int (iI (t))] [(hX, .inr (4, [.int (iI (((T : Nat) : Int))), .int (iI (((dd : Nat) : Int))), .ref hB, .ref hR, .ref hQ, .ref hF, .ref hC, .int (iI (((no : Nat) : Int))), .int (iI (((sh : Nat) : Int))), .int (iI (((cs : Nat) : Int))), .int (iI (((lc : Nat) : Int))), .long (co)]))] sz (fun z w => w = [(hX, .inr (4, [.int (iI (((T : Nat) : Int))), .int (iI (((dd : Nat) : Int))), .ref hB, .ref hR, .ref hQ, .ref hF, .ref hC, .int (iI (((no : Nat) : Int))), .int (iI (((sh : Nat) : Int))), .int (iI (((cs : Nat) : Int))), .int (iI (((lc : Nat) : Int))), .long (co)]))] ∧ z = b2z (decide (0 ≤ t ∧ t < ((T : Nat) : Int)))) 0 0 := by
  refine Cz_of (cc := cX4_isTank) (nL := 2) (by decide) rfl (Nat.le_of_ble_eq_true rfl) ?_
  intro p e s m below meth c A Q hsz C hK hN hA hP hD hS hret ls hl
  obtain ⟨hx, hb, hml, hown, hts⟩ := id C
  have hown : s.vm.findClass RX4 = some m.cls := hown
  have hl : lv_has ls 2 [(0, .ref hX), (1, .int (iI (t)))] := hl
  have in_X4 : ∀ w ∈ u_ws RX4 TX4 12, w ∈ wsX4_isTank := fun w h => List.mem_cons_of_mem _ (inX4 w h)
  refine lv_iload_n hx hb dX4_isTank_0 rfl (lv_at hl 1 rfl) ?_
  refine rz_ilt (tgt := 16) hx hb dX4_isTank_1 (by decide) (by omega) (fun c1 => ?_) (fun c1 => ?_)
  · refine lv_iconst (v := iI (((0 : Nat) : Int))) hx hb dX4_isTank_16 (by decide +kernel) ?_
    exact hret _ _ _ _ _ _ dX4_isTank_17 (Or.inl rfl) ⟨rfl, (by first | exact (b2z_t (by omega)).symm | exact (b2z_f (by omega)).symm)⟩ hP hD hS
  · refine lv_iload_n hx hb dX4_isTank_4 rfl (lv_at hl 1 rfl) ?_
    refine lv_aload_n hx hb dX4_isTank_5 rfl (lv_at hl 0 rfl) ?_
    refine va_get (D := D) (ci := 4) (v := .int (iI (((T : Nat) : Int)))) (C := RX4) (T := TX4) (N := 12) hx hb hts in_X4 hown hK hP 0 rfl rfl 0 (by decide) (hts _ (List.mem_cons_of_mem _ tf_X4_51)) (fun _ h9 => h9) rfl dX4_isTank_6 ?_
    refine rz_cge (tgt := 16) hx hb dX4_isTank_9 (by decide) (by omega) (by omega) (fun c2 => ?_) (fun c2 => ?_)
    · refine lv_iconst (v := iI (((0 : Nat) : Int))) hx hb dX4_isTank_16 (by decide +kernel) ?_
      exact hret _ _ _ _ _ _ dX4_isTank_17 (Or.inl rfl) ⟨rfl, (by first | exact (b2z_t (by omega)).symm | exact (b2z_f (by omega)).symm)⟩ hP hD hS
    · refine lv_iconst (v := iI (((1 : Nat) : Int))) hx hb dX4_isTank_12 (by decide +kernel) ?_
      refine lv_goto (tgt := 17) hx hb dX4_isTank_13 (by decide) ?_
      exact hret _ _ _ _ _ _ dX4_isTank_17 (Or.inr rfl) ⟨rfl, (by first | exact (b2z_t (by omega)).symm | exact (b2z_f (by omega)).symm)⟩ hP hD hS

set_option maxHeartbeats 4000000 in
set_option maxRecDepth 100000 in
theorem k_X4_isWithinDays (l : Launch) (D : va_G) (cI cZ : ClassId) (sz : Nat) (hX : Nat) (T : Nat) (dd : Nat) (hB : Nat) (hR : Nat) (hQ : Nat) (hF : Nat) (hC : Nat) (no : Nat) (sh : Nat) (cs : Nat) (lc : Nat) (co : Int64) (s0 : Int) (l0 : Int) (hdd : 1 ≤ dd ∧ dd ≤ 10) (hs0 : -2147483648 ≤ s0 ∧ s0 < 2147483648) (hl0 : -2147483648 ≤ l0 ∧ l0 < 2147483648) : Ci l yX4_isWithinDays wsX4_isWithinDays (rmD 0) D vwCl [(cI, .int), (cZ, .boolean)] [.ref hX, .int (iI (s0)), .int (iI (l0))] [(hX, .inr (4, [.int (iI (((T : Nat) : Int))), .int (iI (((dd : Nat) : Int))), .ref hB, .ref hR, .ref hQ, .ref hF, .ref hC, .int (iI (((no : Nat) : Int))), .int (iI (((sh : Nat) : Int))), .int (iI (((cs : Nat) : Int))), .int (iI (((lc : Nat) : Int))), .long (co)]))] sz (fun z w => w = [(hX, .inr (4, [.int (iI (((T : Nat) : Int))), .int (iI (((dd : Nat) : Int))), .ref hB, .ref hR, .ref hQ, .ref hF, .ref hC, .int (iI (((no : Nat) : Int))), .int (iI (((sh : Nat) : Int))), .int (iI (((cs : Nat) : Int))), .int (iI (((lc : Nat) : Int))), .long (co)]))] ∧ z = b2z (decide (0 ≤ s0 ∧ 1 ≤ l0 ∧ s0 + l0 ≤ ((dd : Nat) : Int)))) 0 0 := by
  refine Cz_of (cc := cX4_isWithinDays) (nL := 3) (by decide) rfl (Nat.le_of_ble_eq_true rfl) ?_
  intro p e s m below meth c A Q hsz C hK hN hA hP hD hS hret ls hl
  obtain ⟨hx, hb, hml, hown, hts⟩ := id C
  have hown : s.vm.findClass RX4 = some m.cls := hown
  have hl : lv_has ls 3 [(0, .ref hX), (1, .int (iI (s0))), (2, .int (iI (l0)))] := hl
  have in_X4 : ∀ w ∈ u_ws RX4 TX4 12, w ∈ wsX4_isWithinDays := fun w h => List.mem_cons_of_mem _ (inX4 w h)
  refine lv_iload_n hx hb dX4_isWithinDays_0 rfl (lv_at hl 1 rfl) ?_
  refine rz_ilt (tgt := 31) hx hb dX4_isWithinDays_1 (by decide) (by omega) (fun c1 => ?_) (fun c1 => ?_)
  · refine lv_iconst (v := iI (((0 : Nat) : Int))) hx hb dX4_isWithinDays_31 (by decide +kernel) ?_
    exact hret _ _ _ _ _ _ dX4_isWithinDays_32 (Or.inl rfl) ⟨rfl, (by first | exact (b2z_t (by omega)).symm | exact (b2z_f (by omega)).symm)⟩ hP hD hS
  · refine lv_iload_n hx hb dX4_isWithinDays_4 rfl (lv_at hl 1 rfl) ?_
    refine lv_aload_n hx hb dX4_isWithinDays_5 rfl (lv_at hl 0 rfl) ?_
    refine va_get (D := D) (ci := 4) (v := .int (iI (((dd : Nat) : Int)))) (C := RX4) (T := TX4) (N := 12) hx hb hts in_X4 hown hK hP 0 rfl rfl 1 (by decide) (hts _ (List.mem_cons_of_mem _ tf_X4_55)) (fun _ h9 => h9) rfl dX4_isWithinDays_6 ?_
    refine rz_cge (tgt := 31) hx hb dX4_isWithinDays_9 (by decide) (by omega) (by omega) (fun c2 => ?_) (fun c2 => ?_)
    · refine lv_iconst (v := iI (((0 : Nat) : Int))) hx hb dX4_isWithinDays_31 (by decide +kernel) ?_
      exact hret _ _ _ _ _ _ dX4_isWithinDays_32 (Or.inl rfl) ⟨rfl, (by first | exact (b2z_t (by omega)).symm | exact (b2z_f (by omega)).symm)⟩ hP hD hS
    · refine lv_iload_n hx hb dX4_isWithinDays_12 rfl (lv_at hl 2 rfl) ?_
      refine lv_iconst (v := iI (((1 : Nat) : Int))) hx hb dX4_isWithinDays_13 (by decide +kernel) ?_
      refine rz_clt (tgt := 31) hx hb dX4_isWithinDays_14 (by decide) (by omega) (by omega) (fun c3 => ?_) (fun c3 => ?_)
      · refine lv_iconst (v := iI (((0 : Nat) : Int))) hx hb dX4_isWithinDays_31 (by decide +kernel) ?_
        exact hret _ _ _ _ _ _ dX4_isWithinDays_32 (Or.inl rfl) ⟨rfl, (by first | exact (b2z_t (by omega)).symm | exact (b2z_f (by omega)).symm)⟩ hP hD hS
      · refine lv_iload_n hx hb dX4_isWithinDays_17 rfl (lv_at hl 2 rfl) ?_
        refine lv_aload_n hx hb dX4_isWithinDays_18 rfl (lv_at hl 0 rfl) ?_
        refine va_get (D := D) (ci := 4) (v := .int (iI (((dd : Nat) : Int)))) (C := RX4) (T := TX4) (N := 12) hx hb hts in_X4 hown hK hP 0 rfl rfl 1 (by decide) (hts _ (List.mem_cons_of_mem _ tf_X4_55)) (fun _ h9 => h9) rfl dX4_isWithinDays_19 ?_
        refine lv_iload_n hx hb dX4_isWithinDays_22 rfl (lv_at hl 1 rfl) ?_
        refine rz_sub hx hb dX4_isWithinDays_23 ?_
        refine rz_cgt (tgt := 31) hx hb dX4_isWithinDays_24 (by decide) (by omega) (by omega) (fun c4 => ?_) (fun c4 => ?_)
        · refine lv_iconst (v := iI (((0 : Nat) : Int))) hx hb dX4_isWithinDays_31 (by decide +kernel) ?_
          exact hret _ _ _ _ _ _ dX4_isWithinDays_32 (Or.inl rfl) ⟨rfl, (by first | exact (b2z_t (by omega)).symm | exact (b2z_f (by omega)).symm)⟩ hP hD hS
        · refine lv_iconst (v := iI (((1 : Nat) : Int))) hx hb dX4_isWithinDays_27 (by decide +kernel) ?_
          refine lv_goto (tgt := 32) hx hb dX4_isWithinDays_28 (by decide) ?_
          exact hret _ _ _ _ _ _ dX4_isWithinDays_32 (Or.inr rfl) ⟨rfl, (by first | exact (b2z_t (by omega)).symm | exact (b2z_f (by omega)).symm)⟩ hP hD hS

set_option maxHeartbeats 4000000 in
set_option maxRecDepth 100000 in
theorem k_X4_isRule (l : Launch) (D : va_G) (cI cZ : ClassId) (sz : Nat) (hX : Nat) (T : Nat) (dd : Nat) (hB : Nat) (hR : Nat) (hQ : Nat) (hF : Nat) (hC : Nat) (no : Nat) (sh : Nat) (cs : Nat) (lc : Nat) (co : Int64) (qL : Nat) (qP : Nat) (qE : Nat) (qF : Nat) (n : Nat) (kd : Int) (a : Int) (b : Int) (d : Int) (hn : n ≤ 4) (hkd : -2147483648 ≤ kd ∧ kd < 2147483648) (ha : -2147483648 ≤ a ∧ a < 2147483648) (hb : -2147483648 ≤ b ∧ b < 2147483648) (hd : -2147483648 ≤ d ∧ d < 2147483648) : Ci l yX4_isRule wsX4_isRule (rmD 1) D vwCl [(cI, .int), (cZ, .boolean)] [.ref hX, .int (iI (kd)), .int (iI (a)), .int (iI (b)), .int (iI (d))] [(hX, .inr (4, [.int (iI (((T : Nat) : Int))), .int (iI (((dd : Nat) : Int))), .ref hB, .ref hR, .ref hQ, .ref hF, .ref hC, .int (iI (((no : Nat) : Int))), .int (iI (((sh : Nat) : Int))), .int (iI (((cs : Nat) : Int))), .int (iI (((lc : Nat) : Int))), .long (co)])), (hB, .inr (0, [.ref qL, .ref qP, .ref qE, .ref qF, .int (iI (((n : Nat) : Int)))]))] sz (fun z w => w = [(hX, .inr (4, [.int (iI (((T : Nat) : Int))), .int (iI (((dd : Nat) : Int))), .ref hB, .ref hR, .ref hQ, .ref hF, .ref hC, .int (iI (((no : Nat) : Int))), .int (iI (((sh : Nat) : Int))), .int (iI (((cs : Nat) : Int))), .int (iI (((lc : Nat) : Int))), .long (co)])), (hB, .inr (0, [.ref qL, .ref qP, .ref qE, .ref qF, .int (iI (((n : Nat) : Int)))]))] ∧ z = b2z (decide ((0 ≤ kd ∧ kd ≤ 3) ∧ (0 ≤ a ∧ a < ((n : Nat) : Int)) ∧ (kd ≤ 1 → (0 ≤ b ∧ b < ((n : Nat) : Int) ∧ a ≠ b)) ∧ (kd ≠ 1 → (0 ≤ d ∧ d ≤ 10))))) 0 0 := by
  refine Cz_of (cc := cX4_isRule) (nL := 6) (by decide) rfl (Nat.le_of_ble_eq_true rfl) ?_
  intro p e s m below meth c A Q hsz C hK hN hA hP hD hS hret ls hl
  obtain ⟨hx, hb, hml, hown, hts⟩ := id C
  have hown : s.vm.findClass RX4 = some m.cls := hown
  have hl : lv_has ls 6 [(0, .ref hX), (1, .int (iI (kd))), (2, .int (iI (a))), (3, .int (iI (b))), (4, .int (iI (d)))] := hl
  have in_X4 : ∀ w ∈ u_ws RX4 TX4 12, w ∈ wsX4_isRule := fun w h => List.mem_cons_of_mem _ (inX4 w h)
  refine lv_iload_n hx hb dX4_isRule_0 rfl (lv_at hl 1 rfl) ?_
  refine rz_ilt (tgt := 20) hx hb dX4_isRule_1 (by decide) (by omega) (fun c1 => ?_) (fun c1 => ?_)
  · refine lv_iconst (v := iI (((0 : Nat) : Int))) hx hb dX4_isRule_20 (by decide +kernel) ?_
    exact hret _ _ _ _ _ _ dX4_isRule_21 (Or.inl rfl) ⟨rfl, (by first | exact (b2z_t (by omega)).symm | exact (b2z_f (by omega)).symm)⟩ hP hD hS
  · refine lv_iload_n hx hb dX4_isRule_4 rfl (lv_at hl 1 rfl) ?_
    refine lv_iconst (v := iI (((3 : Nat) : Int))) hx hb dX4_isRule_5 (by decide +kernel) ?_
    refine rz_cgt (tgt := 20) hx hb dX4_isRule_6 (by decide) (by omega) (by omega) (fun c2 => ?_) (fun c2 => ?_)
    · refine lv_iconst (v := iI (((0 : Nat) : Int))) hx hb dX4_isRule_20 (by decide +kernel) ?_
      exact hret _ _ _ _ _ _ dX4_isRule_21 (Or.inl rfl) ⟨rfl, (by first | exact (b2z_t (by omega)).symm | exact (b2z_f (by omega)).symm)⟩ hP hD hS
    · refine lv_aload_n hx hb dX4_isRule_9 rfl (lv_at hl 0 rfl) ?_
      refine va_get (D := D) (ci := 4) (v := .ref hB) (C := RX4) (T := TX4) (N := 12) hx hb hts in_X4 hown hK hP 0 rfl rfl 2 (by decide) (hts _ (List.mem_cons_of_mem _ tf_X4_12)) (fun _ h9 => h9) rfl dX4_isRule_10 ?_
      refine lv_iload_n hx hb dX4_isRule_13 rfl (lv_at hl 2 rfl) ?_
      have hPc := hP.sub (ws' := [(hB, .inr (0, [.ref qL, .ref qP, .ref qE, .ref qF, .int (iI (((n : Nat) : Int)))]))]) [1] rfl
      have hDc := hD.sub (ws' := [(hB, .inr (0, [.ref qL, .ref qP, .ref qE, .ref qF, .int (iI (((n : Nat) : Int)))]))]) [1] (by decide) rfl
      refine rz_calliR (va_runV (As := [.int (iI (a))]) (rest := []) ⟨hx, hb, hml, hown, hts⟩ (k_X0_has l D cI cZ s.heap.size hB qL qP qE qF n a (by omega) (by omega)) (cwV 1 hts (gG (g_V tm_X4_81 ti_X0_has tse_X0_has tin_X0 cmX0_has)) rfl rfl rfl (by decide +kernel) ⟨Nat.le_of_ble_eq_true rfl, Nat.le_of_ble_eq_true rfl⟩) ⟨cP_blind, va_recv hK hPc (ci := 0) (q0 := 0) rfl rfl, cP_pre hPc hK hN hDc⟩ rfl rfl hl.1 rfl (lv_room (Nat.le_of_ble_eq_true rfl)) dX4_isRule_14 ⟨Nat.le_refl _, Nat.le_refl _⟩) hP hD hS hA [1] rfl (fun z3 H locs hp hP hS => ?_)
      subst hp
      refine rz_bneD (P := (0 ≤ a ∧ a < ((n : Nat) : Int))) (tgt := 22) hx hb dX4_isRule_17 (by decide) (fun c4 => ?_) (fun c4 => ?_)
      · refine lv_iload_n hx hb dX4_isRule_22 rfl (lv_at hl 1 rfl) ?_
        refine rz_ieq (tgt := 31) hx hb dX4_isRule_23 (by decide) (by omega) (fun c5 => ?_) (fun c5 => ?_)
        · refine lv_iconst (v := iI (((1 : Nat) : Int))) hx hb dX4_isRule_31 (by decide +kernel) ?_
          refine lv_goto (tgt := 36) hx hb dX4_isRule_32 (by decide) ?_
          refine lv_istore (lv' := [(5, .int (iI (((1 : Nat) : Int)))), (0, .ref hX), (1, .int (iI (kd))), (2, .int (iI (a))), (3, .int (iI (b))), (4, .int (iI (d)))]) hx hb dX4_isRule_36 hl (by decide) rfl (fun ls hl => ?_)
          refine lv_iload hx hb dX4_isRule_38 (lv_at hl 0 rfl) ?_
          refine rz_ieq (tgt := 61) hx hb dX4_isRule_40 (by decide) (by omega) (fun c6 => ?_) (fun c6 => ?_)
          · exfalso; omega
          · refine lv_aload_n hx hb dX4_isRule_43 rfl (lv_at hl 1 rfl) ?_
            refine va_get (D := D) (ci := 4) (v := .ref hB) (C := RX4) (T := TX4) (N := 12) hx hb hts in_X4 hown hK hP 0 rfl rfl 2 (by decide) (hts _ (List.mem_cons_of_mem _ tf_X4_12)) (fun _ h9 => h9) rfl dX4_isRule_44 ?_
            refine lv_iload_n hx hb dX4_isRule_47 rfl (lv_at hl 4 rfl) ?_
            have hPc := hP.sub (ws' := [(hB, .inr (0, [.ref qL, .ref qP, .ref qE, .ref qF, .int (iI (((n : Nat) : Int)))]))]) [1] rfl
            have hDc := hD.sub (ws' := [(hB, .inr (0, [.ref qL, .ref qP, .ref qE, .ref qF, .int (iI (((n : Nat) : Int)))]))]) [1] (by decide) rfl
            refine rz_calliR (va_runV (As := [.int (iI (b))]) (rest := []) ⟨hx, hb, hml, hown, hts⟩ (k_X0_has l D cI cZ H.size hB qL qP qE qF n b (by omega) (by omega)) (cwV 1 hts (gG (g_V tm_X4_81 ti_X0_has tse_X0_has tin_X0 cmX0_has)) rfl rfl rfl (by decide +kernel) ⟨Nat.le_of_ble_eq_true rfl, Nat.le_of_ble_eq_true rfl⟩) ⟨cP_blind, va_recv hK hPc (ci := 0) (q0 := 0) rfl rfl, cP_pre hPc hK hN hDc⟩ rfl rfl hl.1 rfl (lv_room (Nat.le_of_ble_eq_true rfl)) dX4_isRule_48 ⟨Nat.le_refl _, Nat.le_refl _⟩) hP hD hS hA [1] rfl (fun z7 H locs hp hP hS => ?_)
            subst hp
            refine rz_beqD (P := (0 ≤ b ∧ b < ((n : Nat) : Int))) (tgt := 59) hx hb dX4_isRule_51 (by decide) (fun c8 => ?_) (fun c8 => ?_)
            · refine lv_iconst (v := iI (((0 : Nat) : Int))) hx hb dX4_isRule_59 (by decide +kernel) ?_
              exact hret _ _ _ _ _ _ dX4_isRule_60 (Or.inl rfl) ⟨rfl, (by first | exact (b2z_t (by omega)).symm | exact (b2z_f (by omega)).symm)⟩ hP hD hS
            · refine lv_iload_n hx hb dX4_isRule_54 rfl (lv_at hl 3 rfl) ?_
              refine lv_iload_n hx hb dX4_isRule_55 rfl (lv_at hl 4 rfl) ?_
              refine rz_cne (tgt := 61) hx hb dX4_isRule_56 (by decide) (by omega) (by omega) (fun c9 => ?_) (fun c9 => ?_)
              · refine lv_iload_n hx hb dX4_isRule_61 rfl (lv_at hl 2 rfl) ?_
                refine lv_iconst (v := iI (((1 : Nat) : Int))) hx hb dX4_isRule_62 (by decide +kernel) ?_
                refine rz_ceq (tgt := 74) hx hb dX4_isRule_63 (by decide) (by omega) (by omega) (fun c10 => ?_) (fun c10 => ?_)
                · refine lv_iconst (v := iI (((1 : Nat) : Int))) hx hb dX4_isRule_74 (by decide +kernel) ?_
                  refine lv_goto (tgt := 79) hx hb dX4_isRule_75 (by decide) ?_
                  exact hret _ _ _ _ _ _ dX4_isRule_79 (Or.inr rfl) ⟨rfl, (by first | exact (b2z_t (by omega)).symm | exact (b2z_f (by omega)).symm)⟩ hP hD hS
                · refine lv_iload hx hb dX4_isRule_66 (lv_at hl 5 rfl) ?_
                  have hPc := hP.sub (ws' := []) [] rfl
                  have hDc := hD.sub (ws' := []) [] (by decide) rfl
                  refine rz_calliR (va_runS (As := [.int (iI (d))]) (rest := []) ⟨hx, hb, hml, hown, hts⟩ (k_X4_isNumber l D cI cZ H.size d (by omega)) (va_cwS 1 hts (gG (g_S tm_X4_97 ts_X4_isNumber tin_X4 cmX4_isNumber)) rfl rfl rfl (by decide +kernel) ⟨Nat.le_of_ble_eq_true rfl, Nat.le_of_ble_eq_true rfl⟩) ⟨cP_blind, cP_pre hPc hK hN hDc⟩ rfl rfl hl.1 rfl (lv_room (Nat.le_of_ble_eq_true rfl)) dX4_isRule_68 ⟨Nat.le_refl _, Nat.le_refl _⟩) hP hD hS hA [] rfl (fun z11 H locs hp hP hS => ?_)
                  subst hp
                  refine rz_beqD (P := (0 ≤ d ∧ d ≤ 10)) (tgt := 78) hx hb dX4_isRule_71 (by decide) (fun c12 => ?_) (fun c12 => ?_)
                  · refine lv_iconst (v := iI (((0 : Nat) : Int))) hx hb dX4_isRule_78 (by decide +kernel) ?_
                    exact hret _ _ _ _ _ _ dX4_isRule_79 (Or.inl rfl) ⟨rfl, (by first | exact (b2z_t (by omega)).symm | exact (b2z_f (by omega)).symm)⟩ hP hD hS
                  · refine lv_iconst (v := iI (((1 : Nat) : Int))) hx hb dX4_isRule_74 (by decide +kernel) ?_
                    refine lv_goto (tgt := 79) hx hb dX4_isRule_75 (by decide) ?_
                    exact hret _ _ _ _ _ _ dX4_isRule_79 (Or.inr rfl) ⟨rfl, (by first | exact (b2z_t (by omega)).symm | exact (b2z_f (by omega)).symm)⟩ hP hD hS
              · refine lv_iconst (v := iI (((0 : Nat) : Int))) hx hb dX4_isRule_59 (by decide +kernel) ?_
                exact hret _ _ _ _ _ _ dX4_isRule_60 (Or.inl rfl) ⟨rfl, (by first | exact (b2z_t (by omega)).symm | exact (b2z_f (by omega)).symm)⟩ hP hD hS
        · refine lv_iload_n hx hb dX4_isRule_26 rfl (lv_at hl 1 rfl) ?_
          refine lv_iconst (v := iI (((1 : Nat) : Int))) hx hb dX4_isRule_27 (by decide +kernel) ?_
          refine rz_cne (tgt := 35) hx hb dX4_isRule_28 (by decide) (by omega) (by omega) (fun c13 => ?_) (fun c13 => ?_)
          · refine lv_iconst (v := iI (((0 : Nat) : Int))) hx hb dX4_isRule_35 (by decide +kernel) ?_
            refine lv_istore (lv' := [(5, .int (iI (((0 : Nat) : Int)))), (0, .ref hX), (1, .int (iI (kd))), (2, .int (iI (a))), (3, .int (iI (b))), (4, .int (iI (d)))]) hx hb dX4_isRule_36 hl (by decide) rfl (fun ls hl => ?_)
            refine lv_iload hx hb dX4_isRule_38 (lv_at hl 0 rfl) ?_
            refine rz_ieq (tgt := 61) hx hb dX4_isRule_40 (by decide) (by omega) (fun c14 => ?_) (fun c14 => ?_)
            · refine lv_iload_n hx hb dX4_isRule_61 rfl (lv_at hl 2 rfl) ?_
              refine lv_iconst (v := iI (((1 : Nat) : Int))) hx hb dX4_isRule_62 (by decide +kernel) ?_
              refine rz_ceq (tgt := 74) hx hb dX4_isRule_63 (by decide) (by omega) (by omega) (fun c15 => ?_) (fun c15 => ?_)
              · refine lv_iconst (v := iI (((1 : Nat) : Int))) hx hb dX4_isRule_74 (by decide +kernel) ?_
                refine lv_goto (tgt := 79) hx hb dX4_isRule_75 (by decide) ?_
                exact hret _ _ _ _ _ _ dX4_isRule_79 (Or.inr rfl) ⟨rfl, (by first | exact (b2z_t (by omega)).symm | exact (b2z_f (by omega)).symm)⟩ hP hD hS
              · refine lv_iload hx hb dX4_isRule_66 (lv_at hl 5 rfl) ?_
                have hPc := hP.sub (ws' := []) [] rfl
                have hDc := hD.sub (ws' := []) [] (by decide) rfl
                refine rz_calliR (va_runS (As := [.int (iI (d))]) (rest := []) ⟨hx, hb, hml, hown, hts⟩ (k_X4_isNumber l D cI cZ H.size d (by omega)) (va_cwS 1 hts (gG (g_S tm_X4_97 ts_X4_isNumber tin_X4 cmX4_isNumber)) rfl rfl rfl (by decide +kernel) ⟨Nat.le_of_ble_eq_true rfl, Nat.le_of_ble_eq_true rfl⟩) ⟨cP_blind, cP_pre hPc hK hN hDc⟩ rfl rfl hl.1 rfl (lv_room (Nat.le_of_ble_eq_true rfl)) dX4_isRule_68 ⟨Nat.le_refl _, Nat.le_refl _⟩) hP hD hS hA [] rfl (fun z16 H locs hp hP hS => ?_)
                subst hp
                refine rz_beqD (P := (0 ≤ d ∧ d ≤ 10)) (tgt := 78) hx hb dX4_isRule_71 (by decide) (fun c17 => ?_) (fun c17 => ?_)
                · refine lv_iconst (v := iI (((0 : Nat) : Int))) hx hb dX4_isRule_78 (by decide +kernel) ?_
                  exact hret _ _ _ _ _ _ dX4_isRule_79 (Or.inl rfl) ⟨rfl, (by first | exact (b2z_t (by omega)).symm | exact (b2z_f (by omega)).symm)⟩ hP hD hS
                · refine lv_iconst (v := iI (((1 : Nat) : Int))) hx hb dX4_isRule_74 (by decide +kernel) ?_
                  refine lv_goto (tgt := 79) hx hb dX4_isRule_75 (by decide) ?_
                  exact hret _ _ _ _ _ _ dX4_isRule_79 (Or.inr rfl) ⟨rfl, (by first | exact (b2z_t (by omega)).symm | exact (b2z_f (by omega)).symm)⟩ hP hD hS
            · exfalso; omega
          · refine lv_iconst (v := iI (((1 : Nat) : Int))) hx hb dX4_isRule_31 (by decide +kernel) ?_
            refine lv_goto (tgt := 36) hx hb dX4_isRule_32 (by decide) ?_
            refine lv_istore (lv' := [(5, .int (iI (((1 : Nat) : Int)))), (0, .ref hX), (1, .int (iI (kd))), (2, .int (iI (a))), (3, .int (iI (b))), (4, .int (iI (d)))]) hx hb dX4_isRule_36 hl (by decide) rfl (fun ls hl => ?_)
            refine lv_iload hx hb dX4_isRule_38 (lv_at hl 0 rfl) ?_
            refine rz_ieq (tgt := 61) hx hb dX4_isRule_40 (by decide) (by omega) (fun c18 => ?_) (fun c18 => ?_)
            · exfalso; omega
            · refine lv_aload_n hx hb dX4_isRule_43 rfl (lv_at hl 1 rfl) ?_
              refine va_get (D := D) (ci := 4) (v := .ref hB) (C := RX4) (T := TX4) (N := 12) hx hb hts in_X4 hown hK hP 0 rfl rfl 2 (by decide) (hts _ (List.mem_cons_of_mem _ tf_X4_12)) (fun _ h9 => h9) rfl dX4_isRule_44 ?_
              refine lv_iload_n hx hb dX4_isRule_47 rfl (lv_at hl 4 rfl) ?_
              have hPc := hP.sub (ws' := [(hB, .inr (0, [.ref qL, .ref qP, .ref qE, .ref qF, .int (iI (((n : Nat) : Int)))]))]) [1] rfl
              have hDc := hD.sub (ws' := [(hB, .inr (0, [.ref qL, .ref qP, .ref qE, .ref qF, .int (iI (((n : Nat) : Int)))]))]) [1] (by decide) rfl
              refine rz_calliR (va_runV (As := [.int (iI (b))]) (rest := []) ⟨hx, hb, hml, hown, hts⟩ (k_X0_has l D cI cZ H.size hB qL qP qE qF n b (by omega) (by omega)) (cwV 1 hts (gG (g_V tm_X4_81 ti_X0_has tse_X0_has tin_X0 cmX0_has)) rfl rfl rfl (by decide +kernel) ⟨Nat.le_of_ble_eq_true rfl, Nat.le_of_ble_eq_true rfl⟩) ⟨cP_blind, va_recv hK hPc (ci := 0) (q0 := 0) rfl rfl, cP_pre hPc hK hN hDc⟩ rfl rfl hl.1 rfl (lv_room (Nat.le_of_ble_eq_true rfl)) dX4_isRule_48 ⟨Nat.le_refl _, Nat.le_refl _⟩) hP hD hS hA [1] rfl (fun z19 H locs hp hP hS => ?_)
              subst hp
              refine rz_beqD (P := (0 ≤ b ∧ b < ((n : Nat) : Int))) (tgt := 59) hx hb dX4_isRule_51 (by decide) (fun c20 => ?_) (fun c20 => ?_)
              · refine lv_iconst (v := iI (((0 : Nat) : Int))) hx hb dX4_isRule_59 (by decide +kernel) ?_
                exact hret _ _ _ _ _ _ dX4_isRule_60 (Or.inl rfl) ⟨rfl, (by first | exact (b2z_t (by omega)).symm | exact (b2z_f (by omega)).symm)⟩ hP hD hS
              · refine lv_iload_n hx hb dX4_isRule_54 rfl (lv_at hl 3 rfl) ?_
                refine lv_iload_n hx hb dX4_isRule_55 rfl (lv_at hl 4 rfl) ?_
                refine rz_cne (tgt := 61) hx hb dX4_isRule_56 (by decide) (by omega) (by omega) (fun c21 => ?_) (fun c21 => ?_)
                · refine lv_iload_n hx hb dX4_isRule_61 rfl (lv_at hl 2 rfl) ?_
                  refine lv_iconst (v := iI (((1 : Nat) : Int))) hx hb dX4_isRule_62 (by decide +kernel) ?_
                  refine rz_ceq (tgt := 74) hx hb dX4_isRule_63 (by decide) (by omega) (by omega) (fun c22 => ?_) (fun c22 => ?_)
                  · refine lv_iconst (v := iI (((1 : Nat) : Int))) hx hb dX4_isRule_74 (by decide +kernel) ?_
                    refine lv_goto (tgt := 79) hx hb dX4_isRule_75 (by decide) ?_
                    exact hret _ _ _ _ _ _ dX4_isRule_79 (Or.inr rfl) ⟨rfl, (by first | exact (b2z_t (by omega)).symm | exact (b2z_f (by omega)).symm)⟩ hP hD hS
                  · refine lv_iload hx hb dX4_isRule_66 (lv_at hl 5 rfl) ?_
                    have hPc := hP.sub (ws' := []) [] rfl
                    have hDc := hD.sub (ws' := []) [] (by decide) rfl
                    refine rz_calliR (va_runS (As := [.int (iI (d))]) (rest := []) ⟨hx, hb, hml, hown, hts⟩ (k_X4_isNumber l D cI cZ H.size d (by omega)) (va_cwS 1 hts (gG (g_S tm_X4_97 ts_X4_isNumber tin_X4 cmX4_isNumber)) rfl rfl rfl (by decide +kernel) ⟨Nat.le_of_ble_eq_true rfl, Nat.le_of_ble_eq_true rfl⟩) ⟨cP_blind, cP_pre hPc hK hN hDc⟩ rfl rfl hl.1 rfl (lv_room (Nat.le_of_ble_eq_true rfl)) dX4_isRule_68 ⟨Nat.le_refl _, Nat.le_refl _⟩) hP hD hS hA [] rfl (fun z23 H locs hp hP hS => ?_)
                    subst hp
                    refine rz_beqD (P := (0 ≤ d ∧ d ≤ 10)) (tgt := 78) hx hb dX4_isRule_71 (by decide) (fun c24 => ?_) (fun c24 => ?_)
                    · refine lv_iconst (v := iI (((0 : Nat) : Int))) hx hb dX4_isRule_78 (by decide +kernel) ?_
                      exact hret _ _ _ _ _ _ dX4_isRule_79 (Or.inl rfl) ⟨rfl, (by first | exact (b2z_t (by omega)).symm | exact (b2z_f (by omega)).symm)⟩ hP hD hS
                    · refine lv_iconst (v := iI (((1 : Nat) : Int))) hx hb dX4_isRule_74 (by decide +kernel) ?_
                      refine lv_goto (tgt := 79) hx hb dX4_isRule_75 (by decide) ?_
                      exact hret _ _ _ _ _ _ dX4_isRule_79 (Or.inr rfl) ⟨rfl, (by first | exact (b2z_t (by omega)).symm | exact (b2z_f (by omega)).symm)⟩ hP hD hS
                · refine lv_iconst (v := iI (((0 : Nat) : Int))) hx hb dX4_isRule_59 (by decide +kernel) ?_
                  exact hret _ _ _ _ _ _ dX4_isRule_60 (Or.inl rfl) ⟨rfl, (by first | exact (b2z_t (by omega)).symm | exact (b2z_f (by omega)).symm)⟩ hP hD hS
      · refine lv_iconst (v := iI (((0 : Nat) : Int))) hx hb dX4_isRule_20 (by decide +kernel) ?_
        exact hret _ _ _ _ _ _ dX4_isRule_21 (Or.inl rfl) ⟨rfl, (by first | exact (b2z_t (by omega)).symm | exact (b2z_f (by omega)).symm)⟩ hP hD hS

set_option maxHeartbeats 4000000 in
set_option maxRecDepth 100000 in
theorem k_X4_batch (l : Launch) (D : va_G) (cI cZ : ClassId) (sz : Nat) (hX : Nat) (T : Nat) (dd : Nat) (hB : Nat) (hR : Nat) (hQ : Nat) (hF : Nat) (hC : Nat) (no : Nat) (sh : Nat) (cs : Nat) (lc : Nat) (co : Int64) (qL : Nat) (qP : Nat) (qE : Nat) (qF : Nat) (n : Nat) (ln : Nat → Nat) (pl : Nat → Nat) (t : Int) (s0 : Int) (l0 : Int) (hT : 1 ≤ T ∧ T ≤ 3) (hdd : 1 ≤ dd ∧ dd ≤ 10) (hn : n ≤ 4) (ht : -2147483648 ≤ t ∧ t < 2147483648) (hs0 : -2147483648 ≤ s0 ∧ s0 < 2147483648) (hl0 : -2147483648 ≤ l0 ∧ l0 < 2147483648) : Ci l yX4_batch wsX4_batch (rmD 2) D vwCl [(cI, .int), (cZ, .boolean)] [.ref hX, .int (iI (t)), .int (iI (s0)), .int (iI (l0))] [(hX, .inr (4, [.int (iI (((T : Nat) : Int))), .int (iI (((dd : Nat) : Int))), .ref hB, .ref hR, .ref hQ, .ref hF, .ref hC, .int (iI (((no : Nat) : Int))), .int (iI (((sh : Nat) : Int))), .int (iI (((cs : Nat) : Int))), .int (iI (((lc : Nat) : Int))), .long (co)])), (hB, .inr (0, [.ref qL, .ref qP, .ref qE, .ref qF, .int (iI (((n : Nat) : Int)))])), ce_i qL cI 4 (nZ (ln)), ce_i qP cI 4 (nZ (pl))] sz (fun z w => ∃ n2 : Nat, ∃ ln2 : Nat → Nat, ∃ pl2 : Nat → Nat, w = [(hX, .inr (4, [.int (iI (((T : Nat) : Int))), .int (iI (((dd : Nat) : Int))), .ref hB, .ref hR, .ref hQ, .ref hF, .ref hC, .int (iI (((no : Nat) : Int))), .int (iI (((sh : Nat) : Int))), .int (iI (((cs : Nat) : Int))), .int (iI (((lc : Nat) : Int))), .long (co)])), (hB, .inr (0, [.ref qL, .ref qP, .ref qE, .ref qF, .int (iI (((n2 : Nat) : Int)))])), ce_i qL cI 4 (nZ (ln2)), ce_i qP cI 4 (nZ (pl2))] ∧ (n2, ln2, pl2, z) = (if (0 ≤ t ∧ t < ((T : Nat) : Int) ∧ 0 ≤ s0 ∧ 1 ≤ l0 ∧ s0 + l0 ≤ ((dd : Nat) : Int)) then (if n < 4 then (n + 1, uN ln n l0.toNat, uN pl n (t.toNat * 10 + s0.toNat), ((n : Nat) : Int)) else (n, ln, pl, -2)) else (n, ln, pl, -1))) 0 0 := by
  refine Ci_of (cc := cX4_batch) (nL := 4) (by decide) rfl (Nat.le_of_ble_eq_true rfl) ?_
  intro p e s m below meth c A Q hsz C hK hN hA hP hD hS hret ls hl
  obtain ⟨hx, hb, hml, hown, hts⟩ := id C
  have hown : s.vm.findClass RX4 = some m.cls := hown
  have hl : lv_has ls 4 [(0, .ref hX), (1, .int (iI (t))), (2, .int (iI (s0))), (3, .int (iI (l0)))] := hl
  have in_X4 : ∀ w ∈ u_ws RX4 TX4 12, w ∈ wsX4_batch := fun w h => List.mem_cons_of_mem _ (inX4 w h)
  refine lv_aload_n hx hb dX4_batch_0 rfl (lv_at hl 0 rfl) ?_
  refine lv_iload_n hx hb dX4_batch_1 rfl (lv_at hl 1 rfl) ?_
  have hPc := hP.sub (ws' := [(hX, .inr (4, [.int (iI (((T : Nat) : Int))), .int (iI (((dd : Nat) : Int))), .ref hB, .ref hR, .ref hQ, .ref hF, .ref hC, .int (iI (((no : Nat) : Int))), .int (iI (((sh : Nat) : Int))), .int (iI (((cs : Nat) : Int))), .int (iI (((lc : Nat) : Int))), .long (co)]))]) [0] rfl
  have hDc := hD.sub (ws' := [(hX, .inr (4, [.int (iI (((T : Nat) : Int))), .int (iI (((dd : Nat) : Int))), .ref hB, .ref hR, .ref hQ, .ref hF, .ref hC, .int (iI (((no : Nat) : Int))), .int (iI (((sh : Nat) : Int))), .int (iI (((cs : Nat) : Int))), .int (iI (((lc : Nat) : Int))), .long (co)]))]) [0] (by decide) rfl
  refine rz_calliR (va_runV (As := [.int (iI (t))]) (rest := []) ⟨hx, hb, hml, hown, hts⟩ (k_X4_isTank l D cI cZ s.heap.size hX T dd hB hR hQ hF hC no sh cs lc co t (by omega) (by omega)) (cwV 1 hts (gG (g_V tm_X4_58 ti_X4_isTank tse_X4_isTank tin_X4 cmX4_isTank)) rfl rfl rfl (by decide +kernel) ⟨Nat.le_of_ble_eq_true rfl, Nat.le_of_ble_eq_true rfl⟩) ⟨cP_blind, va_recv hK hPc (ci := 4) (q0 := 0) rfl rfl, cP_pre hPc hK hN hDc⟩ rfl rfl hl.1 rfl (lv_room (Nat.le_of_ble_eq_true rfl)) dX4_batch_2 ⟨Nat.le_refl _, Nat.le_refl _⟩) hP hD hS hA [0] rfl (fun z1 H locs hp hP hS => ?_)
  subst hp
  refine rz_beqD (P := (0 ≤ t ∧ t < ((T : Nat) : Int))) (tgt := 17) hx hb dX4_batch_5 (by decide) (fun c2 => ?_) (fun c2 => ?_)
  · refine lv_iconst (v := iI ((-1 : Int))) hx hb dX4_batch_17 (by decide +kernel) ?_
    exact hret _ _ _ _ _ _ dX4_batch_18 ⟨_, _, _, rfl, (by first | rw [if_neg (by omega)] | rw [if_pos (by omega), if_neg (by omega)] | rw [if_pos (by omega), if_pos (by omega)])⟩ hP hD hS
  · refine lv_aload_n hx hb dX4_batch_8 rfl (lv_at hl 0 rfl) ?_
    refine lv_iload_n hx hb dX4_batch_9 rfl (lv_at hl 2 rfl) ?_
    refine lv_iload_n hx hb dX4_batch_10 rfl (lv_at hl 3 rfl) ?_
    have hPc := hP.sub (ws' := [(hX, .inr (4, [.int (iI (((T : Nat) : Int))), .int (iI (((dd : Nat) : Int))), .ref hB, .ref hR, .ref hQ, .ref hF, .ref hC, .int (iI (((no : Nat) : Int))), .int (iI (((sh : Nat) : Int))), .int (iI (((cs : Nat) : Int))), .int (iI (((lc : Nat) : Int))), .long (co)]))]) [0] rfl
    have hDc := hD.sub (ws' := [(hX, .inr (4, [.int (iI (((T : Nat) : Int))), .int (iI (((dd : Nat) : Int))), .ref hB, .ref hR, .ref hQ, .ref hF, .ref hC, .int (iI (((no : Nat) : Int))), .int (iI (((sh : Nat) : Int))), .int (iI (((cs : Nat) : Int))), .int (iI (((lc : Nat) : Int))), .long (co)]))]) [0] (by decide) rfl
    refine rz_calliR (va_runV (As := [.int (iI (s0)), .int (iI (l0))]) (rest := []) ⟨hx, hb, hml, hown, hts⟩ (k_X4_isWithinDays l D cI cZ H.size hX T dd hB hR hQ hF hC no sh cs lc co s0 l0 (by omega) (by omega) (by omega)) (cwV 2 hts (gG (g_V tm_X4_62 ti_X4_isWithinDays tse_X4_isWithinDays tin_X4 cmX4_isWithinDays)) rfl rfl rfl (by decide +kernel) ⟨Nat.le_of_ble_eq_true rfl, Nat.le_of_ble_eq_true rfl⟩) ⟨cP_blind, va_recv hK hPc (ci := 4) (q0 := 0) rfl rfl, cP_pre hPc hK hN hDc⟩ rfl rfl hl.1 rfl (lv_room (Nat.le_of_ble_eq_true rfl)) dX4_batch_11 ⟨Nat.le_refl _, Nat.le_refl _⟩) hP hD hS hA [0] rfl (fun z3 H locs hp hP hS => ?_)
    subst hp
    refine rz_bneD (P := (0 ≤ s0 ∧ 1 ≤ l0 ∧ s0 + l0 ≤ ((dd : Nat) : Int))) (tgt := 19) hx hb dX4_batch_14 (by decide) (fun c4 => ?_) (fun c4 => ?_)
    · refine lv_aload_n hx hb dX4_batch_19 rfl (lv_at hl 0 rfl) ?_
      refine va_get (D := D) (ci := 4) (v := .ref hB) (C := RX4) (T := TX4) (N := 12) hx hb hts in_X4 hown hK hP 0 rfl rfl 2 (by decide) (hts _ (List.mem_cons_of_mem _ tf_X4_12)) (fun _ h9 => h9) rfl dX4_batch_20 ?_
      have hPc := hP.sub (ws' := [(hB, .inr (0, [.ref qL, .ref qP, .ref qE, .ref qF, .int (iI (((n : Nat) : Int)))]))]) [1] rfl
      have hDc := hD.sub (ws' := [(hB, .inr (0, [.ref qL, .ref qP, .ref qE, .ref qF, .int (iI (((n : Nat) : Int)))]))]) [1] (by decide) rfl
      refine rz_calliR (va_runV (As := []) (rest := []) ⟨hx, hb, hml, hown, hts⟩ (k_X0_isFull l D cI cZ H.size hB qL qP qE qF n (by omega)) (cwV 0 hts (gG (g_V tm_X4_66 ti_X0_isFull tse_X0_isFull tin_X0 cmX0_isFull)) rfl rfl rfl (by decide +kernel) ⟨Nat.le_of_ble_eq_true rfl, Nat.le_of_ble_eq_true rfl⟩) ⟨cP_blind, va_recv hK hPc (ci := 0) (q0 := 0) rfl rfl, cP_pre hPc hK hN hDc⟩ rfl rfl hl.1 rfl (lv_room (Nat.le_of_ble_eq_true rfl)) dX4_batch_23 ⟨Nat.le_refl _, Nat.le_refl _⟩) hP hD hS hA [1] rfl (fun z5 H locs hp hP hS => ?_)
      subst hp
      refine rz_beqD (P := (4 ≤ n)) (tgt := 34) hx hb dX4_batch_26 (by decide) (fun c6 => ?_) (fun c6 => ?_)
      · refine lv_aload_n hx hb dX4_batch_34 rfl (lv_at hl 0 rfl) ?_
        refine va_get (D := D) (ci := 4) (v := .ref hB) (C := RX4) (T := TX4) (N := 12) hx hb hts in_X4 hown hK hP 0 rfl rfl 2 (by decide) (hts _ (List.mem_cons_of_mem _ tf_X4_12)) (fun _ h9 => h9) rfl dX4_batch_35 ?_
        refine lv_iload_n hx hb dX4_batch_38 rfl (lv_at hl 1 rfl) ?_
        refine lv_bipush (v := iI (((10 : Nat) : Int))) hx hb dX4_batch_39 (by decide +kernel) ?_
        refine rz_mul hx hb dX4_batch_41 ?_
        refine lv_iload_n hx hb dX4_batch_42 rfl (lv_at hl 2 rfl) ?_
        refine rz_add hx hb dX4_batch_43 ?_
        refine rz_as (y := ((t.toNat * 10 + s0.toNat : Nat) : Int)) (by omega) ?_
        refine lv_iload_n hx hb dX4_batch_44 rfl (lv_at hl 3 rfl) ?_
        refine rz_as (y := ((l0.toNat : Nat) : Int)) (by omega) ?_
        have hPc := hP.sub (ws' := [(hB, .inr (0, [.ref qL, .ref qP, .ref qE, .ref qF, .int (iI (((n : Nat) : Int)))])), ce_i qL cI 4 (nZ (ln)), ce_i qP cI 4 (nZ (pl))]) [1, 2, 3] rfl
        have hDc := hD.sub (ws' := [(hB, .inr (0, [.ref qL, .ref qP, .ref qE, .ref qF, .int (iI (((n : Nat) : Int)))])), ce_i qL cI 4 (nZ (ln)), ce_i qP cI 4 (nZ (pl))]) [1, 2, 3] (by decide) rfl
        refine rz_calli (va_runV (As := [.int (iI (((t.toNat * 10 + s0.toNat : Nat) : Int))), .int (iI (((l0.toNat : Nat) : Int)))]) (rest := []) ⟨hx, hb, hml, hown, hts⟩ (k_X0_add l D cI cZ H.size hB qL qP qE qF n ln pl (t.toNat * 10 + s0.toNat) l0.toNat (by omega)) (cwV 2 hts (gG (g_V tm_X4_70 ti_X0_add tse_X0_add tin_X0 cmX0_add)) rfl rfl rfl (by decide +kernel) ⟨Nat.le_of_ble_eq_true rfl, Nat.le_of_ble_eq_true rfl⟩) ⟨cP_blind, va_recv hK hPc (ci := 0) (q0 := 0) rfl rfl, cP_pre hPc hK hN hDc⟩ rfl rfl hl.1 rfl (lv_room (Nat.le_of_ble_eq_true rfl)) dX4_batch_45 ⟨Nat.le_refl _, Nat.le_refl _⟩) hP hD hS hA [1, 2, 3] [0] rfl (wr := [(hX, .inr (4, [.int (iI (((T : Nat) : Int))), .int (iI (((dd : Nat) : Int))), .ref hB, .ref hR, .ref hQ, .ref hF, .ref hC, .int (iI (((no : Nat) : Int))), .int (iI (((sh : Nat) : Int))), .int (iI (((cs : Nat) : Int))), .int (iI (((lc : Nat) : Int))), .long (co)]))]) rfl (by decide) (by decide) (fun z7 w H locs hp hP hD hS => ?_)
        obtain ⟨rfl, rfl⟩ := hp
        have hP : va_P D vwCl [(hX, .inr (4, [.int (iI (((T : Nat) : Int))), .int (iI (((dd : Nat) : Int))), .ref hB, .ref hR, .ref hQ, .ref hF, .ref hC, .int (iI (((no : Nat) : Int))), .int (iI (((sh : Nat) : Int))), .int (iI (((cs : Nat) : Int))), .int (iI (((lc : Nat) : Int))), .long (co)])), (hB, .inr (0, [.ref qL, .ref qP, .ref qE, .ref qF, .int (iI (((n + 1 : Nat) : Int)))])), ce_i qL cI 4 (nZ (uN ln n l0.toNat)), ce_i qP cI 4 (nZ (uN pl n (t.toNat * 10 + s0.toNat)))] H := hP.sub (ws' := [(hX, .inr (4, [.int (iI (((T : Nat) : Int))), .int (iI (((dd : Nat) : Int))), .ref hB, .ref hR, .ref hQ, .ref hF, .ref hC, .int (iI (((no : Nat) : Int))), .int (iI (((sh : Nat) : Int))), .int (iI (((cs : Nat) : Int))), .int (iI (((lc : Nat) : Int))), .long (co)])), (hB, .inr (0, [.ref qL, .ref qP, .ref qE, .ref qF, .int (iI (((n + 1 : Nat) : Int)))])), ce_i qL cI 4 (nZ (uN ln n l0.toNat)), ce_i qP cI 4 (nZ (uN pl n (t.toNat * 10 + s0.toNat)))]) [0, 1, 2, 3] rfl
        have hD : va_D A [(hX, .inr (4, [.int (iI (((T : Nat) : Int))), .int (iI (((dd : Nat) : Int))), .ref hB, .ref hR, .ref hQ, .ref hF, .ref hC, .int (iI (((no : Nat) : Int))), .int (iI (((sh : Nat) : Int))), .int (iI (((cs : Nat) : Int))), .int (iI (((lc : Nat) : Int))), .long (co)])), (hB, .inr (0, [.ref qL, .ref qP, .ref qE, .ref qF, .int (iI (((n + 1 : Nat) : Int)))])), ce_i qL cI 4 (nZ (uN ln n l0.toNat)), ce_i qP cI 4 (nZ (uN pl n (t.toNat * 10 + s0.toNat)))] := hD.sub (ws' := [(hX, .inr (4, [.int (iI (((T : Nat) : Int))), .int (iI (((dd : Nat) : Int))), .ref hB, .ref hR, .ref hQ, .ref hF, .ref hC, .int (iI (((no : Nat) : Int))), .int (iI (((sh : Nat) : Int))), .int (iI (((cs : Nat) : Int))), .int (iI (((lc : Nat) : Int))), .long (co)])), (hB, .inr (0, [.ref qL, .ref qP, .ref qE, .ref qF, .int (iI (((n + 1 : Nat) : Int)))])), ce_i qL cI 4 (nZ (uN ln n l0.toNat)), ce_i qP cI 4 (nZ (uN pl n (t.toNat * 10 + s0.toNat)))]) [0, 1, 2, 3] (by decide) rfl
        exact hret _ _ _ _ _ _ dX4_batch_48 ⟨_, _, _, rfl, (by first | rw [if_neg (by omega)] | rw [if_pos (by omega), if_neg (by omega)] | rw [if_pos (by omega), if_pos (by omega)])⟩ hP hD hS
      · refine lv_bipush (v := iI ((-2 : Int))) hx hb dX4_batch_29 (by decide +kernel) ?_
        refine lv_goto (tgt := 48) hx hb dX4_batch_31 (by decide) ?_
        exact hret _ _ _ _ _ _ dX4_batch_48 ⟨_, _, _, rfl, (by first | rw [if_neg (by omega)] | rw [if_pos (by omega), if_neg (by omega)] | rw [if_pos (by omega), if_pos (by omega)])⟩ hP hD hS
    · refine lv_iconst (v := iI ((-1 : Int))) hx hb dX4_batch_17 (by decide +kernel) ?_
      exact hret _ _ _ _ _ _ dX4_batch_18 ⟨_, _, _, rfl, (by first | rw [if_neg (by omega)] | rw [if_pos (by omega), if_neg (by omega)] | rw [if_pos (by omega), if_pos (by omega)])⟩ hP hD hS
end
section
/-! the class's own methods, but for run -/
theorem daysF_lt (a b : Int) : daysF a b < 1024 := by
  unfold daysF; split
  · have : 1 * 2 ^ (min b 9 + 1).toNat ≤ 1 * 2 ^ 10 := pw_le (by omega)
    have h2 : 0 < 1 * 2 ^ (max a 0).toNat := by rw [Nat.one_mul]; exact Nat.pow_pos (by decide)
    omega
  · decide
theorem sh_lt {x k : Nat} (h : x < 1024) (hk : k ≤ 20) : x * 2 ^ k < 1073741824 := by
  have h1 : 2 ^ k ≤ 2 ^ 20 := Nat.pow_le_pow_right (by decide) hk
  calc x * 2 ^ k ≤ x * 2 ^ 20 := Nat.mul_le_mul_left x h1
    _ < 1024 * 2 ^ 20 := Nat.mul_lt_mul_of_pos_right h (by decide)
    _ = 1073741824 := by decide

set_option maxHeartbeats 4000000 in
set_option maxRecDepth 100000 in
theorem k_X4_rule (l : Launch) (D : va_G) (cI cZ : ClassId) (sz : Nat) (hX : Nat) (T : Nat) (dd : Nat) (hB : Nat) (hR : Nat) (hQ : Nat) (hF : Nat) (hC : Nat) (no : Nat) (sh : Nat) (cs : Nat) (lc : Nat) (co : Int64) (qL : Nat) (qP : Nat) (qE : Nat) (qF : Nat) (n : Nat) (qK : Nat) (qA : Nat) (qB : Nat) (qN : Nat) (nr : Nat) (rk : Nat → Int) (ra : Nat → Int) (rb : Nat → Int) (rd : Nat → Int) (kd : Int) (a : Int) (b : Int) (d : Int) (hn : n ≤ 4) (hnr : nr ≤ 8) (h_kd : -2147483648 ≤ kd ∧ kd < 2147483648) (h_a : -2147483648 ≤ a ∧ a < 2147483648) (h_b : -2147483648 ≤ b ∧ b < 2147483648) (h_d : -2147483648 ≤ d ∧ d < 2147483648) : Ci l yX4_rule wsX4_rule (rmD 2) D vwCl [(cI, .int), (cZ, .boolean)] [.ref hX, .int (iI (kd)), .int (iI (a)), .int (iI (b)), .int (iI (d))] [(hX, .inr (4, [.int (iI (((T : Nat) : Int))), .int (iI (((dd : Nat) : Int))), .ref hB, .ref hR, .ref hQ, .ref hF, .ref hC, .int (iI (((no : Nat) : Int))), .int (iI (((sh : Nat) : Int))), .int (iI (((cs : Nat) : Int))), .int (iI (((lc : Nat) : Int))), .long (co)])), (hB, .inr (0, [.ref qL, .ref qP, .ref qE, .ref qF, .int (iI (((n : Nat) : Int)))])), (hR, .inr (1, [.ref qK, .ref qA, .ref qB, .ref qN, .int (iI (((nr : Nat) : Int)))])), ce_i qK cI 8 (rk), ce_i qA cI 8 (ra), ce_i qB cI 8 (rb), ce_i qN cI 8 (rd)] sz (fun z w => ∃ nr2 : Nat, ∃ rk2 : Nat → Int, ∃ ra2 : Nat → Int, ∃ rb2 : Nat → Int, ∃ rd2 : Nat → Int, w = [(hX, .inr (4, [.int (iI (((T : Nat) : Int))), .int (iI (((dd : Nat) : Int))), .ref hB, .ref hR, .ref hQ, .ref hF, .ref hC, .int (iI (((no : Nat) : Int))), .int (iI (((sh : Nat) : Int))), .int (iI (((cs : Nat) : Int))), .int (iI (((lc : Nat) : Int))), .long (co)])), (hB, .inr (0, [.ref qL, .ref qP, .ref qE, .ref qF, .int (iI (((n : Nat) : Int)))])), (hR, .inr (1, [.ref qK, .ref qA, .ref qB, .ref qN, .int (iI (((nr2 : Nat) : Int)))])), ce_i qK cI 8 (rk2), ce_i qA cI 8 (ra2), ce_i qB cI 8 (rb2), ce_i qN cI 8 (rd2)] ∧ (nr2, rk2, ra2, rb2, rd2, z) = (if ((0 ≤ kd ∧ kd ≤ 3) ∧ (0 ≤ a ∧ a < ((n : Nat) : Int)) ∧ (kd ≤ 1 → (0 ≤ b ∧ b < ((n : Nat) : Int) ∧ a ≠ b)) ∧ (kd ≠ 1 → (0 ≤ d ∧ d ≤ 10))) ∧ nr < 8 then (nr + 1, uZ rk nr kd, uZ ra nr a, uZ rb nr b, uZ rd nr d, 1) else (nr, rk, ra, rb, rd, 0))) 0 0 := by
  refine Cz_of (cc := cX4_rule) (nL := 5) (by decide) rfl (Nat.le_of_ble_eq_true rfl) ?_
  intro p e s m below meth c A Q hsz C hK hN hA hP hD hS hret ls hl
  obtain ⟨hx, hb, hml, hown, hts⟩ := id C
  have hown : s.vm.findClass RX4 = some m.cls := hown
  have hl : lv_has ls 5 [(0, .ref hX), (1, .int (iI (kd))), (2, .int (iI (a))), (3, .int (iI (b))), (4, .int (iI (d)))] := hl
  have in_X4 : ∀ w ∈ u_ws RX4 TX4 12, w ∈ wsX4_rule := fun w h => List.mem_cons_of_mem _ (inX4 w h)
  refine lv_aload_n hx hb dX4_rule_0 rfl (lv_at hl 0 rfl) ?_
  refine lv_iload_n hx hb dX4_rule_1 rfl (lv_at hl 1 rfl) ?_
  refine lv_iload_n hx hb dX4_rule_2 rfl (lv_at hl 2 rfl) ?_
  refine lv_iload_n hx hb dX4_rule_3 rfl (lv_at hl 3 rfl) ?_
  refine lv_iload hx hb dX4_rule_4 (lv_at hl 4 rfl) ?_
  have hPc := hP.sub (ws' := [(hX, .inr (4, [.int (iI (((T : Nat) : Int))), .int (iI (((dd : Nat) : Int))), .ref hB, .ref hR, .ref hQ, .ref hF, .ref hC, .int (iI (((no : Nat) : Int))), .int (iI (((sh : Nat) : Int))), .int (iI (((cs : Nat) : Int))), .int (iI (((lc : Nat) : Int))), .long (co)])), (hB, .inr (0, [.ref qL, .ref qP, .ref qE, .ref qF, .int (iI (((n : Nat) : Int)))]))]) [0, 1] rfl
  have hDc := hD.sub (ws' := [(hX, .inr (4, [.int (iI (((T : Nat) : Int))), .int (iI (((dd : Nat) : Int))), .ref hB, .ref hR, .ref hQ, .ref hF, .ref hC, .int (iI (((no : Nat) : Int))), .int (iI (((sh : Nat) : Int))), .int (iI (((cs : Nat) : Int))), .int (iI (((lc : Nat) : Int))), .long (co)])), (hB, .inr (0, [.ref qL, .ref qP, .ref qE, .ref qF, .int (iI (((n : Nat) : Int)))]))]) [0, 1] (by decide) rfl
  refine rz_calliR (va_runV (As := [.int (iI (kd)), .int (iI (a)), .int (iI (b)), .int (iI (d))]) (rest := []) ⟨hx, hb, hml, hown, hts⟩ (k_X4_isRule l D cI cZ s.heap.size hX T dd hB hR hQ hF hC no sh cs lc co qL qP qE qF n kd a b d (by omega) (by omega) (by omega) (by omega) (by omega)) (cwV 4 hts (gG (g_V tm_X4_73 ti_X4_isRule tse_X4_isRule tin_X4 cmX4_isRule)) rfl rfl rfl (by decide +kernel) ⟨Nat.le_of_ble_eq_true rfl, Nat.le_of_ble_eq_true rfl⟩) ⟨cP_blind, va_recv hK hPc (ci := 4) (q0 := 0) rfl rfl, cP_pre hPc hK hN hDc⟩ rfl rfl hl.1 rfl (lv_room (Nat.le_of_ble_eq_true rfl)) dX4_rule_6 ⟨Nat.le_refl _, Nat.le_refl _⟩) hP hD hS hA [0, 1] rfl (fun z1 H locs hp hP hS => ?_)
  subst hp
  refine rz_beqD (P := ((0 ≤ kd ∧ kd ≤ 3) ∧ (0 ≤ a ∧ a < ((n : Nat) : Int)) ∧ (kd ≤ 1 → (0 ≤ b ∧ b < ((n : Nat) : Int) ∧ a ≠ b)) ∧ (kd ≠ 1 → (0 ≤ d ∧ d ≤ 10)))) (tgt := 22) hx hb dX4_rule_9 (by decide) (fun c2 => ?_) (fun c2 => ?_)
  · refine lv_iconst (v := iI (((0 : Nat) : Int))) hx hb dX4_rule_22 (by decide +kernel) ?_
    exact hret _ _ _ _ _ _ dX4_rule_23 (Or.inl rfl) ⟨_, _, _, _, _, rfl, (by first | rw [if_neg (by omega)]; rfl | rw [if_pos (by omega)]; rfl)⟩ hP hD hS
  · refine lv_aload_n hx hb dX4_rule_12 rfl (lv_at hl 0 rfl) ?_
    refine va_get (D := D) (ci := 4) (v := .ref hR) (C := RX4) (T := TX4) (N := 12) hx hb hts in_X4 hown hK hP 0 rfl rfl 3 (by decide) (hts _ (List.mem_cons_of_mem _ tf_X4_19)) (fun _ h9 => h9) rfl dX4_rule_13 ?_
    have hPc := hP.sub (ws' := [(hR, .inr (1, [.ref qK, .ref qA, .ref qB, .ref qN, .int (iI (((nr : Nat) : Int)))]))]) [2] rfl
    have hDc := hD.sub (ws' := [(hR, .inr (1, [.ref qK, .ref qA, .ref qB, .ref qN, .int (iI (((nr : Nat) : Int)))]))]) [2] (by decide) rfl
    refine rz_calliR (va_runV (As := []) (rest := []) ⟨hx, hb, hml, hown, hts⟩ (k_X1_isFull l D cI cZ H.size hR qK qA qB qN nr (by omega)) (cwV 0 hts (gG (g_V tm_X4_77 ti_X1_isFull tse_X1_isFull tin_X1 cmX1_isFull)) rfl rfl rfl (by decide +kernel) ⟨Nat.le_of_ble_eq_true rfl, Nat.le_of_ble_eq_true rfl⟩) ⟨cP_blind, va_recv hK hPc (ci := 1) (q0 := 0) rfl rfl, cP_pre hPc hK hN hDc⟩ rfl rfl hl.1 rfl (lv_room (Nat.le_of_ble_eq_true rfl)) dX4_rule_16 ⟨Nat.le_refl _, Nat.le_refl _⟩) hP hD hS hA [2] rfl (fun z3 H locs hp hP hS => ?_)
    subst hp
    refine rz_beqD (P := (8 ≤ nr)) (tgt := 24) hx hb dX4_rule_19 (by decide) (fun c4 => ?_) (fun c4 => ?_)
    · refine lv_aload_n hx hb dX4_rule_24 rfl (lv_at hl 0 rfl) ?_
      refine va_get (D := D) (ci := 4) (v := .ref hR) (C := RX4) (T := TX4) (N := 12) hx hb hts in_X4 hown hK hP 0 rfl rfl 3 (by decide) (hts _ (List.mem_cons_of_mem _ tf_X4_19)) (fun _ h9 => h9) rfl dX4_rule_25 ?_
      refine lv_iload_n hx hb dX4_rule_28 rfl (lv_at hl 1 rfl) ?_
      refine lv_iload_n hx hb dX4_rule_29 rfl (lv_at hl 2 rfl) ?_
      refine lv_iload_n hx hb dX4_rule_30 rfl (lv_at hl 3 rfl) ?_
      refine lv_iload hx hb dX4_rule_31 (lv_at hl 4 rfl) ?_
      have hPc := hP.sub (ws' := [(hR, .inr (1, [.ref qK, .ref qA, .ref qB, .ref qN, .int (iI (((nr : Nat) : Int)))])), ce_i qK cI 8 (rk), ce_i qA cI 8 (ra), ce_i qB cI 8 (rb), ce_i qN cI 8 (rd)]) [2, 3, 4, 5, 6] rfl
      have hDc := hD.sub (ws' := [(hR, .inr (1, [.ref qK, .ref qA, .ref qB, .ref qN, .int (iI (((nr : Nat) : Int)))])), ce_i qK cI 8 (rk), ce_i qA cI 8 (ra), ce_i qB cI 8 (rb), ce_i qN cI 8 (rd)]) [2, 3, 4, 5, 6] (by decide) rfl
      refine rz_callv (va_runV (As := [.int (iI (kd)), .int (iI (a)), .int (iI (b)), .int (iI (d))]) (rest := []) ⟨hx, hb, hml, hown, hts⟩ (k_X1_add l D cI cZ H.size hR qK qA qB qN nr rk ra rb rd kd a b d (by omega)) (cwV 4 hts (gG (g_V tm_X4_78 ti_X1_add tse_X1_add tin_X1 cmX1_add)) rfl rfl rfl (by decide +kernel) ⟨Nat.le_of_ble_eq_true rfl, Nat.le_of_ble_eq_true rfl⟩) ⟨cP_blind, va_recv hK hPc (ci := 1) (q0 := 0) rfl rfl, cP_pre hPc hK hN hDc⟩ rfl rfl hl.1 rfl (lv_room (Nat.le_of_ble_eq_true rfl)) dX4_rule_33 ⟨Nat.le_refl _, Nat.le_refl _⟩) hP hD hS hA [2, 3, 4, 5, 6] [0, 1] rfl (wr := [(hX, .inr (4, [.int (iI (((T : Nat) : Int))), .int (iI (((dd : Nat) : Int))), .ref hB, .ref hR, .ref hQ, .ref hF, .ref hC, .int (iI (((no : Nat) : Int))), .int (iI (((sh : Nat) : Int))), .int (iI (((cs : Nat) : Int))), .int (iI (((lc : Nat) : Int))), .long (co)])), (hB, .inr (0, [.ref qL, .ref qP, .ref qE, .ref qF, .int (iI (((n : Nat) : Int)))]))]) rfl (by decide) (by decide) (fun w H locs hp hP hD hS => ?_)
      subst hp
      have hP : va_P D vwCl [(hX, .inr (4, [.int (iI (((T : Nat) : Int))), .int (iI (((dd : Nat) : Int))), .ref hB, .ref hR, .ref hQ, .ref hF, .ref hC, .int (iI (((no : Nat) : Int))), .int (iI (((sh : Nat) : Int))), .int (iI (((cs : Nat) : Int))), .int (iI (((lc : Nat) : Int))), .long (co)])), (hB, .inr (0, [.ref qL, .ref qP, .ref qE, .ref qF, .int (iI (((n : Nat) : Int)))])), (hR, .inr (1, [.ref qK, .ref qA, .ref qB, .ref qN, .int (iI (((nr + 1 : Nat) : Int)))])), ce_i qK cI 8 (uZ rk nr kd), ce_i qA cI 8 (uZ ra nr a), ce_i qB cI 8 (uZ rb nr b), ce_i qN cI 8 (uZ rd nr d)] H := hP.sub (ws' := [(hX, .inr (4, [.int (iI (((T : Nat) : Int))), .int (iI (((dd : Nat) : Int))), .ref hB, .ref hR, .ref hQ, .ref hF, .ref hC, .int (iI (((no : Nat) : Int))), .int (iI (((sh : Nat) : Int))), .int (iI (((cs : Nat) : Int))), .int (iI (((lc : Nat) : Int))), .long (co)])), (hB, .inr (0, [.ref qL, .ref qP, .ref qE, .ref qF, .int (iI (((n : Nat) : Int)))])), (hR, .inr (1, [.ref qK, .ref qA, .ref qB, .ref qN, .int (iI (((nr + 1 : Nat) : Int)))])), ce_i qK cI 8 (uZ rk nr kd), ce_i qA cI 8 (uZ ra nr a), ce_i qB cI 8 (uZ rb nr b), ce_i qN cI 8 (uZ rd nr d)]) [0, 1, 2, 3, 4, 5, 6] rfl
      have hD : va_D A [(hX, .inr (4, [.int (iI (((T : Nat) : Int))), .int (iI (((dd : Nat) : Int))), .ref hB, .ref hR, .ref hQ, .ref hF, .ref hC, .int (iI (((no : Nat) : Int))), .int (iI (((sh : Nat) : Int))), .int (iI (((cs : Nat) : Int))), .int (iI (((lc : Nat) : Int))), .long (co)])), (hB, .inr (0, [.ref qL, .ref qP, .ref qE, .ref qF, .int (iI (((n : Nat) : Int)))])), (hR, .inr (1, [.ref qK, .ref qA, .ref qB, .ref qN, .int (iI (((nr + 1 : Nat) : Int)))])), ce_i qK cI 8 (uZ rk nr kd), ce_i qA cI 8 (uZ ra nr a), ce_i qB cI 8 (uZ rb nr b), ce_i qN cI 8 (uZ rd nr d)] := hD.sub (ws' := [(hX, .inr (4, [.int (iI (((T : Nat) : Int))), .int (iI (((dd : Nat) : Int))), .ref hB, .ref hR, .ref hQ, .ref hF, .ref hC, .int (iI (((no : Nat) : Int))), .int (iI (((sh : Nat) : Int))), .int (iI (((cs : Nat) : Int))), .int (iI (((lc : Nat) : Int))), .long (co)])), (hB, .inr (0, [.ref qL, .ref qP, .ref qE, .ref qF, .int (iI (((n : Nat) : Int)))])), (hR, .inr (1, [.ref qK, .ref qA, .ref qB, .ref qN, .int (iI (((nr + 1 : Nat) : Int)))])), ce_i qK cI 8 (uZ rk nr kd), ce_i qA cI 8 (uZ ra nr a), ce_i qB cI 8 (uZ rb nr b), ce_i qN cI 8 (uZ rd nr d)]) [0, 1, 2, 3, 4, 5, 6] (by decide) rfl
      refine lv_iconst (v := iI (((1 : Nat) : Int))) hx hb dX4_rule_36 (by decide +kernel) ?_
      exact hret _ _ _ _ _ _ dX4_rule_37 (Or.inr rfl) ⟨_, _, _, _, _, rfl, (by first | rw [if_neg (by omega)]; rfl | rw [if_pos (by omega)]; rfl)⟩ hP hD hS
    · refine lv_iconst (v := iI (((0 : Nat) : Int))) hx hb dX4_rule_22 (by decide +kernel) ?_
      exact hret _ _ _ _ _ _ dX4_rule_23 (Or.inl rfl) ⟨_, _, _, _, _, rfl, (by first | rw [if_neg (by omega)]; rfl | rw [if_pos (by omega)]; rfl)⟩ hP hD hS

set_option maxHeartbeats 4000000 in
set_option maxRecDepth 100000 in
theorem k_X4_freeze (l : Launch) (D : va_G) (cI cZ : ClassId) (sz : Nat) (hX : Nat) (T : Nat) (dd : Nat) (hB : Nat) (hR : Nat) (hQ : Nat) (hF : Nat) (hC : Nat) (no : Nat) (sh : Nat) (cs : Nat) (lc : Nat) (co : Int64) (qL : Nat) (qP : Nat) (qE : Nat) (qF : Nat) (n : Nat) (fz : Nat → Bool) (k : Int) (hn : n ≤ 4) (hk : -2147483648 ≤ k ∧ k < 2147483648) : Ci l yX4_freeze wsX4_freeze (rmD 1) D vwCl [(cI, .int), (cZ, .boolean)] [.ref hX, .int (iI (k))] [(hX, .inr (4, [.int (iI (((T : Nat) : Int))), .int (iI (((dd : Nat) : Int))), .ref hB, .ref hR, .ref hQ, .ref hF, .ref hC, .int (iI (((no : Nat) : Int))), .int (iI (((sh : Nat) : Int))), .int (iI (((cs : Nat) : Int))), .int (iI (((lc : Nat) : Int))), .long (co)])), (hB, .inr (0, [.ref qL, .ref qP, .ref qE, .ref qF, .int (iI (((n : Nat) : Int)))])), ce_i qF cZ 4 (bZ (fz))] sz (fun z w => ∃ fz2 : Nat → Bool, w = [(hX, .inr (4, [.int (iI (((T : Nat) : Int))), .int (iI (((dd : Nat) : Int))), .ref hB, .ref hR, .ref hQ, .ref hF, .ref hC, .int (iI (((no : Nat) : Int))), .int (iI (((sh : Nat) : Int))), .int (iI (((cs : Nat) : Int))), .int (iI (((lc : Nat) : Int))), .long (co)])), (hB, .inr (0, [.ref qL, .ref qP, .ref qE, .ref qF, .int (iI (((n : Nat) : Int)))])), ce_i qF cZ 4 (bZ (fz2))] ∧ (fz2, z) = (if (0 ≤ k ∧ k < ((n : Nat) : Int)) ∧ fz k.toNat = false then (uB fz k.toNat true, 1) else (fz, 0))) 0 0 := by
  refine Cz_of (cc := cX4_freeze) (nL := 2) (by decide) rfl (Nat.le_of_ble_eq_true rfl) ?_
  intro p e s m below meth c A Q hsz C hK hN hA hP hD hS hret ls hl
  obtain ⟨hx, hb, hml, hown, hts⟩ := id C
  have hown : s.vm.findClass RX4 = some m.cls := hown
  have hl : lv_has ls 2 [(0, .ref hX), (1, .int (iI (k)))] := hl
  have in_X4 : ∀ w ∈ u_ws RX4 TX4 12, w ∈ wsX4_freeze := fun w h => List.mem_cons_of_mem _ (inX4 w h)
  have in_X0 : ∀ w ∈ u_ws RX0 TX0 5, w ∈ wsX4_freeze := fun w h => List.mem_cons_of_mem _ (inX0 w h)
  refine lv_aload_n hx hb dX4_freeze_0 rfl (lv_at hl 0 rfl) ?_
  refine va_get (D := D) (ci := 4) (v := .ref hB) (C := RX4) (T := TX4) (N := 12) hx hb hts in_X4 hown hK hP 0 rfl rfl 2 (by decide) (hts _ (List.mem_cons_of_mem _ tf_X4_12)) (fun _ h9 => h9) rfl dX4_freeze_1 ?_
  refine lv_iload_n hx hb dX4_freeze_4 rfl (lv_at hl 1 rfl) ?_
  have hPc := hP.sub (ws' := [(hB, .inr (0, [.ref qL, .ref qP, .ref qE, .ref qF, .int (iI (((n : Nat) : Int)))]))]) [1] rfl
  have hDc := hD.sub (ws' := [(hB, .inr (0, [.ref qL, .ref qP, .ref qE, .ref qF, .int (iI (((n : Nat) : Int)))]))]) [1] (by decide) rfl
  refine rz_calliR (va_runV (As := [.int (iI (k))]) (rest := []) ⟨hx, hb, hml, hown, hts⟩ (k_X0_has l D cI cZ s.heap.size hB qL qP qE qF n k (by omega) (by omega)) (cwV 1 hts (gG (g_V tm_X4_81 ti_X0_has tse_X0_has tin_X0 cmX0_has)) rfl rfl rfl (by decide +kernel) ⟨Nat.le_of_ble_eq_true rfl, Nat.le_of_ble_eq_true rfl⟩) ⟨cP_blind, va_recv hK hPc (ci := 0) (q0 := 0) rfl rfl, cP_pre hPc hK hN hDc⟩ rfl rfl hl.1 rfl (lv_room (Nat.le_of_ble_eq_true rfl)) dX4_freeze_5 ⟨Nat.le_refl _, Nat.le_refl _⟩) hP hD hS hA [1] rfl (fun z1 H locs hp hP hS => ?_)
  subst hp
  refine rz_beqD (P := (0 ≤ k ∧ k < ((n : Nat) : Int))) (tgt := 23) hx hb dX4_freeze_8 (by decide) (fun c2 => ?_) (fun c2 => ?_)
  · refine lv_iconst (v := iI (((0 : Nat) : Int))) hx hb dX4_freeze_23 (by decide +kernel) ?_
    exact hret _ _ _ _ _ _ dX4_freeze_24 (Or.inl rfl) ⟨_, rfl, (by first | rw [if_neg (by omega)]; rfl | rw [if_pos ⟨by omega, by assumption⟩]; rfl | (rw [if_neg (fun h => by simp_all)]; rfl))⟩ hP hD hS
  · refine lv_aload_n hx hb dX4_freeze_11 rfl (lv_at hl 0 rfl) ?_
    refine va_get (D := D) (ci := 4) (v := .ref hB) (C := RX4) (T := TX4) (N := 12) hx hb hts in_X4 hown hK hP 0 rfl rfl 2 (by decide) (hts _ (List.mem_cons_of_mem _ tf_X4_12)) (fun _ h9 => h9) rfl dX4_freeze_12 ?_
    refine va_get (D := D) (ci := 0) (v := .ref qF) (C := RX0) (T := TX0) (N := 5) hx hb hts in_X0 hown hK hP 1 rfl rfl 3 (by decide) (hts _ (List.mem_cons_of_mem _ tf_X4_84)) (fun _ h9 => h9) rfl dX4_freeze_15 ?_
    refine lv_iload_n hx hb dX4_freeze_18 rfl (lv_at hl 1 rfl) ?_
    refine rz_as (y := ((k.toNat : Nat) : Int)) (by omega) ?_
    refine rn_zld hx hb hK hP 2 1 rfl rfl (by omega) (by omega) dX4_freeze_19 ?_
    refine rz_beq (z := fz k.toNat) (tgt := 25) hx hb dX4_freeze_20 (by decide) (fun c3 => ?_) (fun c3 => ?_)
    · refine lv_aload_n hx hb dX4_freeze_25 rfl (lv_at hl 0 rfl) ?_
      refine va_get (D := D) (ci := 4) (v := .ref hB) (C := RX4) (T := TX4) (N := 12) hx hb hts in_X4 hown hK hP 0 rfl rfl 2 (by decide) (hts _ (List.mem_cons_of_mem _ tf_X4_12)) (fun _ h9 => h9) rfl dX4_freeze_26 ?_
      refine va_get (D := D) (ci := 0) (v := .ref qF) (C := RX0) (T := TX0) (N := 5) hx hb hts in_X0 hown hK hP 1 rfl rfl 3 (by decide) (hts _ (List.mem_cons_of_mem _ tf_X4_84)) (fun _ h9 => h9) rfl dX4_freeze_29 ?_
      refine lv_iload_n hx hb dX4_freeze_32 rfl (lv_at hl 1 rfl) ?_
      refine rz_as (y := ((k.toNat : Nat) : Int)) (by omega) ?_
      refine lv_iconst (v := iI (((1 : Nat) : Int))) hx hb dX4_freeze_33 (by decide +kernel) ?_
      refine rz_as (y := b2z (true)) (by decide) ?_
      refine rn_zst (z := true) hx hb hK hP hD hS 2 1 rfl rfl (by omega) (by omega) dX4_freeze_34 (fun H locs hP hD hS => ?_)
      have hP : va_P D vwCl [(hX, .inr (4, [.int (iI (((T : Nat) : Int))), .int (iI (((dd : Nat) : Int))), .ref hB, .ref hR, .ref hQ, .ref hF, .ref hC, .int (iI (((no : Nat) : Int))), .int (iI (((sh : Nat) : Int))), .int (iI (((cs : Nat) : Int))), .int (iI (((lc : Nat) : Int))), .long (co)])), (hB, .inr (0, [.ref qL, .ref qP, .ref qE, .ref qF, .int (iI (((n : Nat) : Int)))])), ce_i qF cZ 4 (bZ (uB fz k.toNat true))] H := hP
      have hD : va_D A [(hX, .inr (4, [.int (iI (((T : Nat) : Int))), .int (iI (((dd : Nat) : Int))), .ref hB, .ref hR, .ref hQ, .ref hF, .ref hC, .int (iI (((no : Nat) : Int))), .int (iI (((sh : Nat) : Int))), .int (iI (((cs : Nat) : Int))), .int (iI (((lc : Nat) : Int))), .long (co)])), (hB, .inr (0, [.ref qL, .ref qP, .ref qE, .ref qF, .int (iI (((n : Nat) : Int)))])), ce_i qF cZ 4 (bZ (uB fz k.toNat true))] := hD
      refine lv_iconst (v := iI (((1 : Nat) : Int))) hx hb dX4_freeze_35 (by decide +kernel) ?_
      exact hret _ _ _ _ _ _ dX4_freeze_36 (Or.inr rfl) ⟨_, rfl, (by first | rw [if_neg (by omega)]; rfl | rw [if_pos ⟨by omega, by assumption⟩]; rfl | (rw [if_neg (fun h => by simp_all)]; rfl))⟩ hP hD hS
    · refine lv_iconst (v := iI (((0 : Nat) : Int))) hx hb dX4_freeze_23 (by decide +kernel) ?_
      exact hret _ _ _ _ _ _ dX4_freeze_24 (Or.inl rfl) ⟨_, rfl, (by first | rw [if_neg (by omega)]; rfl | rw [if_pos ⟨by omega, by assumption⟩]; rfl | (rw [if_neg (fun h => by simp_all)]; rfl))⟩ hP hD hS

set_option maxHeartbeats 4000000 in
set_option maxRecDepth 100000 in
theorem k_X4_out (l : Launch) (D : va_G) (cI cZ : ClassId) (sz : Nat) (hX : Nat) (T : Nat) (dd : Nat) (hB : Nat) (hR : Nat) (hQ : Nat) (hF : Nat) (hC : Nat) (no : Nat) (sh : Nat) (cs : Nat) (lc : Nat) (co : Int64) (t : Int) (f : Int) (o : Int) (hT : 1 ≤ T ∧ T ≤ 3) (hdd : 1 ≤ dd ∧ dd ≤ 10) (hno : no ≤ 12) (h_t : -2147483648 ≤ t ∧ t < 2147483648) (h_f : -2147483648 ≤ f ∧ f < 2147483648) (h_o : -2147483648 ≤ o ∧ o < 2147483648) : Ci l yX4_out wsX4_out (rmD 2) D vwCl [(cI, .int), (cZ, .boolean)] [.ref hX, .int (iI (t)), .int (iI (f)), .int (iI (o))] [(hX, .inr (4, [.int (iI (((T : Nat) : Int))), .int (iI (((dd : Nat) : Int))), .ref hB, .ref hR, .ref hQ, .ref hF, .ref hC, .int (iI (((no : Nat) : Int))), .int (iI (((sh : Nat) : Int))), .int (iI (((cs : Nat) : Int))), .int (iI (((lc : Nat) : Int))), .long (co)]))] sz (fun z w => ∃ no2 : Nat, ∃ sh2 : Nat, w = [(hX, .inr (4, [.int (iI (((T : Nat) : Int))), .int (iI (((dd : Nat) : Int))), .ref hB, .ref hR, .ref hQ, .ref hF, .ref hC, .int (iI (((no2 : Nat) : Int))), .int (iI (((sh2 : Nat) : Int))), .int (iI (((cs : Nat) : Int))), .int (iI (((lc : Nat) : Int))), .long (co)]))] ∧ (no2, sh2, z) = (if (0 ≤ t ∧ t < ((T : Nat) : Int)) ∧ (0 ≤ f ∧ f < o ∧ o ≤ ((dd : Nat) : Int)) ∧ no < 12 then (no + 1, sh ||| daysF f (o - ((1 : Nat) : Int)) * 2 ^ (t.toNat * 10), 1) else (no, sh, 0))) 0 0 := by
  refine Cz_of (cc := cX4_out) (nL := 4) (by decide) rfl (Nat.le_of_ble_eq_true rfl) ?_
  intro p e s m below meth c A Q hsz C hK hN hA hP hD hS hret ls hl
  obtain ⟨hx, hb, hml, hown, hts⟩ := id C
  have hown : s.vm.findClass RX4 = some m.cls := hown
  have hl : lv_has ls 4 [(0, .ref hX), (1, .int (iI (t))), (2, .int (iI (f))), (3, .int (iI (o)))] := hl
  have in_X4 : ∀ w ∈ u_ws RX4 TX4 12, w ∈ wsX4_out := fun w h => List.mem_cons_of_mem _ (inX4 w h)
  refine lv_aload_n hx hb dX4_out_0 rfl (lv_at hl 0 rfl) ?_
  refine lv_iload_n hx hb dX4_out_1 rfl (lv_at hl 1 rfl) ?_
  have hPc := hP.sub (ws' := [(hX, .inr (4, [.int (iI (((T : Nat) : Int))), .int (iI (((dd : Nat) : Int))), .ref hB, .ref hR, .ref hQ, .ref hF, .ref hC, .int (iI (((no : Nat) : Int))), .int (iI (((sh : Nat) : Int))), .int (iI (((cs : Nat) : Int))), .int (iI (((lc : Nat) : Int))), .long (co)]))]) [0] rfl
  have hDc := hD.sub (ws' := [(hX, .inr (4, [.int (iI (((T : Nat) : Int))), .int (iI (((dd : Nat) : Int))), .ref hB, .ref hR, .ref hQ, .ref hF, .ref hC, .int (iI (((no : Nat) : Int))), .int (iI (((sh : Nat) : Int))), .int (iI (((cs : Nat) : Int))), .int (iI (((lc : Nat) : Int))), .long (co)]))]) [0] (by decide) rfl
  refine rz_calliR (va_runV (As := [.int (iI (t))]) (rest := []) ⟨hx, hb, hml, hown, hts⟩ (k_X4_isTank l D cI cZ s.heap.size hX T dd hB hR hQ hF hC no sh cs lc co t (by omega) (by omega)) (cwV 1 hts (gG (g_V tm_X4_58 ti_X4_isTank tse_X4_isTank tin_X4 cmX4_isTank)) rfl rfl rfl (by decide +kernel) ⟨Nat.le_of_ble_eq_true rfl, Nat.le_of_ble_eq_true rfl⟩) ⟨cP_blind, va_recv hK hPc (ci := 4) (q0 := 0) rfl rfl, cP_pre hPc hK hN hDc⟩ rfl rfl hl.1 rfl (lv_room (Nat.le_of_ble_eq_true rfl)) dX4_out_2 ⟨Nat.le_refl _, Nat.le_refl _⟩) hP hD hS hA [0] rfl (fun z1 H locs hp hP hS => ?_)
  subst hp
  refine rz_beqD (P := (0 ≤ t ∧ t < ((T : Nat) : Int))) (tgt := 34) hx hb dX4_out_5 (by decide) (fun c2 => ?_) (fun c2 => ?_)
  · refine lv_iconst (v := iI (((0 : Nat) : Int))) hx hb dX4_out_34 (by decide +kernel) ?_
    exact hret _ _ _ _ _ _ dX4_out_35 (Or.inl rfl) ⟨_, _, rfl, (by first | rw [if_neg (by omega)]; rfl | rw [if_pos (by omega)]; rfl)⟩ hP hD hS
  · refine lv_iload_n hx hb dX4_out_8 rfl (lv_at hl 2 rfl) ?_
    refine rz_ilt (tgt := 34) hx hb dX4_out_9 (by decide) (by omega) (fun c3 => ?_) (fun c3 => ?_)
    · refine lv_iconst (v := iI (((0 : Nat) : Int))) hx hb dX4_out_34 (by decide +kernel) ?_
      exact hret _ _ _ _ _ _ dX4_out_35 (Or.inl rfl) ⟨_, _, rfl, (by first | rw [if_neg (by omega)]; rfl | rw [if_pos (by omega)]; rfl)⟩ hP hD hS
    · refine lv_iload_n hx hb dX4_out_12 rfl (lv_at hl 2 rfl) ?_
      refine lv_iload_n hx hb dX4_out_13 rfl (lv_at hl 3 rfl) ?_
      refine rz_cge (tgt := 34) hx hb dX4_out_14 (by decide) (by omega) (by omega) (fun c4 => ?_) (fun c4 => ?_)
      · refine lv_iconst (v := iI (((0 : Nat) : Int))) hx hb dX4_out_34 (by decide +kernel) ?_
        exact hret _ _ _ _ _ _ dX4_out_35 (Or.inl rfl) ⟨_, _, rfl, (by first | rw [if_neg (by omega)]; rfl | rw [if_pos (by omega)]; rfl)⟩ hP hD hS
      · refine lv_iload_n hx hb dX4_out_17 rfl (lv_at hl 3 rfl) ?_
        refine lv_aload_n hx hb dX4_out_18 rfl (lv_at hl 0 rfl) ?_
        refine va_get (D := D) (ci := 4) (v := .int (iI (((dd : Nat) : Int)))) (C := RX4) (T := TX4) (N := 12) hx hb hts in_X4 hown hK hP 0 rfl rfl 1 (by decide) (hts _ (List.mem_cons_of_mem _ tf_X4_55)) (fun _ h9 => h9) rfl dX4_out_19 ?_
        refine rz_cgt (tgt := 34) hx hb dX4_out_22 (by decide) (by omega) (by omega) (fun c5 => ?_) (fun c5 => ?_)
        · refine lv_iconst (v := iI (((0 : Nat) : Int))) hx hb dX4_out_34 (by decide +kernel) ?_
          exact hret _ _ _ _ _ _ dX4_out_35 (Or.inl rfl) ⟨_, _, rfl, (by first | rw [if_neg (by omega)]; rfl | rw [if_pos (by omega)]; rfl)⟩ hP hD hS
        · refine lv_aload_n hx hb dX4_out_25 rfl (lv_at hl 0 rfl) ?_
          refine va_get (D := D) (ci := 4) (v := .int (iI (((no : Nat) : Int)))) (C := RX4) (T := TX4) (N := 12) hx hb hts in_X4 hown hK hP 0 rfl rfl 7 (by decide) (hts _ (List.mem_cons_of_mem _ tf_X4_88)) (fun _ h9 => h9) rfl dX4_out_26 ?_
          refine lv_bipush (v := iI (((12 : Nat) : Int))) hx hb dX4_out_29 (by decide +kernel) ?_
          refine rz_clt (tgt := 36) hx hb dX4_out_31 (by decide) (by omega) (by omega) (fun c6 => ?_) (fun c6 => ?_)
          · refine lv_aload_n hx hb dX4_out_36 rfl (lv_at hl 0 rfl) ?_
            refine lv_dup hx hb dX4_out_37 rfl ?_
            refine va_get (D := D) (ci := 4) (v := .int (iI (((no : Nat) : Int)))) (C := RX4) (T := TX4) (N := 12) hx hb hts in_X4 hown hK hP 0 rfl rfl 7 (by decide) (hts _ (List.mem_cons_of_mem _ tf_X4_88)) (fun _ h9 => h9) rfl dX4_out_38 ?_
            refine lv_iconst (v := iI (((1 : Nat) : Int))) hx hb dX4_out_41 (by decide +kernel) ?_
            refine rn_add hx hb dX4_out_42 ?_
            refine va_put (D := D) (ci := 4) (v := .int (iI (((no + 1 : Nat) : Int)))) (ty := .int) (C := RX4) (T := TX4) (N := 12) hx hb hts in_X4 tyX4 tyX4_ok nmX4 hown hK hP hD hS 0 rfl rfl 7 (by decide) (hts _ (List.mem_cons_of_mem _ tf_X4_88)) (fun _ h9 => h9) rfl (by decide +kernel) rfl rfl (Nat.le_of_ble_eq_true rfl) dX4_out_43 (fun H locs hP hD hS => ?_)
            have hP : va_P D vwCl [(hX, .inr (4, [.int (iI (((T : Nat) : Int))), .int (iI (((dd : Nat) : Int))), .ref hB, .ref hR, .ref hQ, .ref hF, .ref hC, .int (iI (((no + 1 : Nat) : Int))), .int (iI (((sh : Nat) : Int))), .int (iI (((cs : Nat) : Int))), .int (iI (((lc : Nat) : Int))), .long (co)]))] H := hP
            have hD : va_D A [(hX, .inr (4, [.int (iI (((T : Nat) : Int))), .int (iI (((dd : Nat) : Int))), .ref hB, .ref hR, .ref hQ, .ref hF, .ref hC, .int (iI (((no + 1 : Nat) : Int))), .int (iI (((sh : Nat) : Int))), .int (iI (((cs : Nat) : Int))), .int (iI (((lc : Nat) : Int))), .long (co)]))] := hD
            refine lv_aload_n hx hb dX4_out_46 rfl (lv_at hl 0 rfl) ?_
            refine lv_dup hx hb dX4_out_47 rfl ?_
            refine va_get (D := D) (ci := 4) (v := .int (iI (((sh : Nat) : Int)))) (C := RX4) (T := TX4) (N := 12) hx hb hts in_X4 hown hK hP 0 rfl rfl 8 (by decide) (hts _ (List.mem_cons_of_mem _ tf_X4_91)) (fun _ h9 => h9) rfl dX4_out_48 ?_
            refine lv_iload_n hx hb dX4_out_51 rfl (lv_at hl 2 rfl) ?_
            refine lv_iload_n hx hb dX4_out_52 rfl (lv_at hl 3 rfl) ?_
            refine lv_iconst (v := iI (((1 : Nat) : Int))) hx hb dX4_out_53 (by decide +kernel) ?_
            refine rz_sub hx hb dX4_out_54 ?_
            have hPc := hP.sub (ws' := []) [] rfl
            have hDc := hD.sub (ws' := []) [] (by decide) rfl
            refine rz_calliR (va_runS (As := [.int (iI (f)), .int (iI (o - ((1 : Nat) : Int)))]) (rest := [.int (iI (((sh : Nat) : Int))), .ref hX]) ⟨hx, hb, hml, hown, hts⟩ (k_X4_daysFromTo l D cI cZ H.size f (o - ((1 : Nat) : Int)) (by omega) (by omega)) (va_cwS 2 hts (gG (g_S tm_X4_94 ts_X4_daysFromTo tin_X4 cmX4_daysFromTo)) rfl rfl rfl (by decide +kernel) ⟨Nat.le_of_ble_eq_true rfl, Nat.le_of_ble_eq_true rfl⟩) ⟨cP_blind, cP_pre hPc hK hN hDc⟩ rfl rfl hl.1 rfl (lv_room (Nat.le_of_ble_eq_true rfl)) dX4_out_55 ⟨Nat.le_refl _, Nat.le_refl _⟩) hP hD hS hA [] rfl (fun z7 H locs hp hP hS => ?_)
            subst hp
            refine lv_iload_n hx hb dX4_out_58 rfl (lv_at hl 1 rfl) ?_
            refine lv_bipush (v := iI (((10 : Nat) : Int))) hx hb dX4_out_59 (by decide +kernel) ?_
            refine rz_mul hx hb dX4_out_61 ?_
            refine rz_as (y := ((t.toNat * 10 : Nat) : Int)) (by omega) ?_
            refine rz_shl hx hb dX4_out_62 (by omega) (Nat.lt_trans (sh_lt (daysF_lt _ _) (by omega)) (by decide)) ?_
            refine rz_or hx hb dX4_out_63 ?_
            refine va_put (D := D) (ci := 4) (v := .int (iI (((sh ||| ((daysF f (o - ((1 : Nat) : Int))) * 2 ^ (t.toNat * 10)) : Nat) : Int)))) (ty := .int) (C := RX4) (T := TX4) (N := 12) hx hb hts in_X4 tyX4 tyX4_ok nmX4 hown hK hP hD hS 0 rfl rfl 8 (by decide) (hts _ (List.mem_cons_of_mem _ tf_X4_91)) (fun _ h9 => h9) rfl (by decide +kernel) rfl rfl (Nat.le_of_ble_eq_true rfl) dX4_out_64 (fun H locs hP hD hS => ?_)
            have hP : va_P D vwCl [(hX, .inr (4, [.int (iI (((T : Nat) : Int))), .int (iI (((dd : Nat) : Int))), .ref hB, .ref hR, .ref hQ, .ref hF, .ref hC, .int (iI (((no + 1 : Nat) : Int))), .int (iI (((sh ||| ((daysF f (o - ((1 : Nat) : Int))) * 2 ^ (t.toNat * 10)) : Nat) : Int))), .int (iI (((cs : Nat) : Int))), .int (iI (((lc : Nat) : Int))), .long (co)]))] H := hP
            have hD : va_D A [(hX, .inr (4, [.int (iI (((T : Nat) : Int))), .int (iI (((dd : Nat) : Int))), .ref hB, .ref hR, .ref hQ, .ref hF, .ref hC, .int (iI (((no + 1 : Nat) : Int))), .int (iI (((sh ||| ((daysF f (o - ((1 : Nat) : Int))) * 2 ^ (t.toNat * 10)) : Nat) : Int))), .int (iI (((cs : Nat) : Int))), .int (iI (((lc : Nat) : Int))), .long (co)]))] := hD
            refine lv_iconst (v := iI (((1 : Nat) : Int))) hx hb dX4_out_67 (by decide +kernel) ?_
            exact hret _ _ _ _ _ _ dX4_out_68 (Or.inr rfl) ⟨_, _, rfl, (by first | rw [if_neg (by omega)]; rfl | rw [if_pos (by omega)]; rfl)⟩ hP hD hS
          · refine lv_iconst (v := iI (((0 : Nat) : Int))) hx hb dX4_out_34 (by decide +kernel) ?_
            exact hret _ _ _ _ _ _ dX4_out_35 (Or.inl rfl) ⟨_, _, rfl, (by first | rw [if_neg (by omega)]; rfl | rw [if_pos (by omega)]; rfl)⟩ hP hD hS

set_option maxHeartbeats 4000000 in
set_option maxRecDepth 100000 in
theorem k_X4_late (l : Launch) (D : va_G) (cI cZ : ClassId) (sz : Nat) (hX : Nat) (T : Nat) (dd : Nat) (hB : Nat) (hR : Nat) (hQ : Nat) (hF : Nat) (hC : Nat) (no : Nat) (sh : Nat) (cs : Nat) (lc : Nat) (co : Int64) (qL : Nat) (qP : Nat) (qE : Nat) (qF : Nat) (n : Nat) (pl : Nat → Nat) (ea : Nat → Nat) (k : Int) (d : Int) (hn : n ≤ 4) (hpl : ∀ j, pl j < 30) (h_k : -2147483648 ≤ k ∧ k < 2147483648) (h_d : -2147483648 ≤ d ∧ d < 2147483648) : Ci l yX4_late wsX4_late (rmD 1) D vwCl [(cI, .int), (cZ, .boolean)] [.ref hX, .int (iI (k)), .int (iI (d))] [(hX, .inr (4, [.int (iI (((T : Nat) : Int))), .int (iI (((dd : Nat) : Int))), .ref hB, .ref hR, .ref hQ, .ref hF, .ref hC, .int (iI (((no : Nat) : Int))), .int (iI (((sh : Nat) : Int))), .int (iI (((cs : Nat) : Int))), .int (iI (((lc : Nat) : Int))), .long (co)])), (hB, .inr (0, [.ref qL, .ref qP, .ref qE, .ref qF, .int (iI (((n : Nat) : Int)))])), ce_i qP cI 4 (nZ (pl)), ce_i qE cI 4 (nZ (ea))] sz (fun z w => ∃ ea2 : Nat → Nat, w = [(hX, .inr (4, [.int (iI (((T : Nat) : Int))), .int (iI (((dd : Nat) : Int))), .ref hB, .ref hR, .ref hQ, .ref hF, .ref hC, .int (iI (((no : Nat) : Int))), .int (iI (((sh : Nat) : Int))), .int (iI (((cs : Nat) : Int))), .int (iI (((lc : Nat) : Int))), .long (co)])), (hB, .inr (0, [.ref qL, .ref qP, .ref qE, .ref qF, .int (iI (((n : Nat) : Int)))])), ce_i qP cI 4 (nZ (pl)), ce_i qE cI 4 (nZ (ea2))] ∧ (ea2, z) = (if (0 ≤ k ∧ k < ((n : Nat) : Int)) ∧ (0 ≤ d ∧ d ≤ 10) then (uN ea k.toNat (pl k.toNat % 10 + d.toNat), 1) else (ea, 0))) 0 0 := by
  refine Cz_of (cc := cX4_late) (nL := 3) (by decide) rfl (Nat.le_of_ble_eq_true rfl) ?_
  intro p e s m below meth c A Q hsz C hK hN hA hP hD hS hret ls hl
  obtain ⟨hx, hb, hml, hown, hts⟩ := id C
  have hown : s.vm.findClass RX4 = some m.cls := hown
  have hl : lv_has ls 3 [(0, .ref hX), (1, .int (iI (k))), (2, .int (iI (d)))] := hl
  have in_X4 : ∀ w ∈ u_ws RX4 TX4 12, w ∈ wsX4_late := fun w h => List.mem_cons_of_mem _ (inX4 w h)
  have in_X0 : ∀ w ∈ u_ws RX0 TX0 5, w ∈ wsX4_late := fun w h => List.mem_cons_of_mem _ (inX0 w h)
  refine lv_aload_n hx hb dX4_late_0 rfl (lv_at hl 0 rfl) ?_
  refine va_get (D := D) (ci := 4) (v := .ref hB) (C := RX4) (T := TX4) (N := 12) hx hb hts in_X4 hown hK hP 0 rfl rfl 2 (by decide) (hts _ (List.mem_cons_of_mem _ tf_X4_12)) (fun _ h9 => h9) rfl dX4_late_1 ?_
  refine lv_iload_n hx hb dX4_late_4 rfl (lv_at hl 1 rfl) ?_
  have hPc := hP.sub (ws' := [(hB, .inr (0, [.ref qL, .ref qP, .ref qE, .ref qF, .int (iI (((n : Nat) : Int)))]))]) [1] rfl
  have hDc := hD.sub (ws' := [(hB, .inr (0, [.ref qL, .ref qP, .ref qE, .ref qF, .int (iI (((n : Nat) : Int)))]))]) [1] (by decide) rfl
  refine rz_calliR (va_runV (As := [.int (iI (k))]) (rest := []) ⟨hx, hb, hml, hown, hts⟩ (k_X0_has l D cI cZ s.heap.size hB qL qP qE qF n k (by omega) (by omega)) (cwV 1 hts (gG (g_V tm_X4_81 ti_X0_has tse_X0_has tin_X0 cmX0_has)) rfl rfl rfl (by decide +kernel) ⟨Nat.le_of_ble_eq_true rfl, Nat.le_of_ble_eq_true rfl⟩) ⟨cP_blind, va_recv hK hPc (ci := 0) (q0 := 0) rfl rfl, cP_pre hPc hK hN hDc⟩ rfl rfl hl.1 rfl (lv_room (Nat.le_of_ble_eq_true rfl)) dX4_late_5 ⟨Nat.le_refl _, Nat.le_refl _⟩) hP hD hS hA [1] rfl (fun z1 H locs hp hP hS => ?_)
  subst hp
  refine rz_beqD (P := (0 ≤ k ∧ k < ((n : Nat) : Int))) (tgt := 18) hx hb dX4_late_8 (by decide) (fun c2 => ?_) (fun c2 => ?_)
  · refine lv_iconst (v := iI (((0 : Nat) : Int))) hx hb dX4_late_18 (by decide +kernel) ?_
    exact hret _ _ _ _ _ _ dX4_late_19 (Or.inl rfl) ⟨_, rfl, (by first | rw [if_neg (by omega)]; rfl | rw [if_pos (by omega)]; rfl)⟩ hP hD hS
  · refine lv_iload_n hx hb dX4_late_11 rfl (lv_at hl 2 rfl) ?_
    have hPc := hP.sub (ws' := []) [] rfl
    have hDc := hD.sub (ws' := []) [] (by decide) rfl
    refine rz_calliR (va_runS (As := [.int (iI (d))]) (rest := []) ⟨hx, hb, hml, hown, hts⟩ (k_X4_isNumber l D cI cZ H.size d (by omega)) (va_cwS 1 hts (gG (g_S tm_X4_97 ts_X4_isNumber tin_X4 cmX4_isNumber)) rfl rfl rfl (by decide +kernel) ⟨Nat.le_of_ble_eq_true rfl, Nat.le_of_ble_eq_true rfl⟩) ⟨cP_blind, cP_pre hPc hK hN hDc⟩ rfl rfl hl.1 rfl (lv_room (Nat.le_of_ble_eq_true rfl)) dX4_late_12 ⟨Nat.le_refl _, Nat.le_refl _⟩) hP hD hS hA [] rfl (fun z3 H locs hp hP hS => ?_)
    subst hp
    refine rz_bneD (P := (0 ≤ d ∧ d ≤ 10)) (tgt := 20) hx hb dX4_late_15 (by decide) (fun c4 => ?_) (fun c4 => ?_)
    · refine lv_aload_n hx hb dX4_late_20 rfl (lv_at hl 0 rfl) ?_
      refine va_get (D := D) (ci := 4) (v := .ref hB) (C := RX4) (T := TX4) (N := 12) hx hb hts in_X4 hown hK hP 0 rfl rfl 2 (by decide) (hts _ (List.mem_cons_of_mem _ tf_X4_12)) (fun _ h9 => h9) rfl dX4_late_21 ?_
      refine va_get (D := D) (ci := 0) (v := .ref qE) (C := RX0) (T := TX0) (N := 5) hx hb hts in_X0 hown hK hP 1 rfl rfl 2 (by decide) (hts _ (List.mem_cons_of_mem _ tf_X4_100)) (fun _ h9 => h9) rfl dX4_late_24 ?_
      refine lv_iload_n hx hb dX4_late_27 rfl (lv_at hl 1 rfl) ?_
      refine rz_as (y := ((k.toNat : Nat) : Int)) (by omega) ?_
      refine lv_aload_n hx hb dX4_late_28 rfl (lv_at hl 0 rfl) ?_
      refine va_get (D := D) (ci := 4) (v := .ref hB) (C := RX4) (T := TX4) (N := 12) hx hb hts in_X4 hown hK hP 0 rfl rfl 2 (by decide) (hts _ (List.mem_cons_of_mem _ tf_X4_12)) (fun _ h9 => h9) rfl dX4_late_29 ?_
      refine va_get (D := D) (ci := 0) (v := .ref qP) (C := RX0) (T := TX0) (N := 5) hx hb hts in_X0 hown hK hP 1 rfl rfl 1 (by decide) (hts _ (List.mem_cons_of_mem _ tf_X4_104)) (fun _ h9 => h9) rfl dX4_late_32 ?_
      refine lv_iload_n hx hb dX4_late_35 rfl (lv_at hl 1 rfl) ?_
      refine rz_as (y := ((k.toNat : Nat) : Int)) (by omega) ?_
      refine rn_aldM hx hb hK hP 2 0 rfl rfl (by omega) (by omega) dX4_late_36 ?_
      have hPc := hP.sub (ws' := []) [] rfl
      have hDc := hD.sub (ws' := []) [] (by decide) rfl
      refine rz_calliR (va_runS (As := [.int (iI (((pl k.toNat : Nat) : Int)))]) (rest := [.int (iI (((k.toNat : Nat) : Int))), .ref qE]) ⟨hx, hb, hml, hown, hts⟩ (k_X4_startOfPlace l D cI cZ H.size (pl k.toNat) (by have := hpl k.toNat; omega)) (va_cwS 1 hts (gG (g_S tm_X4_107 ts_X4_startOfPlace tin_X4 cmX4_startOfPlace)) rfl rfl rfl (by decide +kernel) ⟨Nat.le_of_ble_eq_true rfl, Nat.le_of_ble_eq_true rfl⟩) ⟨cP_blind, cP_pre hPc hK hN hDc⟩ rfl rfl hl.1 rfl (lv_room (Nat.le_of_ble_eq_true rfl)) dX4_late_37 ⟨Nat.le_refl _, Nat.le_refl _⟩) hP hD hS hA [] rfl (fun z5 H locs hp hP hS => ?_)
      subst hp
      refine lv_iload_n hx hb dX4_late_40 rfl (lv_at hl 2 rfl) ?_
      refine rz_add hx hb dX4_late_41 ?_
      refine rz_as (y := ((pl k.toNat % 10 + d.toNat : Nat) : Int)) (by omega) ?_
      refine rn_astM hx hb hK hP hD hS 3 0 rfl rfl (by omega) (by omega) dX4_late_42 (fun H locs hP hD hS => ?_)
      have hP : va_P D vwCl [(hX, .inr (4, [.int (iI (((T : Nat) : Int))), .int (iI (((dd : Nat) : Int))), .ref hB, .ref hR, .ref hQ, .ref hF, .ref hC, .int (iI (((no : Nat) : Int))), .int (iI (((sh : Nat) : Int))), .int (iI (((cs : Nat) : Int))), .int (iI (((lc : Nat) : Int))), .long (co)])), (hB, .inr (0, [.ref qL, .ref qP, .ref qE, .ref qF, .int (iI (((n : Nat) : Int)))])), ce_i qP cI 4 (nZ (pl)), ce_i qE cI 4 (nZ (uN ea k.toNat (pl k.toNat % 10 + d.toNat)))] H := hP
      have hD : va_D A [(hX, .inr (4, [.int (iI (((T : Nat) : Int))), .int (iI (((dd : Nat) : Int))), .ref hB, .ref hR, .ref hQ, .ref hF, .ref hC, .int (iI (((no : Nat) : Int))), .int (iI (((sh : Nat) : Int))), .int (iI (((cs : Nat) : Int))), .int (iI (((lc : Nat) : Int))), .long (co)])), (hB, .inr (0, [.ref qL, .ref qP, .ref qE, .ref qF, .int (iI (((n : Nat) : Int)))])), ce_i qP cI 4 (nZ (pl)), ce_i qE cI 4 (nZ (uN ea k.toNat (pl k.toNat % 10 + d.toNat)))] := hD
      refine lv_iconst (v := iI (((1 : Nat) : Int))) hx hb dX4_late_43 (by decide +kernel) ?_
      exact hret _ _ _ _ _ _ dX4_late_44 (Or.inr rfl) ⟨_, rfl, (by first | rw [if_neg (by omega)]; rfl | rw [if_pos (by omega)]; rfl)⟩ hP hD hS
    · refine lv_iconst (v := iI (((0 : Nat) : Int))) hx hb dX4_late_18 (by decide +kernel) ?_
      exact hret _ _ _ _ _ _ dX4_late_19 (Or.inl rfl) ⟨_, rfl, (by first | rw [if_neg (by omega)]; rfl | rw [if_pos (by omega)]; rfl)⟩ hP hD hS

set_option maxHeartbeats 4000000 in
set_option maxRecDepth 100000 in
theorem k_X4_tankOf (l : Launch) (D : va_G) (cI cZ : ClassId) (sz : Nat) (hX : Nat) (T : Nat) (dd : Nat) (hB : Nat) (hR : Nat) (hQ : Nat) (hF : Nat) (hC : Nat) (no : Nat) (sh : Nat) (cs : Nat) (lc : Nat) (co : Int64) (qL : Nat) (qP : Nat) (qE : Nat) (qF : Nat) (n : Nat) (pl : Nat → Nat) (k : Int) (hn : n ≤ 4) (hpl : ∀ j, pl j < 30) (hk : -2147483648 ≤ k ∧ k < 2147483648) : Ci l yX4_tankOf wsX4_tankOf (rmD 1) D vwCl [(cI, .int), (cZ, .boolean)] [.ref hX, .int (iI (k))] [(hX, .inr (4, [.int (iI (((T : Nat) : Int))), .int (iI (((dd : Nat) : Int))), .ref hB, .ref hR, .ref hQ, .ref hF, .ref hC, .int (iI (((no : Nat) : Int))), .int (iI (((sh : Nat) : Int))), .int (iI (((cs : Nat) : Int))), .int (iI (((lc : Nat) : Int))), .long (co)])), (hB, .inr (0, [.ref qL, .ref qP, .ref qE, .ref qF, .int (iI (((n : Nat) : Int)))])), ce_i qP cI 4 (nZ (pl))] sz (fun z w => w = [(hX, .inr (4, [.int (iI (((T : Nat) : Int))), .int (iI (((dd : Nat) : Int))), .ref hB, .ref hR, .ref hQ, .ref hF, .ref hC, .int (iI (((no : Nat) : Int))), .int (iI (((sh : Nat) : Int))), .int (iI (((cs : Nat) : Int))), .int (iI (((lc : Nat) : Int))), .long (co)])), (hB, .inr (0, [.ref qL, .ref qP, .ref qE, .ref qF, .int (iI (((n : Nat) : Int)))])), ce_i qP cI 4 (nZ (pl))] ∧ z = (if 0 ≤ k ∧ k < ((n : Nat) : Int) then ((pl k.toNat / 10 : Nat) : Int) else -1)) 0 0 := by
  refine Ci_of (cc := cX4_tankOf) (nL := 2) (by decide) rfl (Nat.le_of_ble_eq_true rfl) ?_
  intro p e s m below meth c A Q hsz C hK hN hA hP hD hS hret ls hl
  obtain ⟨hx, hb, hml, hown, hts⟩ := id C
  have hown : s.vm.findClass RX4 = some m.cls := hown
  have hl : lv_has ls 2 [(0, .ref hX), (1, .int (iI (k)))] := hl
  have in_X4 : ∀ w ∈ u_ws RX4 TX4 12, w ∈ wsX4_tankOf := fun w h => List.mem_cons_of_mem _ (inX4 w h)
  have in_X0 : ∀ w ∈ u_ws RX0 TX0 5, w ∈ wsX4_tankOf := fun w h => List.mem_cons_of_mem _ (inX0 w h)
  refine lv_aload_n hx hb dX4_tankOf_0 rfl (lv_at hl 0 rfl) ?_
  refine va_get (D := D) (ci := 4) (v := .ref hB) (C := RX4) (T := TX4) (N := 12) hx hb hts in_X4 hown hK hP 0 rfl rfl 2 (by decide) (hts _ (List.mem_cons_of_mem _ tf_X4_12)) (fun _ h9 => h9) rfl dX4_tankOf_1 ?_
  refine lv_iload_n hx hb dX4_tankOf_4 rfl (lv_at hl 1 rfl) ?_
  have hPc := hP.sub (ws' := [(hB, .inr (0, [.ref qL, .ref qP, .ref qE, .ref qF, .int (iI (((n : Nat) : Int)))]))]) [1] rfl
  have hDc := hD.sub (ws' := [(hB, .inr (0, [.ref qL, .ref qP, .ref qE, .ref qF, .int (iI (((n : Nat) : Int)))]))]) [1] (by decide) rfl
  refine rz_calliR (va_runV (As := [.int (iI (k))]) (rest := []) ⟨hx, hb, hml, hown, hts⟩ (k_X0_has l D cI cZ s.heap.size hB qL qP qE qF n k (by omega) (by omega)) (cwV 1 hts (gG (g_V tm_X4_81 ti_X0_has tse_X0_has tin_X0 cmX0_has)) rfl rfl rfl (by decide +kernel) ⟨Nat.le_of_ble_eq_true rfl, Nat.le_of_ble_eq_true rfl⟩) ⟨cP_blind, va_recv hK hPc (ci := 0) (q0 := 0) rfl rfl, cP_pre hPc hK hN hDc⟩ rfl rfl hl.1 rfl (lv_room (Nat.le_of_ble_eq_true rfl)) dX4_tankOf_5 ⟨Nat.le_refl _, Nat.le_refl _⟩) hP hD hS hA [1] rfl (fun z1 H locs hp hP hS => ?_)
  subst hp
  refine rz_beqD (P := (0 ≤ k ∧ k < ((n : Nat) : Int))) (tgt := 26) hx hb dX4_tankOf_8 (by decide) (fun c2 => ?_) (fun c2 => ?_)
  · refine lv_iconst (v := iI ((-1 : Int))) hx hb dX4_tankOf_26 (by decide +kernel) ?_
    exact hret _ _ _ _ _ _ dX4_tankOf_27 ⟨rfl, (by first | rw [if_pos (by omega)] | rw [if_neg (by omega)])⟩ hP hD hS
  · refine lv_aload_n hx hb dX4_tankOf_11 rfl (lv_at hl 0 rfl) ?_
    refine va_get (D := D) (ci := 4) (v := .ref hB) (C := RX4) (T := TX4) (N := 12) hx hb hts in_X4 hown hK hP 0 rfl rfl 2 (by decide) (hts _ (List.mem_cons_of_mem _ tf_X4_12)) (fun _ h9 => h9) rfl dX4_tankOf_12 ?_
    refine va_get (D := D) (ci := 0) (v := .ref qP) (C := RX0) (T := TX0) (N := 5) hx hb hts in_X0 hown hK hP 1 rfl rfl 1 (by decide) (hts _ (List.mem_cons_of_mem _ tf_X4_104)) (fun _ h9 => h9) rfl dX4_tankOf_15 ?_
    refine lv_iload_n hx hb dX4_tankOf_18 rfl (lv_at hl 1 rfl) ?_
    refine rz_as (y := ((k.toNat : Nat) : Int)) (by omega) ?_
    refine rn_aldM hx hb hK hP 2 0 rfl rfl (by omega) (by omega) dX4_tankOf_19 ?_
    have hPc := hP.sub (ws' := []) [] rfl
    have hDc := hD.sub (ws' := []) [] (by decide) rfl
    refine rz_calliR (va_runS (As := [.int (iI (((pl k.toNat : Nat) : Int)))]) (rest := []) ⟨hx, hb, hml, hown, hts⟩ (k_X4_tankOfPlace l D cI cZ H.size (pl k.toNat) (by have := hpl k.toNat; omega)) (va_cwS 1 hts (gG (g_S tm_X4_137 ts_X4_tankOfPlace tin_X4 cmX4_tankOfPlace)) rfl rfl rfl (by decide +kernel) ⟨Nat.le_of_ble_eq_true rfl, Nat.le_of_ble_eq_true rfl⟩) ⟨cP_blind, cP_pre hPc hK hN hDc⟩ rfl rfl hl.1 rfl (lv_room (Nat.le_of_ble_eq_true rfl)) dX4_tankOf_20 ⟨Nat.le_refl _, Nat.le_refl _⟩) hP hD hS hA [] rfl (fun z3 H locs hp hP hS => ?_)
    subst hp
    refine lv_goto (tgt := 27) hx hb dX4_tankOf_23 (by decide) ?_
    exact hret _ _ _ _ _ _ dX4_tankOf_27 ⟨rfl, (by first | rw [if_pos (by omega)] | rw [if_neg (by omega)])⟩ hP hD hS

set_option maxHeartbeats 4000000 in
set_option maxRecDepth 100000 in
theorem k_X4_start (l : Launch) (D : va_G) (cI cZ : ClassId) (sz : Nat) (hX : Nat) (T : Nat) (dd : Nat) (hB : Nat) (hR : Nat) (hQ : Nat) (hF : Nat) (hC : Nat) (no : Nat) (sh : Nat) (cs : Nat) (lc : Nat) (co : Int64) (qL : Nat) (qP : Nat) (qE : Nat) (qF : Nat) (n : Nat) (pl : Nat → Nat) (k : Int) (hn : n ≤ 4) (hpl : ∀ j, pl j < 30) (hk : -2147483648 ≤ k ∧ k < 2147483648) : Ci l yX4_start wsX4_start (rmD 1) D vwCl [(cI, .int), (cZ, .boolean)] [.ref hX, .int (iI (k))] [(hX, .inr (4, [.int (iI (((T : Nat) : Int))), .int (iI (((dd : Nat) : Int))), .ref hB, .ref hR, .ref hQ, .ref hF, .ref hC, .int (iI (((no : Nat) : Int))), .int (iI (((sh : Nat) : Int))), .int (iI (((cs : Nat) : Int))), .int (iI (((lc : Nat) : Int))), .long (co)])), (hB, .inr (0, [.ref qL, .ref qP, .ref qE, .ref qF, .int (iI (((n : Nat) : Int)))])), ce_i qP cI 4 (nZ (pl))] sz (fun z w => w = [(hX, .inr (4, [.int (iI (((T : Nat) : Int))), .int (iI (((dd : Nat) : Int))), .ref hB, .ref hR, .ref hQ, .ref hF, .ref hC, .int (iI (((no : Nat) : Int))), .int (iI (((sh : Nat) : Int))), .int (iI (((cs : Nat) : Int))), .int (iI (((lc : Nat) : Int))), .long (co)])), (hB, .inr (0, [.ref qL, .ref qP, .ref qE, .ref qF, .int (iI (((n : Nat) : Int)))])), ce_i qP cI 4 (nZ (pl))] ∧ z = (if 0 ≤ k ∧ k < ((n : Nat) : Int) then ((pl k.toNat % 10 : Nat) : Int) else -1)) 0 0 := by
  refine Ci_of (cc := cX4_start) (nL := 2) (by decide) rfl (Nat.le_of_ble_eq_true rfl) ?_
  intro p e s m below meth c A Q hsz C hK hN hA hP hD hS hret ls hl
  obtain ⟨hx, hb, hml, hown, hts⟩ := id C
  have hown : s.vm.findClass RX4 = some m.cls := hown
  have hl : lv_has ls 2 [(0, .ref hX), (1, .int (iI (k)))] := hl
  have in_X4 : ∀ w ∈ u_ws RX4 TX4 12, w ∈ wsX4_start := fun w h => List.mem_cons_of_mem _ (inX4 w h)
  have in_X0 : ∀ w ∈ u_ws RX0 TX0 5, w ∈ wsX4_start := fun w h => List.mem_cons_of_mem _ (inX0 w h)
  refine lv_aload_n hx hb dX4_start_0 rfl (lv_at hl 0 rfl) ?_
  refine va_get (D := D) (ci := 4) (v := .ref hB) (C := RX4) (T := TX4) (N := 12) hx hb hts in_X4 hown hK hP 0 rfl rfl 2 (by decide) (hts _ (List.mem_cons_of_mem _ tf_X4_12)) (fun _ h9 => h9) rfl dX4_start_1 ?_
  refine lv_iload_n hx hb dX4_start_4 rfl (lv_at hl 1 rfl) ?_
  have hPc := hP.sub (ws' := [(hB, .inr (0, [.ref qL, .ref qP, .ref qE, .ref qF, .int (iI (((n : Nat) : Int)))]))]) [1] rfl
  have hDc := hD.sub (ws' := [(hB, .inr (0, [.ref qL, .ref qP, .ref qE, .ref qF, .int (iI (((n : Nat) : Int)))]))]) [1] (by decide) rfl
  refine rz_calliR (va_runV (As := [.int (iI (k))]) (rest := []) ⟨hx, hb, hml, hown, hts⟩ (k_X0_has l D cI cZ s.heap.size hB qL qP qE qF n k (by omega) (by omega)) (cwV 1 hts (gG (g_V tm_X4_81 ti_X0_has tse_X0_has tin_X0 cmX0_has)) rfl rfl rfl (by decide +kernel) ⟨Nat.le_of_ble_eq_true rfl, Nat.le_of_ble_eq_true rfl⟩) ⟨cP_blind, va_recv hK hPc (ci := 0) (q0 := 0) rfl rfl, cP_pre hPc hK hN hDc⟩ rfl rfl hl.1 rfl (lv_room (Nat.le_of_ble_eq_true rfl)) dX4_start_5 ⟨Nat.le_refl _, Nat.le_refl _⟩) hP hD hS hA [1] rfl (fun z1 H locs hp hP hS => ?_)
  subst hp
  refine rz_beqD (P := (0 ≤ k ∧ k < ((n : Nat) : Int))) (tgt := 26) hx hb dX4_start_8 (by decide) (fun c2 => ?_) (fun c2 => ?_)
  · refine lv_iconst (v := iI ((-1 : Int))) hx hb dX4_start_26 (by decide +kernel) ?_
    exact hret _ _ _ _ _ _ dX4_start_27 ⟨rfl, (by first | rw [if_pos (by omega)] | rw [if_neg (by omega)])⟩ hP hD hS
  · refine lv_aload_n hx hb dX4_start_11 rfl (lv_at hl 0 rfl) ?_
    refine va_get (D := D) (ci := 4) (v := .ref hB) (C := RX4) (T := TX4) (N := 12) hx hb hts in_X4 hown hK hP 0 rfl rfl 2 (by decide) (hts _ (List.mem_cons_of_mem _ tf_X4_12)) (fun _ h9 => h9) rfl dX4_start_12 ?_
    refine va_get (D := D) (ci := 0) (v := .ref qP) (C := RX0) (T := TX0) (N := 5) hx hb hts in_X0 hown hK hP 1 rfl rfl 1 (by decide) (hts _ (List.mem_cons_of_mem _ tf_X4_104)) (fun _ h9 => h9) rfl dX4_start_15 ?_
    refine lv_iload_n hx hb dX4_start_18 rfl (lv_at hl 1 rfl) ?_
    refine rz_as (y := ((k.toNat : Nat) : Int)) (by omega) ?_
    refine rn_aldM hx hb hK hP 2 0 rfl rfl (by omega) (by omega) dX4_start_19 ?_
    have hPc := hP.sub (ws' := []) [] rfl
    have hDc := hD.sub (ws' := []) [] (by decide) rfl
    refine rz_calliR (va_runS (As := [.int (iI (((pl k.toNat : Nat) : Int)))]) (rest := []) ⟨hx, hb, hml, hown, hts⟩ (k_X4_startOfPlace l D cI cZ H.size (pl k.toNat) (by have := hpl k.toNat; omega)) (va_cwS 1 hts (gG (g_S tm_X4_107 ts_X4_startOfPlace tin_X4 cmX4_startOfPlace)) rfl rfl rfl (by decide +kernel) ⟨Nat.le_of_ble_eq_true rfl, Nat.le_of_ble_eq_true rfl⟩) ⟨cP_blind, cP_pre hPc hK hN hDc⟩ rfl rfl hl.1 rfl (lv_room (Nat.le_of_ble_eq_true rfl)) dX4_start_20 ⟨Nat.le_refl _, Nat.le_refl _⟩) hP hD hS hA [] rfl (fun z3 H locs hp hP hS => ?_)
    subst hp
    refine lv_goto (tgt := 27) hx hb dX4_start_23 (by decide) ?_
    exact hret _ _ _ _ _ _ dX4_start_27 ⟨rfl, (by first | rw [if_pos (by omega)] | rw [if_neg (by omega)])⟩ hP hD hS

set_option maxHeartbeats 4000000 in
set_option maxRecDepth 100000 in
theorem k_X4_changed (l : Launch) (D : va_G) (cI cZ : ClassId) (sz : Nat) (hX : Nat) (T : Nat) (dd : Nat) (hB : Nat) (hR : Nat) (hQ : Nat) (hF : Nat) (hC : Nat) (no : Nat) (sh : Nat) (cs : Nat) (lc : Nat) (co : Int64) (k : Int) (hcs : cs < 16) (hk : -2147483648 ≤ k ∧ k < 2147483648) : Ci l yX4_changed wsX4_changed (rmD 1) D vwCl [(cI, .int), (cZ, .boolean)] [.ref hX, .int (iI (k))] [(hX, .inr (4, [.int (iI (((T : Nat) : Int))), .int (iI (((dd : Nat) : Int))), .ref hB, .ref hR, .ref hQ, .ref hF, .ref hC, .int (iI (((no : Nat) : Int))), .int (iI (((sh : Nat) : Int))), .int (iI (((cs : Nat) : Int))), .int (iI (((lc : Nat) : Int))), .long (co)]))] sz (fun z w => w = [(hX, .inr (4, [.int (iI (((T : Nat) : Int))), .int (iI (((dd : Nat) : Int))), .ref hB, .ref hR, .ref hQ, .ref hF, .ref hC, .int (iI (((no : Nat) : Int))), .int (iI (((sh : Nat) : Int))), .int (iI (((cs : Nat) : Int))), .int (iI (((lc : Nat) : Int))), .long (co)]))] ∧ z = memF (fun j => Nat.testBit cs j) k 4 0 0) 0 0 := by
  refine Ci_of (cc := cX4_changed) (nL := 2) (by decide) rfl (Nat.le_of_ble_eq_true rfl) ?_
  intro p e s m below meth c A Q hsz C hK hN hA hP hD hS hret ls hl
  obtain ⟨hx, hb, hml, hown, hts⟩ := id C
  have hown : s.vm.findClass RX4 = some m.cls := hown
  have hl : lv_has ls 2 [(0, .ref hX), (1, .int (iI (k)))] := hl
  have in_X4 : ∀ w ∈ u_ws RX4 TX4 12, w ∈ wsX4_changed := fun w h => List.mem_cons_of_mem _ (inX4 w h)
  refine lv_aload_n hx hb dX4_changed_0 rfl (lv_at hl 0 rfl) ?_
  refine va_get (D := D) (ci := 4) (v := .int (iI (((cs : Nat) : Int)))) (C := RX4) (T := TX4) (N := 12) hx hb hts in_X4 hown hK hP 0 rfl rfl 9 (by decide) (hts _ (List.mem_cons_of_mem _ tf_X4_140)) (fun _ h9 => h9) rfl dX4_changed_1 ?_
  refine lv_iload_n hx hb dX4_changed_4 rfl (lv_at hl 1 rfl) ?_
  have hPc := hP.sub (ws' := []) [] rfl
  have hDc := hD.sub (ws' := []) [] (by decide) rfl
  refine rz_calliR (va_runS (As := [.int (iI (((cs : Nat) : Int))), .int (iI (k))]) (rest := []) ⟨hx, hb, hml, hown, hts⟩ (k_X4_memberAt l D cI cZ s.heap.size cs k (by omega) (by omega)) (va_cwS 2 hts (gG (g_S tm_X4_143 ts_X4_memberAt tin_X4 cmX4_memberAt)) rfl rfl rfl (by decide +kernel) ⟨Nat.le_of_ble_eq_true rfl, Nat.le_of_ble_eq_true rfl⟩) ⟨cP_blind, cP_pre hPc hK hN hDc⟩ rfl rfl hl.1 rfl (lv_room (Nat.le_of_ble_eq_true rfl)) dX4_changed_5 ⟨Nat.le_refl _, Nat.le_refl _⟩) hP hD hS hA [] rfl (fun z1 H locs hp hP hS => ?_)
  subst hp
  exact hret _ _ _ _ _ _ dX4_changed_8 ⟨rfl, rfl⟩ hP hD hS

set_option maxHeartbeats 4000000 in
set_option maxRecDepth 100000 in
theorem k_X4_bound (l : Launch) (D : va_G) (cI cZ : ClassId) (sz : Nat) (hX : Nat) (T : Nat) (dd : Nat) (hB : Nat) (hR : Nat) (hQ : Nat) (hF : Nat) (hC : Nat) (no : Nat) (sh : Nat) (cs : Nat) (lc : Nat) (co : Int64)  : Ci l yX4_bound wsX4_bound (rmD 0) D vwCl [(cI, .int), (cZ, .boolean)] [.ref hX] [(hX, .inr (4, [.int (iI (((T : Nat) : Int))), .int (iI (((dd : Nat) : Int))), .ref hB, .ref hR, .ref hQ, .ref hF, .ref hC, .int (iI (((no : Nat) : Int))), .int (iI (((sh : Nat) : Int))), .int (iI (((cs : Nat) : Int))), .int (iI (((lc : Nat) : Int))), .long (co)]))] sz (fun z w => w = [(hX, .inr (4, [.int (iI (((T : Nat) : Int))), .int (iI (((dd : Nat) : Int))), .ref hB, .ref hR, .ref hQ, .ref hF, .ref hC, .int (iI (((no : Nat) : Int))), .int (iI (((sh : Nat) : Int))), .int (iI (((cs : Nat) : Int))), .int (iI (((lc : Nat) : Int))), .long (co)]))] ∧ z = ((lc : Nat) : Int)) 0 0 := by
  refine Ci_of (cc := cX4_bound) (nL := 1) (by decide) rfl (Nat.le_of_ble_eq_true rfl) ?_
  intro p e s m below meth c A Q hsz C hK hN hA hP hD hS hret ls hl
  obtain ⟨hx, hb, hml, hown, hts⟩ := id C
  have hown : s.vm.findClass RX4 = some m.cls := hown
  have hl : lv_has ls 1 [(0, .ref hX)] := hl
  have in_X4 : ∀ w ∈ u_ws RX4 TX4 12, w ∈ wsX4_bound := fun w h => List.mem_cons_of_mem _ (inX4 w h)
  refine lv_aload_n hx hb dX4_bound_0 rfl (lv_at hl 0 rfl) ?_
  refine va_get (D := D) (ci := 4) (v := .int (iI (((lc : Nat) : Int)))) (C := RX4) (T := TX4) (N := 12) hx hb hts in_X4 hown hK hP 0 rfl rfl 10 (by decide) (hts _ (List.mem_cons_of_mem _ tf_X4_124)) (fun _ h9 => h9) rfl dX4_bound_1 ?_
  exact hret _ _ _ _ _ _ dX4_bound_4 ⟨rfl, rfl⟩ hP hD hS

set_option maxHeartbeats 4000000 in
set_option maxRecDepth 100000 in
theorem k_X4_cost (l : Launch) (D : va_G) (cI cZ : ClassId) (sz : Nat) (hX : Nat) (T : Nat) (dd : Nat) (hB : Nat) (hR : Nat) (hQ : Nat) (hF : Nat) (hC : Nat) (no : Nat) (sh : Nat) (cs : Nat) (lc : Nat) (co : Int64)  : Cl l yX4_cost wsX4_cost (rmD 0) D vwCl [(cI, .int), (cZ, .boolean)] [.ref hX] [(hX, .inr (4, [.int (iI (((T : Nat) : Int))), .int (iI (((dd : Nat) : Int))), .ref hB, .ref hR, .ref hQ, .ref hF, .ref hC, .int (iI (((no : Nat) : Int))), .int (iI (((sh : Nat) : Int))), .int (iI (((cs : Nat) : Int))), .int (iI (((lc : Nat) : Int))), .long (co)]))] sz (fun z w => w = [(hX, .inr (4, [.int (iI (((T : Nat) : Int))), .int (iI (((dd : Nat) : Int))), .ref hB, .ref hR, .ref hQ, .ref hF, .ref hC, .int (iI (((no : Nat) : Int))), .int (iI (((sh : Nat) : Int))), .int (iI (((cs : Nat) : Int))), .int (iI (((lc : Nat) : Int))), .long (co)]))] ∧ z = co) 0 0 := by
  refine Cl_of (cc := cX4_cost) (nL := 1) (by decide) rfl (Nat.le_of_ble_eq_true rfl) ?_
  intro p e s m below meth c A Q hsz C hK hN hA hP hD hS hret ls hl
  obtain ⟨hx, hb, hml, hown, hts⟩ := id C
  have hown : s.vm.findClass RX4 = some m.cls := hown
  have hl : lv_has ls 1 [(0, .ref hX)] := hl
  have in_X4 : ∀ w ∈ u_ws RX4 TX4 12, w ∈ wsX4_cost := fun w h => List.mem_cons_of_mem _ (inX4 w h)
  refine lv_aload_n hx hb dX4_cost_0 rfl (lv_at hl 0 rfl) ?_
  refine va_get (D := D) (ci := 4) (v := .long (co)) (C := RX4) (T := TX4) (N := 12) hx hb hts in_X4 hown hK hP 0 rfl rfl 11 (by decide) (hts _ (List.mem_cons_of_mem _ tf_X4_163)) (fun _ h9 => h9) rfl dX4_cost_1 ?_
  exact hret _ _ _ _ _ _ dX4_cost_4 ⟨rfl, rfl⟩ hP hD hS

set_option maxHeartbeats 4000000 in
set_option maxRecDepth 100000 in
theorem k_X4_undo (l : Launch) (D : va_G) (cI cZ : ClassId) (sz : Nat) (hX : Nat) (T : Nat) (dd : Nat) (hB : Nat) (hR : Nat) (hQ : Nat) (hF : Nat) (hC : Nat) (no : Nat) (sh : Nat) (cs : Nat) (lc : Nat) (co : Int64) (qL : Nat) (qP : Nat) (qE : Nat) (qF : Nat) (n : Nat) (pl : Nat → Nat) (qS : Nat) (qQ : Nat) (cn : Nat) (sz_ : Nat → Nat) (sp : Nat → Nat) (hc : cn ≤ 16) (hz : ∀ j, sz_ j ≤ 4) : Ci l yX4_undo wsX4_undo (rmD 3) D vwCl [(cI, .int), (cZ, .boolean)] [.ref hX] [(hX, .inr (4, [.int (iI (((T : Nat) : Int))), .int (iI (((dd : Nat) : Int))), .ref hB, .ref hR, .ref hQ, .ref hF, .ref hC, .int (iI (((no : Nat) : Int))), .int (iI (((sh : Nat) : Int))), .int (iI (((cs : Nat) : Int))), .int (iI (((lc : Nat) : Int))), .long (co)])), (hF, .inr (3, [.int (iI (((16 : Nat) : Int))), .ref qS, .ref qQ, .int (iI (((cn : Nat) : Int)))])), ce_i qS cI 16 (nZ (sz_)), ce_i qQ cI 64 (nZ (sp)), (hB, .inr (0, [.ref qL, .ref qP, .ref qE, .ref qF, .int (iI (((n : Nat) : Int)))])), ce_i qP cI 4 (nZ (pl))] sz (fun z w => ∃ cn2 : Nat, ∃ pl2 : Nat → Nat, w = [(hX, .inr (4, [.int (iI (((T : Nat) : Int))), .int (iI (((dd : Nat) : Int))), .ref hB, .ref hR, .ref hQ, .ref hF, .ref hC, .int (iI (((no : Nat) : Int))), .int (iI (((sh : Nat) : Int))), .int (iI (((cs : Nat) : Int))), .int (iI (((lc : Nat) : Int))), .long (co)])), (hF, .inr (3, [.int (iI (((16 : Nat) : Int))), .ref qS, .ref qQ, .int (iI (((cn2 : Nat) : Int)))])), ce_i qS cI 16 (nZ (sz_)), ce_i qQ cI 64 (nZ (sp)), (hB, .inr (0, [.ref qL, .ref qP, .ref qE, .ref qF, .int (iI (((n : Nat) : Int)))])), ce_i qP cI 4 (nZ (pl2))] ∧ (cn2, pl2, z) = (if 0 < cn then (cn - 1, va_cpy sp pl ((cn - 1) * 4) 0 (sz_ (cn - 1)), 1) else (cn, pl, 0))) 0 0 := by
  refine Cz_of (cc := cX4_undo) (nL := 1) (by decide) rfl (Nat.le_of_ble_eq_true rfl) ?_
  intro p e s m below meth c A Q hsz C hK hN hA hP hD hS hret ls hl
  obtain ⟨hx, hb, hml, hown, hts⟩ := id C
  have hown : s.vm.findClass RX4 = some m.cls := hown
  have hl : lv_has ls 1 [(0, .ref hX)] := hl
  have in_X4 : ∀ w ∈ u_ws RX4 TX4 12, w ∈ wsX4_undo := fun w h => List.mem_cons_of_mem _ (inX4 w h)
  refine lv_aload_n hx hb dX4_undo_0 rfl (lv_at hl 0 rfl) ?_
  refine va_get (D := D) (ci := 4) (v := .ref hF) (C := RX4) (T := TX4) (N := 12) hx hb hts in_X4 hown hK hP 0 rfl rfl 5 (by decide) (hts _ (List.mem_cons_of_mem _ tf_X4_35)) (fun _ h9 => h9) rfl dX4_undo_1 ?_
  have hPc := hP.sub (ws' := [(hF, .inr (3, [.int (iI (((16 : Nat) : Int))), .ref qS, .ref qQ, .int (iI (((cn : Nat) : Int)))]))]) [1] rfl
  have hDc := hD.sub (ws' := [(hF, .inr (3, [.int (iI (((16 : Nat) : Int))), .ref qS, .ref qQ, .int (iI (((cn : Nat) : Int)))]))]) [1] (by decide) rfl
  refine rz_calliR (va_runV (As := []) (rest := []) ⟨hx, hb, hml, hown, hts⟩ (k_X3_isEmpty l D cI cZ s.heap.size hF 16 qS qQ cn (by omega)) (cwV 0 hts (gG (g_V tm_X4_146 ti_X3_isEmpty tse_X3_isEmpty tin_X3 cmX3_isEmpty)) rfl rfl rfl (by decide +kernel) ⟨Nat.le_of_ble_eq_true rfl, Nat.le_of_ble_eq_true rfl⟩) ⟨cP_blind, va_recv hK hPc (ci := 3) (q0 := 0) rfl rfl, cP_pre hPc hK hN hDc⟩ rfl rfl hl.1 rfl (lv_room (Nat.le_of_ble_eq_true rfl)) dX4_undo_4 ⟨Nat.le_refl _, Nat.le_refl _⟩) hP hD hS hA [1] rfl (fun z1 H locs hp hP hS => ?_)
  subst hp
  refine rz_beqD (P := (cn = 0)) (tgt := 12) hx hb dX4_undo_7 (by decide) (fun c2 => ?_) (fun c2 => ?_)
  · refine lv_aload_n hx hb dX4_undo_12 rfl (lv_at hl 0 rfl) ?_
    refine va_get (D := D) (ci := 4) (v := .ref hF) (C := RX4) (T := TX4) (N := 12) hx hb hts in_X4 hown hK hP 0 rfl rfl 5 (by decide) (hts _ (List.mem_cons_of_mem _ tf_X4_35)) (fun _ h9 => h9) rfl dX4_undo_13 ?_
    refine lv_aload_n hx hb dX4_undo_16 rfl (lv_at hl 0 rfl) ?_
    refine va_get (D := D) (ci := 4) (v := .ref hB) (C := RX4) (T := TX4) (N := 12) hx hb hts in_X4 hown hK hP 0 rfl rfl 2 (by decide) (hts _ (List.mem_cons_of_mem _ tf_X4_12)) (fun _ h9 => h9) rfl dX4_undo_17 ?_
    have hPc := hP.sub (ws' := [(hF, .inr (3, [.int (iI (((16 : Nat) : Int))), .ref qS, .ref qQ, .int (iI (((cn : Nat) : Int)))])), ce_i qS cI 16 (nZ (sz_)), ce_i qQ cI 64 (nZ (sp)), (hB, .inr (0, [.ref qL, .ref qP, .ref qE, .ref qF, .int (iI (((n : Nat) : Int)))])), ce_i qP cI 4 (nZ (pl))]) [1, 2, 3, 4, 5] rfl
    have hDc := hD.sub (ws' := [(hF, .inr (3, [.int (iI (((16 : Nat) : Int))), .ref qS, .ref qQ, .int (iI (((cn : Nat) : Int)))])), ce_i qS cI 16 (nZ (sz_)), ce_i qQ cI 64 (nZ (sp)), (hB, .inr (0, [.ref qL, .ref qP, .ref qE, .ref qF, .int (iI (((n : Nat) : Int)))])), ce_i qP cI 4 (nZ (pl))]) [1, 2, 3, 4, 5] (by decide) rfl
    refine rz_callv (va_runV (As := [.ref hB]) (rest := []) ⟨hx, hb, hml, hown, hts⟩ (k_X3_takeNewestInto l D cI cZ H.size hF 16 qS qQ cn 64 sz_ sp hB qL qP qE qF n pl (by omega) (by omega) (by omega) (hz _)) (cwV 1 hts (gG (g_V tm_X4_149 ti_X3_takeNewestInto tse_X3_takeNewestInto tin_X3 cmX3_takeNewestInto)) rfl rfl rfl (by decide +kernel) ⟨Nat.le_of_ble_eq_true rfl, Nat.le_of_ble_eq_true rfl⟩) ⟨cP_blind, va_recv hK hPc (ci := 3) (q0 := 0) rfl rfl, cP_pre hPc hK hN hDc⟩ rfl rfl hl.1 rfl (lv_room (Nat.le_of_ble_eq_true rfl)) dX4_undo_20 ⟨Nat.le_refl _, Nat.le_refl _⟩) hP hD hS hA [1, 2, 3, 4, 5] [0] rfl (wr := [(hX, .inr (4, [.int (iI (((T : Nat) : Int))), .int (iI (((dd : Nat) : Int))), .ref hB, .ref hR, .ref hQ, .ref hF, .ref hC, .int (iI (((no : Nat) : Int))), .int (iI (((sh : Nat) : Int))), .int (iI (((cs : Nat) : Int))), .int (iI (((lc : Nat) : Int))), .long (co)]))]) rfl (by decide) (by decide) (fun w H locs hp hP hD hS => ?_)
    subst hp
    have hP : va_P D vwCl [(hX, .inr (4, [.int (iI (((T : Nat) : Int))), .int (iI (((dd : Nat) : Int))), .ref hB, .ref hR, .ref hQ, .ref hF, .ref hC, .int (iI (((no : Nat) : Int))), .int (iI (((sh : Nat) : Int))), .int (iI (((cs : Nat) : Int))), .int (iI (((lc : Nat) : Int))), .long (co)])), (hF, .inr (3, [.int (iI (((16 : Nat) : Int))), .ref qS, .ref qQ, .int (iI (((cn - 1 : Nat) : Int)))])), ce_i qS cI 16 (nZ (sz_)), ce_i qQ cI 64 (nZ (sp)), (hB, .inr (0, [.ref qL, .ref qP, .ref qE, .ref qF, .int (iI (((n : Nat) : Int)))])), ce_i qP cI 4 (nZ (va_cpy sp pl ((cn - 1) * 4) 0 (sz_ (cn - 1))))] H := hP.sub (ws' := [(hX, .inr (4, [.int (iI (((T : Nat) : Int))), .int (iI (((dd : Nat) : Int))), .ref hB, .ref hR, .ref hQ, .ref hF, .ref hC, .int (iI (((no : Nat) : Int))), .int (iI (((sh : Nat) : Int))), .int (iI (((cs : Nat) : Int))), .int (iI (((lc : Nat) : Int))), .long (co)])), (hF, .inr (3, [.int (iI (((16 : Nat) : Int))), .ref qS, .ref qQ, .int (iI (((cn - 1 : Nat) : Int)))])), ce_i qS cI 16 (nZ (sz_)), ce_i qQ cI 64 (nZ (sp)), (hB, .inr (0, [.ref qL, .ref qP, .ref qE, .ref qF, .int (iI (((n : Nat) : Int)))])), ce_i qP cI 4 (nZ (va_cpy sp pl ((cn - 1) * 4) 0 (sz_ (cn - 1))))]) [0, 1, 2, 3, 4, 5] rfl
    have hD : va_D A [(hX, .inr (4, [.int (iI (((T : Nat) : Int))), .int (iI (((dd : Nat) : Int))), .ref hB, .ref hR, .ref hQ, .ref hF, .ref hC, .int (iI (((no : Nat) : Int))), .int (iI (((sh : Nat) : Int))), .int (iI (((cs : Nat) : Int))), .int (iI (((lc : Nat) : Int))), .long (co)])), (hF, .inr (3, [.int (iI (((16 : Nat) : Int))), .ref qS, .ref qQ, .int (iI (((cn - 1 : Nat) : Int)))])), ce_i qS cI 16 (nZ (sz_)), ce_i qQ cI 64 (nZ (sp)), (hB, .inr (0, [.ref qL, .ref qP, .ref qE, .ref qF, .int (iI (((n : Nat) : Int)))])), ce_i qP cI 4 (nZ (va_cpy sp pl ((cn - 1) * 4) 0 (sz_ (cn - 1))))] := hD.sub (ws' := [(hX, .inr (4, [.int (iI (((T : Nat) : Int))), .int (iI (((dd : Nat) : Int))), .ref hB, .ref hR, .ref hQ, .ref hF, .ref hC, .int (iI (((no : Nat) : Int))), .int (iI (((sh : Nat) : Int))), .int (iI (((cs : Nat) : Int))), .int (iI (((lc : Nat) : Int))), .long (co)])), (hF, .inr (3, [.int (iI (((16 : Nat) : Int))), .ref qS, .ref qQ, .int (iI (((cn - 1 : Nat) : Int)))])), ce_i qS cI 16 (nZ (sz_)), ce_i qQ cI 64 (nZ (sp)), (hB, .inr (0, [.ref qL, .ref qP, .ref qE, .ref qF, .int (iI (((n : Nat) : Int)))])), ce_i qP cI 4 (nZ (va_cpy sp pl ((cn - 1) * 4) 0 (sz_ (cn - 1))))]) [0, 1, 2, 3, 4, 5] (by decide) rfl
    refine lv_iconst (v := iI (((1 : Nat) : Int))) hx hb dX4_undo_23 (by decide +kernel) ?_
    exact hret _ _ _ _ _ _ dX4_undo_24 (Or.inr rfl) ⟨_, _, rfl, (by first | rw [if_neg (by omega)]; rfl | rw [if_pos (by omega)]; rfl)⟩ hP hD hS
  · refine lv_iconst (v := iI (((0 : Nat) : Int))) hx hb dX4_undo_10 (by decide +kernel) ?_
    exact hret _ _ _ _ _ _ dX4_undo_11 (Or.inl rfl) ⟨_, _, rfl, (by first | rw [if_neg (by omega)]; rfl | rw [if_pos (by omega)]; rfl)⟩ hP hD hS

set_option maxHeartbeats 4000000 in
set_option maxRecDepth 100000 in
theorem k_X4_copy (l : Launch) (D : va_G) (cI cZ : ClassId) (sz : Nat) (hX : Nat) (T : Nat) (dd : Nat) (hB : Nat) (hR : Nat) (hQ : Nat) (hF : Nat) (hC : Nat) (no : Nat) (sh : Nat) (cs : Nat) (lc : Nat) (co : Int64) (qL : Nat) (qP : Nat) (qE : Nat) (qF : Nat) (n : Nat) (pl : Nat → Nat) (qS : Nat) (qQ : Nat) (cn : Nat) (sz_ : Nat → Nat) (sp : Nat → Nat) (hc : cn ≤ 8) (hn : n ≤ 4) : Ci l yX4_copy wsX4_copy (rmD 3) D vwCl [(cI, .int), (cZ, .boolean)] [.ref hX] [(hX, .inr (4, [.int (iI (((T : Nat) : Int))), .int (iI (((dd : Nat) : Int))), .ref hB, .ref hR, .ref hQ, .ref hF, .ref hC, .int (iI (((no : Nat) : Int))), .int (iI (((sh : Nat) : Int))), .int (iI (((cs : Nat) : Int))), .int (iI (((lc : Nat) : Int))), .long (co)])), (hC, .inr (3, [.int (iI (((8 : Nat) : Int))), .ref qS, .ref qQ, .int (iI (((cn : Nat) : Int)))])), ce_i qS cI 8 (nZ (sz_)), ce_i qQ cI 32 (nZ (sp)), (hB, .inr (0, [.ref qL, .ref qP, .ref qE, .ref qF, .int (iI (((n : Nat) : Int)))])), ce_i qP cI 4 (nZ (pl))] sz (fun z w => ∃ cn2 : Nat, ∃ sz2 : Nat → Nat, ∃ sp2 : Nat → Nat, w = [(hX, .inr (4, [.int (iI (((T : Nat) : Int))), .int (iI (((dd : Nat) : Int))), .ref hB, .ref hR, .ref hQ, .ref hF, .ref hC, .int (iI (((no : Nat) : Int))), .int (iI (((sh : Nat) : Int))), .int (iI (((cs : Nat) : Int))), .int (iI (((lc : Nat) : Int))), .long (co)])), (hC, .inr (3, [.int (iI (((8 : Nat) : Int))), .ref qS, .ref qQ, .int (iI (((cn2 : Nat) : Int)))])), ce_i qS cI 8 (nZ (sz2)), ce_i qQ cI 32 (nZ (sp2)), (hB, .inr (0, [.ref qL, .ref qP, .ref qE, .ref qF, .int (iI (((n : Nat) : Int)))])), ce_i qP cI 4 (nZ (pl))] ∧ (cn2, sz2, sp2, z) = (if cn < 8 then (cn + 1, uN sz_ cn n, va_cpy pl sp 0 (cn * 4) n, ((cn : Nat) : Int)) else (cn, sz_, sp, -2))) 0 0 := by
  refine Ci_of (cc := cX4_copy) (nL := 1) (by decide) rfl (Nat.le_of_ble_eq_true rfl) ?_
  intro p e s m below meth c A Q hsz C hK hN hA hP hD hS hret ls hl
  obtain ⟨hx, hb, hml, hown, hts⟩ := id C
  have hown : s.vm.findClass RX4 = some m.cls := hown
  have hl : lv_has ls 1 [(0, .ref hX)] := hl
  have in_X4 : ∀ w ∈ u_ws RX4 TX4 12, w ∈ wsX4_copy := fun w h => List.mem_cons_of_mem _ (inX4 w h)
  refine lv_aload_n hx hb dX4_copy_0 rfl (lv_at hl 0 rfl) ?_
  refine va_get (D := D) (ci := 4) (v := .ref hC) (C := RX4) (T := TX4) (N := 12) hx hb hts in_X4 hown hK hP 0 rfl rfl 6 (by decide) (hts _ (List.mem_cons_of_mem _ tf_X4_39)) (fun _ h9 => h9) rfl dX4_copy_1 ?_
  have hPc := hP.sub (ws' := [(hC, .inr (3, [.int (iI (((8 : Nat) : Int))), .ref qS, .ref qQ, .int (iI (((cn : Nat) : Int)))]))]) [1] rfl
  have hDc := hD.sub (ws' := [(hC, .inr (3, [.int (iI (((8 : Nat) : Int))), .ref qS, .ref qQ, .int (iI (((cn : Nat) : Int)))]))]) [1] (by decide) rfl
  refine rz_calliR (va_runV (As := []) (rest := []) ⟨hx, hb, hml, hown, hts⟩ (k_X3_isFull l D cI cZ s.heap.size hC 8 qS qQ cn (by omega) (by omega)) (cwV 0 hts (gG (g_V tm_X4_153 ti_X3_isFull tse_X3_isFull tin_X3 cmX3_isFull)) rfl rfl rfl (by decide +kernel) ⟨Nat.le_of_ble_eq_true rfl, Nat.le_of_ble_eq_true rfl⟩) ⟨cP_blind, va_recv hK hPc (ci := 3) (q0 := 0) rfl rfl, cP_pre hPc hK hN hDc⟩ rfl rfl hl.1 rfl (lv_room (Nat.le_of_ble_eq_true rfl)) dX4_copy_4 ⟨Nat.le_refl _, Nat.le_refl _⟩) hP hD hS hA [1] rfl (fun z1 H locs hp hP hS => ?_)
  subst hp
  refine rz_beqD (P := (8 ≤ cn)) (tgt := 15) hx hb dX4_copy_7 (by decide) (fun c2 => ?_) (fun c2 => ?_)
  · refine lv_aload_n hx hb dX4_copy_15 rfl (lv_at hl 0 rfl) ?_
    refine va_get (D := D) (ci := 4) (v := .ref hC) (C := RX4) (T := TX4) (N := 12) hx hb hts in_X4 hown hK hP 0 rfl rfl 6 (by decide) (hts _ (List.mem_cons_of_mem _ tf_X4_39)) (fun _ h9 => h9) rfl dX4_copy_16 ?_
    refine lv_aload_n hx hb dX4_copy_19 rfl (lv_at hl 0 rfl) ?_
    refine va_get (D := D) (ci := 4) (v := .ref hB) (C := RX4) (T := TX4) (N := 12) hx hb hts in_X4 hown hK hP 0 rfl rfl 2 (by decide) (hts _ (List.mem_cons_of_mem _ tf_X4_12)) (fun _ h9 => h9) rfl dX4_copy_20 ?_
    have hPc := hP.sub (ws' := [(hC, .inr (3, [.int (iI (((8 : Nat) : Int))), .ref qS, .ref qQ, .int (iI (((cn : Nat) : Int)))])), ce_i qS cI 8 (nZ (sz_)), ce_i qQ cI 32 (nZ (sp)), (hB, .inr (0, [.ref qL, .ref qP, .ref qE, .ref qF, .int (iI (((n : Nat) : Int)))])), ce_i qP cI 4 (nZ (pl))]) [1, 2, 3, 4, 5] rfl
    have hDc := hD.sub (ws' := [(hC, .inr (3, [.int (iI (((8 : Nat) : Int))), .ref qS, .ref qQ, .int (iI (((cn : Nat) : Int)))])), ce_i qS cI 8 (nZ (sz_)), ce_i qQ cI 32 (nZ (sp)), (hB, .inr (0, [.ref qL, .ref qP, .ref qE, .ref qF, .int (iI (((n : Nat) : Int)))])), ce_i qP cI 4 (nZ (pl))]) [1, 2, 3, 4, 5] (by decide) rfl
    refine rz_calli (va_runV (As := [.ref hB]) (rest := []) ⟨hx, hb, hml, hown, hts⟩ (k_X3_put l D cI cZ H.size hC 8 qS qQ cn 32 sz_ sp hB qL qP qE qF n pl (by omega) (by omega) (by omega) (by omega)) (cwV 1 hts (gG (g_V tm_X4_154 ti_X3_put tse_X3_put tin_X3 cmX3_put)) rfl rfl rfl (by decide +kernel) ⟨Nat.le_of_ble_eq_true rfl, Nat.le_of_ble_eq_true rfl⟩) ⟨cP_blind, va_recv hK hPc (ci := 3) (q0 := 0) rfl rfl, cP_pre hPc hK hN hDc⟩ rfl rfl hl.1 rfl (lv_room (Nat.le_of_ble_eq_true rfl)) dX4_copy_23 ⟨Nat.le_refl _, Nat.le_refl _⟩) hP hD hS hA [1, 2, 3, 4, 5] [0] rfl (wr := [(hX, .inr (4, [.int (iI (((T : Nat) : Int))), .int (iI (((dd : Nat) : Int))), .ref hB, .ref hR, .ref hQ, .ref hF, .ref hC, .int (iI (((no : Nat) : Int))), .int (iI (((sh : Nat) : Int))), .int (iI (((cs : Nat) : Int))), .int (iI (((lc : Nat) : Int))), .long (co)]))]) rfl (by decide) (by decide) (fun z3 w H locs hp hP hD hS => ?_)
    obtain ⟨rfl, rfl⟩ := hp
    have hP : va_P D vwCl [(hX, .inr (4, [.int (iI (((T : Nat) : Int))), .int (iI (((dd : Nat) : Int))), .ref hB, .ref hR, .ref hQ, .ref hF, .ref hC, .int (iI (((no : Nat) : Int))), .int (iI (((sh : Nat) : Int))), .int (iI (((cs : Nat) : Int))), .int (iI (((lc : Nat) : Int))), .long (co)])), (hC, .inr (3, [.int (iI (((8 : Nat) : Int))), .ref qS, .ref qQ, .int (iI (((cn + 1 : Nat) : Int)))])), ce_i qS cI 8 (nZ (uN sz_ cn n)), ce_i qQ cI 32 (nZ (va_cpy pl sp 0 (cn * 4) n)), (hB, .inr (0, [.ref qL, .ref qP, .ref qE, .ref qF, .int (iI (((n : Nat) : Int)))])), ce_i qP cI 4 (nZ (pl))] H := hP.sub (ws' := [(hX, .inr (4, [.int (iI (((T : Nat) : Int))), .int (iI (((dd : Nat) : Int))), .ref hB, .ref hR, .ref hQ, .ref hF, .ref hC, .int (iI (((no : Nat) : Int))), .int (iI (((sh : Nat) : Int))), .int (iI (((cs : Nat) : Int))), .int (iI (((lc : Nat) : Int))), .long (co)])), (hC, .inr (3, [.int (iI (((8 : Nat) : Int))), .ref qS, .ref qQ, .int (iI (((cn + 1 : Nat) : Int)))])), ce_i qS cI 8 (nZ (uN sz_ cn n)), ce_i qQ cI 32 (nZ (va_cpy pl sp 0 (cn * 4) n)), (hB, .inr (0, [.ref qL, .ref qP, .ref qE, .ref qF, .int (iI (((n : Nat) : Int)))])), ce_i qP cI 4 (nZ (pl))]) [0, 1, 2, 3, 4, 5] rfl
    have hD : va_D A [(hX, .inr (4, [.int (iI (((T : Nat) : Int))), .int (iI (((dd : Nat) : Int))), .ref hB, .ref hR, .ref hQ, .ref hF, .ref hC, .int (iI (((no : Nat) : Int))), .int (iI (((sh : Nat) : Int))), .int (iI (((cs : Nat) : Int))), .int (iI (((lc : Nat) : Int))), .long (co)])), (hC, .inr (3, [.int (iI (((8 : Nat) : Int))), .ref qS, .ref qQ, .int (iI (((cn + 1 : Nat) : Int)))])), ce_i qS cI 8 (nZ (uN sz_ cn n)), ce_i qQ cI 32 (nZ (va_cpy pl sp 0 (cn * 4) n)), (hB, .inr (0, [.ref qL, .ref qP, .ref qE, .ref qF, .int (iI (((n : Nat) : Int)))])), ce_i qP cI 4 (nZ (pl))] := hD.sub (ws' := [(hX, .inr (4, [.int (iI (((T : Nat) : Int))), .int (iI (((dd : Nat) : Int))), .ref hB, .ref hR, .ref hQ, .ref hF, .ref hC, .int (iI (((no : Nat) : Int))), .int (iI (((sh : Nat) : Int))), .int (iI (((cs : Nat) : Int))), .int (iI (((lc : Nat) : Int))), .long (co)])), (hC, .inr (3, [.int (iI (((8 : Nat) : Int))), .ref qS, .ref qQ, .int (iI (((cn + 1 : Nat) : Int)))])), ce_i qS cI 8 (nZ (uN sz_ cn n)), ce_i qQ cI 32 (nZ (va_cpy pl sp 0 (cn * 4) n)), (hB, .inr (0, [.ref qL, .ref qP, .ref qE, .ref qF, .int (iI (((n : Nat) : Int)))])), ce_i qP cI 4 (nZ (pl))]) [0, 1, 2, 3, 4, 5] (by decide) rfl
    exact hret _ _ _ _ _ _ dX4_copy_26 ⟨_, _, _, rfl, (by first | rw [if_neg (by omega)]; rfl | rw [if_pos (by omega)]; rfl | rw [if_neg (by omega)] | rw [if_pos (by omega)])⟩ hP hD hS
  · refine lv_bipush (v := iI ((-2 : Int))) hx hb dX4_copy_10 (by decide +kernel) ?_
    refine lv_goto (tgt := 26) hx hb dX4_copy_12 (by decide) ?_
    exact hret _ _ _ _ _ _ dX4_copy_26 ⟨_, _, _, rfl, (by first | rw [if_neg (by omega)]; rfl | rw [if_pos (by omega)]; rfl | rw [if_neg (by omega)] | rw [if_pos (by omega)])⟩ hP hD hS

set_option maxHeartbeats 4000000 in
set_option maxRecDepth 100000 in
theorem k_X4_compare (l : Launch) (D : va_G) (cI cZ : ClassId) (sz : Nat) (hX : Nat) (T : Nat) (dd : Nat) (hB : Nat) (hR : Nat) (hQ : Nat) (hF : Nat) (hC : Nat) (no : Nat) (sh : Nat) (cs : Nat) (lc : Nat) (co : Int64) (qL : Nat) (qP : Nat) (qE : Nat) (qF : Nat) (n : Nat) (pl : Nat → Nat) (qS : Nat) (qQ : Nat) (cn : Nat) (sz_ : Nat → Nat) (sp : Nat → Nat) (x : Int) (k : Int) (hc : cn ≤ 8) (hn : n ≤ 4) (hpl : ∀ j, pl j < 30) (hsp : ∀ j, sp j < 30) (hz : ∀ j, sz_ j ≤ 4) (hx2 : -2147483648 ≤ x ∧ x < 2147483648) (hk : -2147483648 ≤ k ∧ k < 2147483648) : Ci l yX4_compare wsX4_compare (rmD 2) D vwCl [(cI, .int), (cZ, .boolean)] [.ref hX, .int (iI (x)), .int (iI (k))] [(hX, .inr (4, [.int (iI (((T : Nat) : Int))), .int (iI (((dd : Nat) : Int))), .ref hB, .ref hR, .ref hQ, .ref hF, .ref hC, .int (iI (((no : Nat) : Int))), .int (iI (((sh : Nat) : Int))), .int (iI (((cs : Nat) : Int))), .int (iI (((lc : Nat) : Int))), .long (co)])), (hC, .inr (3, [.int (iI (((8 : Nat) : Int))), .ref qS, .ref qQ, .int (iI (((cn : Nat) : Int)))])), ce_i qS cI 8 (nZ (sz_)), ce_i qQ cI 32 (nZ (sp)), (hB, .inr (0, [.ref qL, .ref qP, .ref qE, .ref qF, .int (iI (((n : Nat) : Int)))])), ce_i qP cI 4 (nZ (pl))] sz (fun z w => w = [(hX, .inr (4, [.int (iI (((T : Nat) : Int))), .int (iI (((dd : Nat) : Int))), .ref hB, .ref hR, .ref hQ, .ref hF, .ref hC, .int (iI (((no : Nat) : Int))), .int (iI (((sh : Nat) : Int))), .int (iI (((cs : Nat) : Int))), .int (iI (((lc : Nat) : Int))), .long (co)])), (hC, .inr (3, [.int (iI (((8 : Nat) : Int))), .ref qS, .ref qQ, .int (iI (((cn : Nat) : Int)))])), ce_i qS cI 8 (nZ (sz_)), ce_i qQ cI 32 (nZ (sp)), (hB, .inr (0, [.ref qL, .ref qP, .ref qE, .ref qF, .int (iI (((n : Nat) : Int)))])), ce_i qP cI 4 (nZ (pl))] ∧ z = (if 0 ≤ x ∧ x < ((cn : Nat) : Int) then memF (fun j => Nat.testBit (othF (othX sz_ sp pl x.toNat) n) j) k 4 0 0 else -1)) 0 0 := by
  refine Ci_of (cc := cX4_compare) (nL := 3) (by decide) rfl (Nat.le_of_ble_eq_true rfl) ?_
  intro p e s m below meth c A Q hsz C hK hN hA hP hD hS hret ls hl
  obtain ⟨hx, hb, hml, hown, hts⟩ := id C
  have hown : s.vm.findClass RX4 = some m.cls := hown
  have hl : lv_has ls 3 [(0, .ref hX), (1, .int (iI (x))), (2, .int (iI (k)))] := hl
  have in_X4 : ∀ w ∈ u_ws RX4 TX4 12, w ∈ wsX4_compare := fun w h => List.mem_cons_of_mem _ (inX4 w h)
  refine lv_aload_n hx hb dX4_compare_0 rfl (lv_at hl 0 rfl) ?_
  refine va_get (D := D) (ci := 4) (v := .ref hC) (C := RX4) (T := TX4) (N := 12) hx hb hts in_X4 hown hK hP 0 rfl rfl 6 (by decide) (hts _ (List.mem_cons_of_mem _ tf_X4_39)) (fun _ h9 => h9) rfl dX4_compare_1 ?_
  refine lv_iload_n hx hb dX4_compare_4 rfl (lv_at hl 1 rfl) ?_
  have hPc := hP.sub (ws' := [(hC, .inr (3, [.int (iI (((8 : Nat) : Int))), .ref qS, .ref qQ, .int (iI (((cn : Nat) : Int)))]))]) [1] rfl
  have hDc := hD.sub (ws' := [(hC, .inr (3, [.int (iI (((8 : Nat) : Int))), .ref qS, .ref qQ, .int (iI (((cn : Nat) : Int)))]))]) [1] (by decide) rfl
  refine rz_calliR (va_runV (As := [.int (iI (x))]) (rest := []) ⟨hx, hb, hml, hown, hts⟩ (k_X3_has l D cI cZ s.heap.size hC 8 qS qQ cn x (by omega) (by omega)) (cwV 1 hts (gG (g_V tm_X4_158 ti_X3_has tse_X3_has tin_X3 cmX3_has)) rfl rfl rfl (by decide +kernel) ⟨Nat.le_of_ble_eq_true rfl, Nat.le_of_ble_eq_true rfl⟩) ⟨cP_blind, va_recv hK hPc (ci := 3) (q0 := 0) rfl rfl, cP_pre hPc hK hN hDc⟩ rfl rfl hl.1 rfl (lv_room (Nat.le_of_ble_eq_true rfl)) dX4_compare_5 ⟨Nat.le_refl _, Nat.le_refl _⟩) hP hD hS hA [1] rfl (fun z1 H locs hp hP hS => ?_)
  subst hp
  refine rz_beqD (P := (0 ≤ x ∧ x < ((cn : Nat) : Int))) (tgt := 30) hx hb dX4_compare_8 (by decide) (fun c2 => ?_) (fun c2 => ?_)
  · refine lv_iconst (v := iI ((-1 : Int))) hx hb dX4_compare_30 (by decide +kernel) ?_
    exact hret _ _ _ _ _ _ dX4_compare_31 ⟨rfl, (by first | rw [if_pos (by omega)] | rw [if_neg (by omega)])⟩ hP hD hS
  · refine lv_aload_n hx hb dX4_compare_11 rfl (lv_at hl 0 rfl) ?_
    refine va_get (D := D) (ci := 4) (v := .ref hC) (C := RX4) (T := TX4) (N := 12) hx hb hts in_X4 hown hK hP 0 rfl rfl 6 (by decide) (hts _ (List.mem_cons_of_mem _ tf_X4_39)) (fun _ h9 => h9) rfl dX4_compare_12 ?_
    refine lv_iload_n hx hb dX4_compare_15 rfl (lv_at hl 1 rfl) ?_
    refine rz_as (y := ((x.toNat : Nat) : Int)) (by omega) ?_
    refine lv_aload_n hx hb dX4_compare_16 rfl (lv_at hl 0 rfl) ?_
    refine va_get (D := D) (ci := 4) (v := .ref hB) (C := RX4) (T := TX4) (N := 12) hx hb hts in_X4 hown hK hP 0 rfl rfl 2 (by decide) (hts _ (List.mem_cons_of_mem _ tf_X4_12)) (fun _ h9 => h9) rfl dX4_compare_17 ?_
    have hPc := hP.sub (ws' := [(hC, .inr (3, [.int (iI (((8 : Nat) : Int))), .ref qS, .ref qQ, .int (iI (((cn : Nat) : Int)))])), ce_i qS cI 8 (nZ (sz_)), ce_i qQ cI 32 (nZ (sp)), (hB, .inr (0, [.ref qL, .ref qP, .ref qE, .ref qF, .int (iI (((n : Nat) : Int)))])), ce_i qP cI 4 (nZ (pl))]) [1, 2, 3, 4, 5] rfl
    have hDc := hD.sub (ws' := [(hC, .inr (3, [.int (iI (((8 : Nat) : Int))), .ref qS, .ref qQ, .int (iI (((cn : Nat) : Int)))])), ce_i qS cI 8 (nZ (sz_)), ce_i qQ cI 32 (nZ (sp)), (hB, .inr (0, [.ref qL, .ref qP, .ref qE, .ref qF, .int (iI (((n : Nat) : Int)))])), ce_i qP cI 4 (nZ (pl))]) [1, 2, 3, 4, 5] (by decide) rfl
    refine rz_calliR (va_runV (As := [.int (iI (((x.toNat : Nat) : Int))), .ref hB]) (rest := []) ⟨hx, hb, hml, hown, hts⟩ (k_X3_otherPlaces l D cI cZ H.size hC 8 qS qQ cn 32 sz_ sp hB qL qP qE qF n pl x.toNat (by omega) (by omega) (by omega) (by omega) (hz _) hpl hsp) (cwV 2 hts (gG (g_V tm_X4_159 ti_X3_otherPlaces tse_X3_otherPlaces tin_X3 cmX3_otherPlaces)) rfl rfl rfl (by decide +kernel) ⟨Nat.le_of_ble_eq_true rfl, Nat.le_of_ble_eq_true rfl⟩) ⟨cP_blind, va_recv hK hPc (ci := 3) (q0 := 0) rfl rfl, cP_pre hPc hK hN hDc⟩ rfl rfl hl.1 rfl (lv_room (Nat.le_of_ble_eq_true rfl)) dX4_compare_20 ⟨Nat.le_refl _, Nat.le_refl _⟩) hP hD hS hA [1, 2, 3, 4, 5] rfl (fun z3 H locs hp hP hS => ?_)
    subst hp
    refine lv_iload_n hx hb dX4_compare_23 rfl (lv_at hl 2 rfl) ?_
    have hPc := hP.sub (ws' := []) [] rfl
    have hDc := hD.sub (ws' := []) [] (by decide) rfl
    refine rz_calliR (va_runS (As := [.int (iI (((othF (othX sz_ sp pl x.toNat) n : Nat) : Int))), .int (iI (k))]) (rest := []) ⟨hx, hb, hml, hown, hts⟩ (k_X4_memberAt l D cI cZ H.size (othF (othX sz_ sp pl x.toNat) n) k (Nat.lt_of_lt_of_le (othF_lt _ _) (show 2 ^ n ≤ 2 ^ 4 from Nat.pow_le_pow_right (by decide) hn)) (by omega)) (va_cwS 2 hts (gG (g_S tm_X4_143 ts_X4_memberAt tin_X4 cmX4_memberAt)) rfl rfl rfl (by decide +kernel) ⟨Nat.le_of_ble_eq_true rfl, Nat.le_of_ble_eq_true rfl⟩) ⟨cP_blind, cP_pre hPc hK hN hDc⟩ rfl rfl hl.1 rfl (lv_room (Nat.le_of_ble_eq_true rfl)) dX4_compare_24 ⟨Nat.le_refl _, Nat.le_refl _⟩) hP hD hS hA [] rfl (fun z4 H locs hp hP hS => ?_)
    subst hp
    refine lv_goto (tgt := 31) hx hb dX4_compare_27 (by decide) ?_
    exact hret _ _ _ _ _ _ dX4_compare_31 ⟨rfl, (by first | rw [if_pos (by omega)] | rw [if_neg (by omega)])⟩ hP hD hS
end
section
/-! Search: its small methods -/
def stI (x : Nat) : Nat := ((x ||| x / 2 ^ 10) ||| x / 2 ^ 20) &&& 1023
theorem stI_lt (x : Nat) : stI x < 1024 := Nat.and_lt_two_pow _ (n := 10) (by decide)
/-- Integer.numberOfTrailingZeros, as it is written, for small numbers -/
def nzA (x : Nat) : Int := if x = 0 then -1 else (((x - 1) &&& (1023 ^^^ x) : Nat) : Int)
def nJ3 (n i : Nat) : Nat := if 4 < i then (n + 2) + i / 2 ^ 2 / 2 ^ 1 else n + i / 2 ^ 1
def nJ2 (n i : Nat) : Nat := if 16 < i then nJ3 (n + 4) (i / 2 ^ 4) else nJ3 n i
def nJ1 (n i : Nat) : Nat := if 256 < i then nJ2 (n + 8) (i / 2 ^ 8) else nJ2 n i
def ntzV (x : Nat) : Nat := if nzA x ≤ 0 then (if x = 0 then 32 else 0) else nJ1 1 (nzA x).toNat
theorem nz_raw : ∀ x, x < 1024 → (iI ((x : Nat) : Int) ^^^ iI (-1 : Int)) &&& iI (((x : Nat) : Int) - ((1 : Nat) : Int)) = iI (nzA x) := by decide +kernel
theorem nz_32 : ∀ x, x < 1024 → nzA x ≤ 0 → iI (nzA x) &&& iI ((32 : Nat) : Int) = iI (((if x = 0 then 32 else 0 : Nat)) : Int) := by decide +kernel
theorem nz_b : ∀ x, x < 1024 → -1 ≤ nzA x ∧ nzA x < 1024 := by decide +kernel
def lJ3 (n i : Nat) : Nat := if 4 ≤ i then n - 2 - i / 2 ^ 2 / 2 ^ 1 else n - i / 2 ^ 1
def lJ2 (n i : Nat) : Nat := if 16 ≤ i then lJ3 (n - 4) (i / 2 ^ 4) else lJ3 n i
def lJ1 (n i : Nat) : Nat := if 256 ≤ i then lJ2 (n - 8) (i / 2 ^ 8) else lJ2 n i
def nlzV (x : Nat) : Nat := if x = 0 then 32 else lJ1 31 x
/-- what is used of them -/
theorem ntz_le : ∀ v, v < 1024 → ∀ i, i < 10 → v.testBit i = true → ntzV v ≤ i := by decide +kernel
theorem nlz_ge : ∀ v, v < 1024 → ∀ i, i < 10 → v.testBit i = true → i + nlzV v ≤ 31 := by decide +kernel
theorem ntz_32 : ∀ v, v < 1024 → ntzV v ≤ 32 := by decide +kernel
theorem nlz_32 : ∀ v, v < 1024 → nlzV v ≤ 32 ∧ 22 ≤ nlzV v := by decide +kernel
/-- what a batch in another place than its own weighs -/
def wAt (h p : Nat) : Nat := if p = h then 0 else 64 + (p % 10 - h % 10 + (h % 10 - p % 10)) + (if p / 10 = h / 10 then 0 else 3)
/-- the least weight of those from b on: those whose place is closed -/
def lwF (op hm : Nat → Nat) (r n : Nat) : Nat → Nat
  | 0 => 0
  | k + 1 => lwF op hm r n k + (if (op (r + (n - (k + 1)))).testBit (hm (n - (k + 1))) = true then 0 else 65)
/-- the places that stay open to batch o beside batch b in place p -/
def besF (ln : Nat → Nat) (lg : Nat → Int) (ap : Nat → Nat) (b p o : Nat) : Nat :=
  dif (daysF (((p % 10 + ln b : Nat) : Int) + lg (o * 4 + b)) ((((p % 10 : Nat) : Int) - lg (b * 4 + o)) - ((ln o : Nat) : Int)) * 1049601)
    ((if (ap b).testBit o = true then 1023 else daysF ((((p % 10 : Nat) : Int) - ((ln o : Nat) : Int)) + ((1 : Nat) : Int)) (((p % 10 + ln b : Nat) : Int) - ((1 : Nat) : Int))) * 2 ^ (p / 10 * 10))
/-- the places of a batch that are within the days and free, by starts and needed days -/
def freeF (S need sh : Nat) : Nat → Nat
  | 0 => 0
  | k + 1 => if S.testBit (k % 10) = true ∧ sh / 2 ^ k &&& need = 0 then freeF S need sh k ||| 1 * 2 ^ k else freeF S need sh k
theorem freeF_lt (S need sh : Nat) : ∀ n, freeF S need sh n < 2 ^ n
  | 0 => Nat.one_pos
  | n + 1 => by
    have h := freeF_lt S need sh n
    have h2 : freeF S need sh n < 2 ^ (n + 1) := Nat.lt_of_lt_of_le h (Nat.pow_le_pow_right (by decide) (Nat.le_succ n))
    rw [freeF]; split
    · exact Nat.or_lt_two_pow h2 (by rw [Nat.one_mul]; exact Nat.pow_lt_pow_right (by decide) (Nat.lt_succ_self n))
    · exact h2
theorem freeF_tb (S need sh : Nat) (j : Nat) : ∀ n, (freeF S need sh n).testBit j = (decide (j < n) && (S.testBit (j % 10) && decide (sh / 2 ^ j &&& need = 0)))
  | 0 => by simp [freeF]
  | n + 1 => by
    have h := freeF_tb S need sh j n
    by_cases hj : j = n
    · subst hj
      have hlt : (freeF S need sh j).testBit j = false := by rw [h]; simp
      rw [freeF]; split
      · rename_i hx; rw [Nat.testBit_or, hlt, Nat.one_mul, Nat.testBit_two_pow_self]; simp [hx.1, hx.2]
      · rename_i hx; rw [hlt]; symm; simp; intro h1 h2; exact hx ⟨h1, h2⟩
    · have e : (decide (j < n + 1)) = decide (j < n) := by by_cases q : j < n <;> simp [q] <;> omega
      rw [freeF, e]; split
      · rw [Nat.testBit_or, h, Nat.one_mul, Nat.testBit_two_pow_of_ne (Ne.symm hj)]; simp
      · exact h
theorem ie_lt {x : Nat} (h : x < 1024) : x * 1049601 < 1073741824 := by omega
theorem daysF_all : daysF 0 9 = 1023 := by decide

set_option maxHeartbeats 4000000 in
set_option maxRecDepth 100000 in
theorem k_X2_startsIn (l : Launch) (D : va_G) (cI cZ : ClassId) (sz : Nat) (x : Nat) (hx2 : x < 1073741824) : Ci l yX2_startsIn wsX2_startsIn (rmD 0) D vwCl [(cI, .int), (cZ, .boolean)] [.int (iI (((x : Nat) : Int)))] [] sz (fun z w => w = [] ∧ (z = ((stI x : Nat) : Int))) 0 0 := by
  refine Ci_of (cc := cX2_startsIn) (nL := 1) (by decide) rfl (Nat.le_of_ble_eq_true rfl) ?_
  intro p e s m below meth c A Q hsz C hK hN hA hP hD hS hret ls hl
  obtain ⟨hx, hb, hml, hown, hts⟩ := id C
  have hown : s.vm.findClass RX2 = some m.cls := hown
  have hl : lv_has ls 1 [(0, .int (iI (((x : Nat) : Int))))] := hl
  refine lv_iload_n hx hb dX2_startsIn_0 rfl (lv_at hl 0 rfl) ?_
  refine lv_iload_n hx hb dX2_startsIn_1 rfl (lv_at hl 0 rfl) ?_
  refine lv_bipush (v := iI (((10 : Nat) : Int))) hx hb dX2_startsIn_2 (by decide +kernel) ?_
  refine rz_shr hx hb dX2_startsIn_4 (by omega) (by omega) ?_
  refine rz_or hx hb dX2_startsIn_5 ?_
  refine lv_iload_n hx hb dX2_startsIn_6 rfl (lv_at hl 0 rfl) ?_
  refine lv_bipush (v := iI (((20 : Nat) : Int))) hx hb dX2_startsIn_7 (by decide +kernel) ?_
  refine rz_shr hx hb dX2_startsIn_9 (by omega) (by omega) ?_
  refine rz_or hx hb dX2_startsIn_10 ?_
  refine lv_sipush (v := iI (((1023 : Nat) : Int))) hx hb dX2_startsIn_11 (by decide +kernel) ?_
  refine rz_and hx hb dX2_startsIn_14 ?_
  exact hret _ _ _ _ _ _ dX2_startsIn_15 ⟨rfl, rfl⟩ hP hD hS

set_option maxHeartbeats 4000000 in
set_option maxRecDepth 100000 in
theorem k_J6_numberOfTrailingZeros (l : Launch) (D : va_G) (cI cZ : ClassId) (sz : Nat) (x : Nat) (hx2 : x < 1024) : Ci l yJ6_numberOfTrailingZeros wsJ6_numberOfTrailingZeros (rmD 0) D vwCl [(cI, .int), (cZ, .boolean)] [.int (iI (((x : Nat) : Int)))] [] sz (fun z w => w = [] ∧ (z = ((ntzV x : Nat) : Int))) 0 0 := by
  refine Ci_of (cc := cJ6_numberOfTrailingZeros) (nL := 2) (by decide) rfl (Nat.le_of_ble_eq_true rfl) ?_
  intro p e s m below meth c A Q hsz C hK hN hA hP hD hS hret ls hl
  obtain ⟨hx, hb, hml, hown, hts⟩ := id C
  have hown : s.vm.findClass RJ6 = some m.cls := hown
  have hl : lv_has ls 2 [(0, .int (iI (((x : Nat) : Int))))] := hl
  have K74 : ∀ (n : Nat) (i : Nat), (i < 1024) → (n < 40) → (n + i / 2 ^ 1 = ntzV x) → ∀ (H : Heap) (locs : List Loc) (ls : Array Slot), va_P D vwCl [] H → va_D A [] → va_S A s.heap H locs → lv_has ls 2 [(0, .int (iI (((i : Nat) : Int)))), (1, .int (iI (((n : Nat) : Int))))] → W p l e (rmD 0) s m ([.int (iI (((x : Nat) : Int)))] : List Value).toArray below meth c H locs 0 0 Q (F0 m 74 ls []) := by
    intro n i hi hn hv H locs ls hP hD hS hl
    refine lv_iload_n hx hb dJ6_numberOfTrailingZeros_74 rfl (lv_at hl 1 rfl) ?_
    refine lv_iload_n hx hb dJ6_numberOfTrailingZeros_75 rfl (lv_at hl 0 rfl) ?_
    refine lv_iconst (v := iI (((1 : Nat) : Int))) hx hb dJ6_numberOfTrailingZeros_76 (by decide +kernel) ?_
    refine rz_ushr hx hb dJ6_numberOfTrailingZeros_77 (by omega) (by omega) ?_
    refine rn_add hx hb dJ6_numberOfTrailingZeros_78 ?_
    exact hret _ _ _ _ _ _ dJ6_numberOfTrailingZeros_79 ⟨rfl, (by rw [hv])⟩ hP hD hS
  have K62 : ∀ (n : Nat) (i : Nat), (i < 1024) → (n < 30) → (nJ3 n i = ntzV x) → ∀ (H : Heap) (locs : List Loc) (ls : Array Slot), va_P D vwCl [] H → va_D A [] → va_S A s.heap H locs → lv_has ls 2 [(0, .int (iI (((i : Nat) : Int)))), (1, .int (iI (((n : Nat) : Int))))] → W p l e (rmD 0) s m ([.int (iI (((x : Nat) : Int)))] : List Value).toArray below meth c H locs 0 0 Q (F0 m 62 ls []) := by
    intro n i hi hn hv H locs ls hP hD hS hl
    refine lv_iload_n hx hb dJ6_numberOfTrailingZeros_62 rfl (lv_at hl 0 rfl) ?_
    refine lv_iconst (v := iI (((4 : Nat) : Int))) hx hb dJ6_numberOfTrailingZeros_63 (by decide +kernel) ?_
    refine rz_cle (tgt := 74) hx hb dJ6_numberOfTrailingZeros_64 (by decide) (by omega) (by omega) (fun c1 => ?_) (fun c1 => ?_)
    · exact K74 (n) (i) (by omega) (by omega) (by first | (rw [← hv, nJ3, if_pos (by omega)]) | (rw [← hv, nJ3, if_neg (by omega)])) _ _ _ hP hD hS (lv_sub hl [0, 1] rfl)
    · refine lv_iinc (v := iI (((n + 2 : Nat) : Int))) (lv' := [(1, .int (iI (((n + 2 : Nat) : Int)))), (0, .int (iI (((i : Nat) : Int))))]) hx hb dJ6_numberOfTrailingZeros_67 hl (k := 1) rfl (iI_incK _ 2) (by decide) rfl (fun ls hl => ?_)
      refine lv_iload_n hx hb dJ6_numberOfTrailingZeros_70 rfl (lv_at hl 1 rfl) ?_
      refine lv_iconst (v := iI (((2 : Nat) : Int))) hx hb dJ6_numberOfTrailingZeros_71 (by decide +kernel) ?_
      refine rz_ushr hx hb dJ6_numberOfTrailingZeros_72 (by omega) (by omega) ?_
      refine lv_istore_n (lv' := [(0, .int (iI (((i / 2 ^ 2 : Nat) : Int)))), (1, .int (iI (((n + 2 : Nat) : Int))))]) hx hb dJ6_numberOfTrailingZeros_73 rfl hl (by decide) rfl (fun ls hl => ?_)
      exact K74 (n + 2) (i / 2 ^ 2) (by omega) (by omega) (by first | (rw [← hv, nJ3, if_pos (by omega)]) | (rw [← hv, nJ3, if_neg (by omega)])) _ _ _ hP hD hS (lv_sub hl [0, 1] rfl)
  have K49 : ∀ (n : Nat) (i : Nat), (i < 1024) → (n < 20) → (nJ2 n i = ntzV x) → ∀ (H : Heap) (locs : List Loc) (ls : Array Slot), va_P D vwCl [] H → va_D A [] → va_S A s.heap H locs → lv_has ls 2 [(0, .int (iI (((i : Nat) : Int)))), (1, .int (iI (((n : Nat) : Int))))] → W p l e (rmD 0) s m ([.int (iI (((x : Nat) : Int)))] : List Value).toArray below meth c H locs 0 0 Q (F0 m 49 ls []) := by
    intro n i hi hn hv H locs ls hP hD hS hl
    refine lv_iload_n hx hb dJ6_numberOfTrailingZeros_49 rfl (lv_at hl 0 rfl) ?_
    refine lv_bipush (v := iI (((16 : Nat) : Int))) hx hb dJ6_numberOfTrailingZeros_50 (by decide +kernel) ?_
    refine rz_cle (tgt := 62) hx hb dJ6_numberOfTrailingZeros_52 (by decide) (by omega) (by omega) (fun c2 => ?_) (fun c2 => ?_)
    · exact K62 (n) (i) (by omega) (by omega) (by first | (rw [← hv, nJ2, if_pos (by omega)]) | (rw [← hv, nJ2, if_neg (by omega)])) _ _ _ hP hD hS (lv_sub hl [0, 1] rfl)
    · refine lv_iinc (v := iI (((n + 4 : Nat) : Int))) (lv' := [(1, .int (iI (((n + 4 : Nat) : Int)))), (0, .int (iI (((i : Nat) : Int))))]) hx hb dJ6_numberOfTrailingZeros_55 hl (k := 1) rfl (iI_incK _ 4) (by decide) rfl (fun ls hl => ?_)
      refine lv_iload_n hx hb dJ6_numberOfTrailingZeros_58 rfl (lv_at hl 1 rfl) ?_
      refine lv_iconst (v := iI (((4 : Nat) : Int))) hx hb dJ6_numberOfTrailingZeros_59 (by decide +kernel) ?_
      refine rz_ushr hx hb dJ6_numberOfTrailingZeros_60 (by omega) (by omega) ?_
      refine lv_istore_n (lv' := [(0, .int (iI (((i / 2 ^ 4 : Nat) : Int)))), (1, .int (iI (((n + 4 : Nat) : Int))))]) hx hb dJ6_numberOfTrailingZeros_61 rfl hl (by decide) rfl (fun ls hl => ?_)
      exact K62 (n + 4) (i / 2 ^ 4) (by omega) (by omega) (by first | (rw [← hv, nJ2, if_pos (by omega)]) | (rw [← hv, nJ2, if_neg (by omega)])) _ _ _ hP hD hS (lv_sub hl [0, 1] rfl)
  have K34 : ∀ (n : Nat) (i : Nat), (i < 1024) → (n < 10) → (nJ1 n i = ntzV x) → ∀ (H : Heap) (locs : List Loc) (ls : Array Slot), va_P D vwCl [] H → va_D A [] → va_S A s.heap H locs → lv_has ls 2 [(0, .int (iI (((i : Nat) : Int)))), (1, .int (iI (((n : Nat) : Int))))] → W p l e (rmD 0) s m ([.int (iI (((x : Nat) : Int)))] : List Value).toArray below meth c H locs 0 0 Q (F0 m 34 ls []) := by
    intro n i hi hn hv H locs ls hP hD hS hl
    refine lv_iload_n hx hb dJ6_numberOfTrailingZeros_34 rfl (lv_at hl 0 rfl) ?_
    refine lv_sipush (v := iI (((256 : Nat) : Int))) hx hb dJ6_numberOfTrailingZeros_35 (by decide +kernel) ?_
    refine rz_cle (tgt := 49) hx hb dJ6_numberOfTrailingZeros_38 (by decide) (by omega) (by omega) (fun c3 => ?_) (fun c3 => ?_)
    · exact K49 (n) (i) (by omega) (by omega) (by first | (rw [← hv, nJ1, if_pos (by omega)]) | (rw [← hv, nJ1, if_neg (by omega)])) _ _ _ hP hD hS (lv_sub hl [0, 1] rfl)
    · refine lv_iinc (v := iI (((n + 8 : Nat) : Int))) (lv' := [(1, .int (iI (((n + 8 : Nat) : Int)))), (0, .int (iI (((i : Nat) : Int))))]) hx hb dJ6_numberOfTrailingZeros_41 hl (k := 1) rfl (iI_incK _ 8) (by decide) rfl (fun ls hl => ?_)
      refine lv_iload_n hx hb dJ6_numberOfTrailingZeros_44 rfl (lv_at hl 1 rfl) ?_
      refine lv_bipush (v := iI (((8 : Nat) : Int))) hx hb dJ6_numberOfTrailingZeros_45 (by decide +kernel) ?_
      refine rz_ushr hx hb dJ6_numberOfTrailingZeros_47 (by omega) (by omega) ?_
      refine lv_istore_n (lv' := [(0, .int (iI (((i / 2 ^ 8 : Nat) : Int)))), (1, .int (iI (((n + 8 : Nat) : Int))))]) hx hb dJ6_numberOfTrailingZeros_48 rfl hl (by decide) rfl (fun ls hl => ?_)
      exact K49 (n + 8) (i / 2 ^ 8) (by omega) (by omega) (by first | (rw [← hv, nJ1, if_pos (by omega)]) | (rw [← hv, nJ1, if_neg (by omega)])) _ _ _ hP hD hS (lv_sub hl [0, 1] rfl)
  refine lv_iload_n hx hb dJ6_numberOfTrailingZeros_0 rfl (lv_at hl 0 rfl) ?_
  refine lv_iconst (v := iI ((-1 : Int))) hx hb dJ6_numberOfTrailingZeros_1 (by decide +kernel) ?_
  refine lv_ixor hx hb dJ6_numberOfTrailingZeros_2 ?_
  refine lv_iload_n hx hb dJ6_numberOfTrailingZeros_3 rfl (lv_at hl 0 rfl) ?_
  refine lv_iconst (v := iI (((1 : Nat) : Int))) hx hb dJ6_numberOfTrailingZeros_4 (by decide +kernel) ?_
  refine rz_sub hx hb dJ6_numberOfTrailingZeros_5 ?_
  refine lv_iand hx hb dJ6_numberOfTrailingZeros_6 ?_
  refine rz_raw (y := nzA x) (nz_raw x hx2) ?_
  refine lv_istore_n (lv' := [(0, .int (iI (nzA x)))]) hx hb dJ6_numberOfTrailingZeros_7 rfl hl (by decide) rfl (fun ls hl => ?_)
  refine lv_iload_n hx hb dJ6_numberOfTrailingZeros_8 rfl (lv_at hl 0 rfl) ?_
  refine rz_igt (tgt := 17) hx hb dJ6_numberOfTrailingZeros_9 (by decide) (by have := nz_b x hx2; omega) (fun c4 => ?_) (fun c4 => ?_)
  · have hb1 := nz_b x hx2
    obtain ⟨i, hi⟩ : ∃ i : Nat, nzA x = ((i : Nat) : Int) := ⟨(nzA x).toNat, by omega⟩
    rw [hi] at hl
    refine lv_iconst (v := iI (((1 : Nat) : Int))) hx hb dJ6_numberOfTrailingZeros_17 (by decide +kernel) ?_
    refine lv_istore_n (lv' := [(1, .int (iI (((1 : Nat) : Int)))), (0, .int (iI (((i : Nat) : Int))))]) hx hb dJ6_numberOfTrailingZeros_18 rfl hl (by decide) rfl (fun ls hl => ?_)
    refine lv_iload_n hx hb dJ6_numberOfTrailingZeros_19 rfl (lv_at hl 1 rfl) ?_
    refine lv_ldcw (v := iI (((65536 : Nat) : Int))) hx hb hown (hts _ (List.mem_cons_of_mem _ tc_J6_264)) dJ6_numberOfTrailingZeros_20 ?_
    refine rz_cle (tgt := 34) hx hb dJ6_numberOfTrailingZeros_23 (by decide) (by omega) (by omega) (fun c5 => ?_) (fun c5 => ?_)
    · exact K34 (1) (i) (by omega) (by omega) (by rw [ntzV, if_neg (by omega), hi]; rfl) _ _ _ hP hD hS (lv_sub hl [1, 0] rfl)
    · exfalso; omega
  · refine lv_iload_n hx hb dJ6_numberOfTrailingZeros_12 rfl (lv_at hl 0 rfl) ?_
    refine lv_bipush (v := iI (((32 : Nat) : Int))) hx hb dJ6_numberOfTrailingZeros_13 (by decide +kernel) ?_
    refine lv_iand hx hb dJ6_numberOfTrailingZeros_15 ?_
    refine rz_raw (y := ((if x = 0 then 32 else 0 : Nat) : Int)) (nz_32 x hx2 (by omega)) ?_
    exact hret _ _ _ _ _ _ dJ6_numberOfTrailingZeros_16 ⟨rfl, (by rw [ntzV, if_pos (show nzA x ≤ 0 by omega)])⟩ hP hD hS

set_option maxHeartbeats 4000000 in
set_option maxRecDepth 100000 in
theorem k_J6_numberOfLeadingZeros (l : Launch) (D : va_G) (cI cZ : ClassId) (sz : Nat) (x : Nat) (hx2 : x < 1024) : Ci l yJ6_numberOfLeadingZeros wsJ6_numberOfLeadingZeros (rmD 0) D vwCl [(cI, .int), (cZ, .boolean)] [.int (iI (((x : Nat) : Int)))] [] sz (fun z w => w = [] ∧ (z = ((nlzV x : Nat) : Int))) 0 0 := by
  refine Ci_of (cc := cJ6_numberOfLeadingZeros) (nL := 2) (by decide) rfl (Nat.le_of_ble_eq_true rfl) ?_
  intro p e s m below meth c A Q hsz C hK hN hA hP hD hS hret ls hl
  obtain ⟨hx, hb, hml, hown, hts⟩ := id C
  have hown : s.vm.findClass RJ6 = some m.cls := hown
  have hl : lv_has ls 2 [(0, .int (iI (((x : Nat) : Int))))] := hl
  have K73 : ∀ (n : Nat) (i : Nat), (i < 4) → (10 ≤ n ∧ n < 32) → (n - i / 2 ^ 1 = nlzV x) → ∀ (H : Heap) (locs : List Loc) (ls : Array Slot), va_P D vwCl [] H → va_D A [] → va_S A s.heap H locs → lv_has ls 2 [(0, .int (iI (((i : Nat) : Int)))), (1, .int (iI (((n : Nat) : Int))))] → W p l e (rmD 0) s m ([.int (iI (((x : Nat) : Int)))] : List Value).toArray below meth c H locs 0 0 Q (F0 m 73 ls []) := by
    intro n i hi hn hv H locs ls hP hD hS hl
    refine lv_iload_n hx hb dJ6_numberOfLeadingZeros_73 rfl (lv_at hl 1 rfl) ?_
    refine lv_iload_n hx hb dJ6_numberOfLeadingZeros_74 rfl (lv_at hl 0 rfl) ?_
    refine lv_iconst (v := iI (((1 : Nat) : Int))) hx hb dJ6_numberOfLeadingZeros_75 (by decide +kernel) ?_
    refine rz_ushr hx hb dJ6_numberOfLeadingZeros_76 (by omega) (by omega) ?_
    refine rn_sub hx hb dJ6_numberOfLeadingZeros_77 (by omega) ?_
    exact hret _ _ _ _ _ _ dJ6_numberOfLeadingZeros_78 ⟨rfl, (by rw [hv])⟩ hP hD hS
  have K61 : ∀ (n : Nat) (i : Nat), (i < 16) → (15 ≤ n ∧ n < 32) → (lJ3 n i = nlzV x) → ∀ (H : Heap) (locs : List Loc) (ls : Array Slot), va_P D vwCl [] H → va_D A [] → va_S A s.heap H locs → lv_has ls 2 [(0, .int (iI (((i : Nat) : Int)))), (1, .int (iI (((n : Nat) : Int))))] → W p l e (rmD 0) s m ([.int (iI (((x : Nat) : Int)))] : List Value).toArray below meth c H locs 0 0 Q (F0 m 61 ls []) := by
    intro n i hi hn hv H locs ls hP hD hS hl
    refine lv_iload_n hx hb dJ6_numberOfLeadingZeros_61 rfl (lv_at hl 0 rfl) ?_
    refine lv_iconst (v := iI (((4 : Nat) : Int))) hx hb dJ6_numberOfLeadingZeros_62 (by decide +kernel) ?_
    refine rz_clt (tgt := 73) hx hb dJ6_numberOfLeadingZeros_63 (by decide) (by omega) (by omega) (fun c1 => ?_) (fun c1 => ?_)
    · exact K73 (n) (i) (by omega) (by omega) (by first | (rw [← hv, lJ3, if_pos (by omega)]) | (rw [← hv, lJ3, if_neg (by omega)])) _ _ _ hP hD hS (lv_sub hl [0, 1] rfl)
    · refine lv_iinc (v := iI (((n - 2 : Nat) : Int))) (lv' := [(1, .int (iI (((n - 2 : Nat) : Int)))), (0, .int (iI (((i : Nat) : Int))))]) hx hb dJ6_numberOfLeadingZeros_66 hl (k := 1) rfl (iI_decK (k := 2) (by omega)) (by decide) rfl (fun ls hl => ?_)
      refine lv_iload_n hx hb dJ6_numberOfLeadingZeros_69 rfl (lv_at hl 1 rfl) ?_
      refine lv_iconst (v := iI (((2 : Nat) : Int))) hx hb dJ6_numberOfLeadingZeros_70 (by decide +kernel) ?_
      refine rz_ushr hx hb dJ6_numberOfLeadingZeros_71 (by omega) (by omega) ?_
      refine lv_istore_n (lv' := [(0, .int (iI (((i / 2 ^ 2 : Nat) : Int)))), (1, .int (iI (((n - 2 : Nat) : Int))))]) hx hb dJ6_numberOfLeadingZeros_72 rfl hl (by decide) rfl (fun ls hl => ?_)
      exact K73 (n - 2) (i / 2 ^ 2) (by omega) (by omega) (by first | (rw [← hv, lJ3, if_pos (by omega)]) | (rw [← hv, lJ3, if_neg (by omega)])) _ _ _ hP hD hS (lv_sub hl [0, 1] rfl)
  have K48 : ∀ (n : Nat) (i : Nat), (i < 256) → (20 ≤ n ∧ n < 32) → (lJ2 n i = nlzV x) → ∀ (H : Heap) (locs : List Loc) (ls : Array Slot), va_P D vwCl [] H → va_D A [] → va_S A s.heap H locs → lv_has ls 2 [(0, .int (iI (((i : Nat) : Int)))), (1, .int (iI (((n : Nat) : Int))))] → W p l e (rmD 0) s m ([.int (iI (((x : Nat) : Int)))] : List Value).toArray below meth c H locs 0 0 Q (F0 m 48 ls []) := by
    intro n i hi hn hv H locs ls hP hD hS hl
    refine lv_iload_n hx hb dJ6_numberOfLeadingZeros_48 rfl (lv_at hl 0 rfl) ?_
    refine lv_bipush (v := iI (((16 : Nat) : Int))) hx hb dJ6_numberOfLeadingZeros_49 (by decide +kernel) ?_
    refine rz_clt (tgt := 61) hx hb dJ6_numberOfLeadingZeros_51 (by decide) (by omega) (by omega) (fun c2 => ?_) (fun c2 => ?_)
    · exact K61 (n) (i) (by omega) (by omega) (by first | (rw [← hv, lJ2, if_pos (by omega)]) | (rw [← hv, lJ2, if_neg (by omega)])) _ _ _ hP hD hS (lv_sub hl [0, 1] rfl)
    · refine lv_iinc (v := iI (((n - 4 : Nat) : Int))) (lv' := [(1, .int (iI (((n - 4 : Nat) : Int)))), (0, .int (iI (((i : Nat) : Int))))]) hx hb dJ6_numberOfLeadingZeros_54 hl (k := 1) rfl (iI_decK (k := 4) (by omega)) (by decide) rfl (fun ls hl => ?_)
      refine lv_iload_n hx hb dJ6_numberOfLeadingZeros_57 rfl (lv_at hl 1 rfl) ?_
      refine lv_iconst (v := iI (((4 : Nat) : Int))) hx hb dJ6_numberOfLeadingZeros_58 (by decide +kernel) ?_
      refine rz_ushr hx hb dJ6_numberOfLeadingZeros_59 (by omega) (by omega) ?_
      refine lv_istore_n (lv' := [(0, .int (iI (((i / 2 ^ 4 : Nat) : Int)))), (1, .int (iI (((n - 4 : Nat) : Int))))]) hx hb dJ6_numberOfLeadingZeros_60 rfl hl (by decide) rfl (fun ls hl => ?_)
      exact K61 (n - 4) (i / 2 ^ 4) (by omega) (by omega) (by first | (rw [← hv, lJ2, if_pos (by omega)]) | (rw [← hv, lJ2, if_neg (by omega)])) _ _ _ hP hD hS (lv_sub hl [0, 1] rfl)
  have K33 : ∀ (n : Nat) (i : Nat), (i < 1024) → (31 ≤ n ∧ n < 32) → (lJ1 n i = nlzV x) → ∀ (H : Heap) (locs : List Loc) (ls : Array Slot), va_P D vwCl [] H → va_D A [] → va_S A s.heap H locs → lv_has ls 2 [(0, .int (iI (((i : Nat) : Int)))), (1, .int (iI (((n : Nat) : Int))))] → W p l e (rmD 0) s m ([.int (iI (((x : Nat) : Int)))] : List Value).toArray below meth c H locs 0 0 Q (F0 m 33 ls []) := by
    intro n i hi hn hv H locs ls hP hD hS hl
    refine lv_iload_n hx hb dJ6_numberOfLeadingZeros_33 rfl (lv_at hl 0 rfl) ?_
    refine lv_sipush (v := iI (((256 : Nat) : Int))) hx hb dJ6_numberOfLeadingZeros_34 (by decide +kernel) ?_
    refine rz_clt (tgt := 48) hx hb dJ6_numberOfLeadingZeros_37 (by decide) (by omega) (by omega) (fun c3 => ?_) (fun c3 => ?_)
    · exact K48 (n) (i) (by omega) (by omega) (by first | (rw [← hv, lJ1, if_pos (by omega)]) | (rw [← hv, lJ1, if_neg (by omega)])) _ _ _ hP hD hS (lv_sub hl [0, 1] rfl)
    · refine lv_iinc (v := iI (((n - 8 : Nat) : Int))) (lv' := [(1, .int (iI (((n - 8 : Nat) : Int)))), (0, .int (iI (((i : Nat) : Int))))]) hx hb dJ6_numberOfLeadingZeros_40 hl (k := 1) rfl (iI_decK (k := 8) (by omega)) (by decide) rfl (fun ls hl => ?_)
      refine lv_iload_n hx hb dJ6_numberOfLeadingZeros_43 rfl (lv_at hl 1 rfl) ?_
      refine lv_bipush (v := iI (((8 : Nat) : Int))) hx hb dJ6_numberOfLeadingZeros_44 (by decide +kernel) ?_
      refine rz_ushr hx hb dJ6_numberOfLeadingZeros_46 (by omega) (by omega) ?_
      refine lv_istore_n (lv' := [(0, .int (iI (((i / 2 ^ 8 : Nat) : Int)))), (1, .int (iI (((n - 8 : Nat) : Int))))]) hx hb dJ6_numberOfLeadingZeros_47 rfl hl (by decide) rfl (fun ls hl => ?_)
      exact K48 (n - 8) (i / 2 ^ 8) (by omega) (by omega) (by first | (rw [← hv, lJ1, if_pos (by omega)]) | (rw [← hv, lJ1, if_neg (by omega)])) _ _ _ hP hD hS (lv_sub hl [0, 1] rfl)
  refine lv_iload_n hx hb dJ6_numberOfLeadingZeros_0 rfl (lv_at hl 0 rfl) ?_
  refine rz_igt (tgt := 15) hx hb dJ6_numberOfLeadingZeros_1 (by decide) (by omega) (fun c4 => ?_) (fun c4 => ?_)
  · refine lv_bipush (v := iI (((31 : Nat) : Int))) hx hb dJ6_numberOfLeadingZeros_15 (by decide +kernel) ?_
    refine lv_istore_n (lv' := [(1, .int (iI (((31 : Nat) : Int)))), (0, .int (iI (((x : Nat) : Int))))]) hx hb dJ6_numberOfLeadingZeros_17 rfl hl (by decide) rfl (fun ls hl => ?_)
    refine lv_iload_n hx hb dJ6_numberOfLeadingZeros_18 rfl (lv_at hl 1 rfl) ?_
    refine lv_ldcw (v := iI (((65536 : Nat) : Int))) hx hb hown (hts _ (List.mem_cons_of_mem _ tc_J6_264)) dJ6_numberOfLeadingZeros_19 ?_
    refine rz_clt (tgt := 33) hx hb dJ6_numberOfLeadingZeros_22 (by decide) (by omega) (by omega) (fun c5 => ?_) (fun c5 => ?_)
    · exact K33 (31) (x) (by omega) (by omega) (by rw [nlzV, if_neg (by omega)]) _ _ _ hP hD hS (lv_sub hl [1, 0] rfl)
    · exfalso; omega
  · refine lv_iload_n hx hb dJ6_numberOfLeadingZeros_4 rfl (lv_at hl 0 rfl) ?_
    refine rz_ine (tgt := 13) hx hb dJ6_numberOfLeadingZeros_5 (by decide) (by omega) (fun c6 => ?_) (fun c6 => ?_)
    · exfalso; omega
    · refine lv_bipush (v := iI (((32 : Nat) : Int))) hx hb dJ6_numberOfLeadingZeros_8 (by decide +kernel) ?_
      refine lv_goto (tgt := 14) hx hb dJ6_numberOfLeadingZeros_10 (by decide) ?_
      exact hret _ _ _ _ _ _ dJ6_numberOfLeadingZeros_14 ⟨rfl, (by rw [nlzV, if_pos (by omega)])⟩ hP hD hS

set_option maxHeartbeats 4000000 in
set_option maxRecDepth 100000 in
theorem k_X2_firstStart (l : Launch) (D : va_G) (cI cZ : ClassId) (sz : Nat) (x : Nat) (hx2 : x < 1073741824) : Ci l yX2_firstStart wsX2_firstStart (rmD 1) D vwCl [(cI, .int), (cZ, .boolean)] [.int (iI (((x : Nat) : Int)))] [] sz (fun z w => w = [] ∧ (z = ((ntzV (stI x) : Nat) : Int))) 0 0 := by
  refine Ci_of (cc := cX2_firstStart) (nL := 1) (by decide) rfl (Nat.le_of_ble_eq_true rfl) ?_
  intro p e s m below meth c A Q hsz C hK hN hA hP hD hS hret ls hl
  obtain ⟨hx, hb, hml, hown, hts⟩ := id C
  have hown : s.vm.findClass RX2 = some m.cls := hown
  have hl : lv_has ls 1 [(0, .int (iI (((x : Nat) : Int))))] := hl
  refine lv_iload_n hx hb dX2_firstStart_0 rfl (lv_at hl 0 rfl) ?_
  have hPc := hP.sub (ws' := []) [] rfl
  have hDc := hD.sub (ws' := []) [] (by decide) rfl
  refine rz_calliR (va_runS (As := [.int (iI (((x : Nat) : Int)))]) (rest := []) ⟨hx, hb, hml, hown, hts⟩ (k_X2_startsIn l D cI cZ s.heap.size x (by omega)) (va_cwS 1 hts (gG (g_S tm_X2_117 ts_X2_startsIn tin_X2 cmX2_startsIn)) rfl rfl rfl (by decide +kernel) ⟨Nat.le_of_ble_eq_true rfl, Nat.le_of_ble_eq_true rfl⟩) ⟨cP_blind, cP_pre hPc hK hN hDc⟩ rfl rfl hl.1 rfl (lv_room (Nat.le_of_ble_eq_true rfl)) dX2_firstStart_1 ⟨Nat.le_refl _, Nat.le_refl _⟩) hP hD hS hA [] rfl (fun z1 H locs hp hP hS => ?_)
  subst hp
  have hPc := hP.sub (ws' := []) [] rfl
  have hDc := hD.sub (ws' := []) [] (by decide) rfl
  refine rz_calliR (va_runS (As := [.int (iI (((stI x : Nat) : Int)))]) (rest := []) ⟨hx, hb, hml, hown, hts⟩ (k_J6_numberOfTrailingZeros l D cI cZ H.size (stI x) (stI_lt _)) (va_cwS 1 hts (gG (g_S tm_X2_120 ts_J6_numberOfTrailingZeros tin_J6 cmJ6_numberOfTrailingZeros)) rfl rfl rfl (by decide +kernel) ⟨Nat.le_of_ble_eq_true rfl, Nat.le_of_ble_eq_true rfl⟩) ⟨cP_blind, cP_pre hPc hK hN hDc⟩ rfl rfl hl.1 rfl (lv_room (Nat.le_of_ble_eq_true rfl)) dX2_firstStart_4 ⟨Nat.le_refl _, Nat.le_refl _⟩) hP hD hS hA [] rfl (fun z2 H locs hp hP hS => ?_)
  subst hp
  exact hret _ _ _ _ _ _ dX2_firstStart_7 ⟨rfl, rfl⟩ hP hD hS

set_option maxHeartbeats 4000000 in
set_option maxRecDepth 100000 in
theorem k_X2_lastStart (l : Launch) (D : va_G) (cI cZ : ClassId) (sz : Nat) (x : Nat) (hx2 : x < 1073741824) : Ci l yX2_lastStart wsX2_lastStart (rmD 1) D vwCl [(cI, .int), (cZ, .boolean)] [.int (iI (((x : Nat) : Int)))] [] sz (fun z w => w = [] ∧ (z = ((31 : Nat) : Int) - ((nlzV (stI x) : Nat) : Int))) 0 0 := by
  refine Ci_of (cc := cX2_lastStart) (nL := 1) (by decide) rfl (Nat.le_of_ble_eq_true rfl) ?_
  intro p e s m below meth c A Q hsz C hK hN hA hP hD hS hret ls hl
  obtain ⟨hx, hb, hml, hown, hts⟩ := id C
  have hown : s.vm.findClass RX2 = some m.cls := hown
  have hl : lv_has ls 1 [(0, .int (iI (((x : Nat) : Int))))] := hl
  refine lv_bipush (v := iI (((31 : Nat) : Int))) hx hb dX2_lastStart_0 (by decide +kernel) ?_
  refine lv_iload_n hx hb dX2_lastStart_2 rfl (lv_at hl 0 rfl) ?_
  have hPc := hP.sub (ws' := []) [] rfl
  have hDc := hD.sub (ws' := []) [] (by decide) rfl
  refine rz_calliR (va_runS (As := [.int (iI (((x : Nat) : Int)))]) (rest := [.int (iI (((31 : Nat) : Int)))]) ⟨hx, hb, hml, hown, hts⟩ (k_X2_startsIn l D cI cZ s.heap.size x (by omega)) (va_cwS 1 hts (gG (g_S tm_X2_117 ts_X2_startsIn tin_X2 cmX2_startsIn)) rfl rfl rfl (by decide +kernel) ⟨Nat.le_of_ble_eq_true rfl, Nat.le_of_ble_eq_true rfl⟩) ⟨cP_blind, cP_pre hPc hK hN hDc⟩ rfl rfl hl.1 rfl (lv_room (Nat.le_of_ble_eq_true rfl)) dX2_lastStart_3 ⟨Nat.le_refl _, Nat.le_refl _⟩) hP hD hS hA [] rfl (fun z1 H locs hp hP hS => ?_)
  subst hp
  have hPc := hP.sub (ws' := []) [] rfl
  have hDc := hD.sub (ws' := []) [] (by decide) rfl
  refine rz_calliR (va_runS (As := [.int (iI (((stI x : Nat) : Int)))]) (rest := [.int (iI (((31 : Nat) : Int)))]) ⟨hx, hb, hml, hown, hts⟩ (k_J6_numberOfLeadingZeros l D cI cZ H.size (stI x) (stI_lt _)) (va_cwS 1 hts (gG (g_S tm_X2_125 ts_J6_numberOfLeadingZeros tin_J6 cmJ6_numberOfLeadingZeros)) rfl rfl rfl (by decide +kernel) ⟨Nat.le_of_ble_eq_true rfl, Nat.le_of_ble_eq_true rfl⟩) ⟨cP_blind, cP_pre hPc hK hN hDc⟩ rfl rfl hl.1 rfl (lv_room (Nat.le_of_ble_eq_true rfl)) dX2_lastStart_6 ⟨Nat.le_refl _, Nat.le_refl _⟩) hP hD hS hA [] rfl (fun z2 H locs hp hP hS => ?_)
  subst hp
  refine rz_sub hx hb dX2_lastStart_9 ?_
  exact hret _ _ _ _ _ _ dX2_lastStart_10 ⟨rfl, rfl⟩ hP hD hS

set_option maxHeartbeats 4000000 in
set_option maxRecDepth 100000 in
theorem k_X2_bestChanges (l : Launch) (D : va_G) (cI cZ : ClassId) (sz : Nat) (hQ : Nat) (qb : Nat) (ql : Nat) (qh : Nat) (qf : Nat) (qg : Nat) (qa : Nat) (qo : Nat) (qt : Nat) (n : Nat) (bw : Nat) (hbw : bw < 10000) : Ci l yX2_bestChanges wsX2_bestChanges (rmD 0) D vwCl [(cI, .int), (cZ, .boolean)] [.ref hQ] [(hQ, .inr (2, [.ref qb, .ref ql, .ref qh, .ref qf, .ref qg, .ref qa, .ref qo, .ref qt, .int (iI (((n : Nat) : Int))), .int (iI (((bw : Nat) : Int)))]))] sz (fun z w => w = [(hQ, .inr (2, [.ref qb, .ref ql, .ref qh, .ref qf, .ref qg, .ref qa, .ref qo, .ref qt, .int (iI (((n : Nat) : Int))), .int (iI (((bw : Nat) : Int)))]))] ∧ (z = ((bw / 64 : Nat) : Int))) 0 0 := by
  refine Ci_of (cc := cX2_bestChanges) (nL := 1) (by decide) rfl (Nat.le_of_ble_eq_true rfl) ?_
  intro p e s m below meth c A Q hsz C hK hN hA hP hD hS hret ls hl
  obtain ⟨hx, hb, hml, hown, hts⟩ := id C
  have hown : s.vm.findClass RX2 = some m.cls := hown
  have hl : lv_has ls 1 [(0, .ref hQ)] := hl
  have in_X2 : ∀ w ∈ u_ws RX2 TX2 10, w ∈ wsX2_bestChanges := fun w h => List.mem_cons_of_mem _ (inX2 w h)
  refine lv_aload_n hx hb dX2_bestChanges_0 rfl (lv_at hl 0 rfl) ?_
  refine va_get (D := D) (ci := 2) (v := .int (iI (((bw : Nat) : Int)))) (C := RX2) (T := TX2) (N := 10) hx hb hts in_X2 hown hK hP 0 rfl rfl 9 (by decide) (hts _ (List.mem_cons_of_mem _ tf_X2_36)) (fun _ h9 => h9) rfl dX2_bestChanges_1 ?_
  refine lv_bipush (v := iI (((64 : Nat) : Int))) hx hb dX2_bestChanges_4 (by decide +kernel) ?_
  refine rn_div hx hb dX2_bestChanges_6 (by omega) (by omega) ?_
  exact hret _ _ _ _ _ _ dX2_bestChanges_7 ⟨rfl, rfl⟩ hP hD hS

set_option maxHeartbeats 4000000 in
set_option maxRecDepth 100000 in
theorem k_X2_bestCost (l : Launch) (D : va_G) (cI cZ : ClassId) (sz : Nat) (hQ : Nat) (qb : Nat) (ql : Nat) (qh : Nat) (qf : Nat) (qg : Nat) (qa : Nat) (qo : Nat) (qt : Nat) (n : Nat) (bw : Nat) (hbw : bw < 10000) : Ci l yX2_bestCost wsX2_bestCost (rmD 0) D vwCl [(cI, .int), (cZ, .boolean)] [.ref hQ] [(hQ, .inr (2, [.ref qb, .ref ql, .ref qh, .ref qf, .ref qg, .ref qa, .ref qo, .ref qt, .int (iI (((n : Nat) : Int))), .int (iI (((bw : Nat) : Int)))]))] sz (fun z w => w = [(hQ, .inr (2, [.ref qb, .ref ql, .ref qh, .ref qf, .ref qg, .ref qa, .ref qo, .ref qt, .int (iI (((n : Nat) : Int))), .int (iI (((bw : Nat) : Int)))]))] ∧ (z = ((bw % 64 : Nat) : Int))) 0 0 := by
  refine Ci_of (cc := cX2_bestCost) (nL := 1) (by decide) rfl (Nat.le_of_ble_eq_true rfl) ?_
  intro p e s m below meth c A Q hsz C hK hN hA hP hD hS hret ls hl
  obtain ⟨hx, hb, hml, hown, hts⟩ := id C
  have hown : s.vm.findClass RX2 = some m.cls := hown
  have hl : lv_has ls 1 [(0, .ref hQ)] := hl
  have in_X2 : ∀ w ∈ u_ws RX2 TX2 10, w ∈ wsX2_bestCost := fun w h => List.mem_cons_of_mem _ (inX2 w h)
  refine lv_aload_n hx hb dX2_bestCost_0 rfl (lv_at hl 0 rfl) ?_
  refine va_get (D := D) (ci := 2) (v := .int (iI (((bw : Nat) : Int)))) (C := RX2) (T := TX2) (N := 10) hx hb hts in_X2 hown hK hP 0 rfl rfl 9 (by decide) (hts _ (List.mem_cons_of_mem _ tf_X2_36)) (fun _ h9 => h9) rfl dX2_bestCost_1 ?_
  refine lv_bipush (v := iI (((64 : Nat) : Int))) hx hb dX2_bestCost_4 (by decide +kernel) ?_
  refine rn_rem hx hb dX2_bestCost_6 (by omega) (by omega) ?_
  exact hret _ _ _ _ _ _ dX2_bestCost_7 ⟨rfl, rfl⟩ hP hD hS

set_option maxHeartbeats 4000000 in
set_option maxRecDepth 100000 in
theorem k_X2_weightAt (l : Launch) (D : va_G) (cI cZ : ClassId) (sz : Nat) (hQ : Nat) (qb : Nat) (ql : Nat) (qh : Nat) (qf : Nat) (qg : Nat) (qa : Nat) (qo : Nat) (qt : Nat) (n : Nat) (bw : Nat) (hm : Nat → Nat) (b : Nat) (q : Nat) (hb4 : b < 4) (hq : q < 30) (hhm : ∀ j, hm j < 30) : Ci l yX2_weightAt wsX2_weightAt (rmD 1) D vwCl [(cI, .int), (cZ, .boolean)] [.ref hQ, .int (iI (((b : Nat) : Int))), .int (iI (((q : Nat) : Int)))] [(hQ, .inr (2, [.ref qb, .ref ql, .ref qh, .ref qf, .ref qg, .ref qa, .ref qo, .ref qt, .int (iI (((n : Nat) : Int))), .int (iI (((bw : Nat) : Int)))])), ce_i qh cI 4 (nZ (hm))] sz (fun z w => w = [(hQ, .inr (2, [.ref qb, .ref ql, .ref qh, .ref qf, .ref qg, .ref qa, .ref qo, .ref qt, .int (iI (((n : Nat) : Int))), .int (iI (((bw : Nat) : Int)))])), ce_i qh cI 4 (nZ (hm))] ∧ (z = ((wAt (hm b) q : Nat) : Int))) 0 0 := by
  refine Ci_of (cc := cX2_weightAt) (nL := 5) (by decide) rfl (Nat.le_of_ble_eq_true rfl) ?_
  intro p e s m below meth c A Q hsz C hK hN hA hP hD hS hret ls hl
  obtain ⟨hx, hb, hml, hown, hts⟩ := id C
  have hown : s.vm.findClass RX2 = some m.cls := hown
  have hl : lv_has ls 5 [(0, .ref hQ), (1, .int (iI (((b : Nat) : Int)))), (2, .int (iI (((q : Nat) : Int))))] := hl
  have in_X2 : ∀ w ∈ u_ws RX2 TX2 10, w ∈ wsX2_weightAt := fun w h => List.mem_cons_of_mem _ (inX2 w h)
  have h30 : hm b < 30 := hhm b
  refine lv_aload_n hx hb dX2_weightAt_0 rfl (lv_at hl 0 rfl) ?_
  refine va_get (D := D) (ci := 2) (v := .ref qh) (C := RX2) (T := TX2) (N := 10) hx hb hts in_X2 hown hK hP 0 rfl rfl 2 (by decide) (hts _ (List.mem_cons_of_mem _ tf_X2_18)) (fun _ h9 => h9) rfl dX2_weightAt_1 ?_
  refine lv_iload_n hx hb dX2_weightAt_4 rfl (lv_at hl 1 rfl) ?_
  refine rn_aldM hx hb hK hP 1 0 rfl rfl (by omega) (by omega) dX2_weightAt_5 ?_
  refine lv_istore_n (lv' := [(3, .int (iI (((hm b : Nat) : Int)))), (0, .ref hQ), (1, .int (iI (((b : Nat) : Int)))), (2, .int (iI (((q : Nat) : Int))))]) hx hb dX2_weightAt_6 rfl hl (by decide) rfl (fun ls hl => ?_)
  refine lv_iload_n hx hb dX2_weightAt_7 rfl (lv_at hl 3 rfl) ?_
  refine lv_iload_n hx hb dX2_weightAt_8 rfl (lv_at hl 0 rfl) ?_
  refine rz_cne (tgt := 14) hx hb dX2_weightAt_9 (by decide) (by omega) (by omega) (fun c1 => ?_) (fun c1 => ?_)
  · refine lv_iload_n hx hb dX2_weightAt_14 rfl (lv_at hl 3 rfl) ?_
    have hPc := hP.sub (ws' := []) [] rfl
    have hDc := hD.sub (ws' := []) [] (by decide) rfl
    refine rz_calliR (va_runSN (As := [.int (iI (((q : Nat) : Int)))]) (rest := []) ⟨hx, hb, hml, hown, hts⟩ (k_X4_startOfPlace l D cI cZ s.heap.size q (by omega)) ⟨va_cnB 1 hts (gG (g_c cmX4_startOfPlace)) rfl rfl rfl (nK_X2_65 hN) (hts _ (List.mem_cons_of_mem _ tin_X4)) (by decide +kernel) ⟨Nat.le_of_ble_eq_true rfl, Nat.le_of_ble_eq_true rfl⟩, hts _ (List.mem_cons_of_mem _ ts_X4_startOfPlace), trivial⟩ ⟨cP_blind, cP_pre hPc hK hN hDc⟩ rfl rfl hl.1 rfl (lv_room (Nat.le_of_ble_eq_true rfl)) dX2_weightAt_15 ⟨Nat.le_refl _, Nat.le_refl _⟩) hP hD hS hA [] rfl (fun z2 H locs hp hP hS => ?_)
    subst hp
    refine lv_iload_n hx hb dX2_weightAt_18 rfl (lv_at hl 0 rfl) ?_
    have hPc := hP.sub (ws' := []) [] rfl
    have hDc := hD.sub (ws' := []) [] (by decide) rfl
    refine rz_calliR (va_runSN (As := [.int (iI (((hm b : Nat) : Int)))]) (rest := [.int (iI (((q % 10 : Nat) : Int)))]) ⟨hx, hb, hml, hown, hts⟩ (k_X4_startOfPlace l D cI cZ H.size (hm b) (by omega)) ⟨va_cnB 1 hts (gG (g_c cmX4_startOfPlace)) rfl rfl rfl (nK_X2_65 hN) (hts _ (List.mem_cons_of_mem _ tin_X4)) (by decide +kernel) ⟨Nat.le_of_ble_eq_true rfl, Nat.le_of_ble_eq_true rfl⟩, hts _ (List.mem_cons_of_mem _ ts_X4_startOfPlace), trivial⟩ ⟨cP_blind, cP_pre hPc hK hN hDc⟩ rfl rfl hl.1 rfl (lv_room (Nat.le_of_ble_eq_true rfl)) dX2_weightAt_19 ⟨Nat.le_refl _, Nat.le_refl _⟩) hP hD hS hA [] rfl (fun z3 H locs hp hP hS => ?_)
    subst hp
    refine rz_sub hx hb dX2_weightAt_22 ?_
    refine rz_mabs (rest := []) hx hb (hml.trans hl.1.symm) hown hts tm_X2_146 (Nat.le_of_ble_eq_true rfl) (Nat.le_of_ble_eq_true rfl) (Nat.le_refl _) (Nat.le_refl _) dX2_weightAt_23 (by omega) ?_
    refine rz_as (y := ((q % 10 - hm b % 10 + (hm b % 10 - q % 10) : Nat) : Int)) (by split <;> omega) ?_
    refine lv_istore (lv' := [(4, .int (iI (((q % 10 - hm b % 10 + (hm b % 10 - q % 10) : Nat) : Int)))), (3, .int (iI (((hm b : Nat) : Int)))), (0, .ref hQ), (1, .int (iI (((b : Nat) : Int)))), (2, .int (iI (((q : Nat) : Int))))]) hx hb dX2_weightAt_26 hl (by decide) rfl (fun ls hl => ?_)
    refine lv_bipush (v := iI (((64 : Nat) : Int))) hx hb dX2_weightAt_28 (by decide +kernel) ?_
    refine lv_iload hx hb dX2_weightAt_30 (lv_at hl 0 rfl) ?_
    refine rn_add hx hb dX2_weightAt_32 ?_
    refine lv_iload_n hx hb dX2_weightAt_33 rfl (lv_at hl 4 rfl) ?_
    have hPc := hP.sub (ws' := []) [] rfl
    have hDc := hD.sub (ws' := []) [] (by decide) rfl
    refine rz_calliR (va_runSN (As := [.int (iI (((q : Nat) : Int)))]) (rest := [.int (iI (((64 + (q % 10 - hm b % 10 + (hm b % 10 - q % 10)) : Nat) : Int)))]) ⟨hx, hb, hml, hown, hts⟩ (k_X4_tankOfPlace l D cI cZ H.size q (by omega)) ⟨va_cnB 1 hts (gG (g_c cmX4_tankOfPlace)) rfl rfl rfl (nK_X2_149 hN) (hts _ (List.mem_cons_of_mem _ tin_X4)) (by decide +kernel) ⟨Nat.le_of_ble_eq_true rfl, Nat.le_of_ble_eq_true rfl⟩, hts _ (List.mem_cons_of_mem _ ts_X4_tankOfPlace), trivial⟩ ⟨cP_blind, cP_pre hPc hK hN hDc⟩ rfl rfl hl.1 rfl (lv_room (Nat.le_of_ble_eq_true rfl)) dX2_weightAt_34 ⟨Nat.le_refl _, Nat.le_refl _⟩) hP hD hS hA [] rfl (fun z4 H locs hp hP hS => ?_)
    subst hp
    refine lv_iload_n hx hb dX2_weightAt_37 rfl (lv_at hl 1 rfl) ?_
    have hPc := hP.sub (ws' := []) [] rfl
    have hDc := hD.sub (ws' := []) [] (by decide) rfl
    refine rz_calliR (va_runSN (As := [.int (iI (((hm b : Nat) : Int)))]) (rest := [.int (iI (((q / 10 : Nat) : Int))), .int (iI (((64 + (q % 10 - hm b % 10 + (hm b % 10 - q % 10)) : Nat) : Int)))]) ⟨hx, hb, hml, hown, hts⟩ (k_X4_tankOfPlace l D cI cZ H.size (hm b) (by omega)) ⟨va_cnB 1 hts (gG (g_c cmX4_tankOfPlace)) rfl rfl rfl (nK_X2_149 hN) (hts _ (List.mem_cons_of_mem _ tin_X4)) (by decide +kernel) ⟨Nat.le_of_ble_eq_true rfl, Nat.le_of_ble_eq_true rfl⟩, hts _ (List.mem_cons_of_mem _ ts_X4_tankOfPlace), trivial⟩ ⟨cP_blind, cP_pre hPc hK hN hDc⟩ rfl rfl hl.1 rfl (lv_room (Nat.le_of_ble_eq_true rfl)) dX2_weightAt_38 ⟨Nat.le_refl _, Nat.le_refl _⟩) hP hD hS hA [] rfl (fun z5 H locs hp hP hS => ?_)
    subst hp
    refine rz_cne (tgt := 48) hx hb dX2_weightAt_41 (by decide) (by omega) (by omega) (fun c6 => ?_) (fun c6 => ?_)
    · refine lv_iconst (v := iI (((3 : Nat) : Int))) hx hb dX2_weightAt_48 (by decide +kernel) ?_
      refine rn_add hx hb dX2_weightAt_49 ?_
      exact hret _ _ _ _ _ _ dX2_weightAt_50 ⟨rfl, (by unfold wAt; split <;> (try split) <;> omega)⟩ hP hD hS
    · refine lv_iconst (v := iI (((0 : Nat) : Int))) hx hb dX2_weightAt_44 (by decide +kernel) ?_
      refine lv_goto (tgt := 49) hx hb dX2_weightAt_45 (by decide) ?_
      refine rn_add hx hb dX2_weightAt_49 ?_
      exact hret _ _ _ _ _ _ dX2_weightAt_50 ⟨rfl, (by unfold wAt; split <;> (try split) <;> omega)⟩ hP hD hS
  · refine lv_iconst (v := iI (((0 : Nat) : Int))) hx hb dX2_weightAt_12 (by decide +kernel) ?_
    exact hret _ _ _ _ _ _ dX2_weightAt_13 ⟨rfl, (by unfold wAt; split <;> (try split) <;> omega)⟩ hP hD hS

set_option maxHeartbeats 4000000 in
set_option maxRecDepth 100000 in
theorem k_X2_leastWeightFrom (l : Launch) (D : va_G) (cI cZ : ClassId) (sz : Nat) (hQ : Nat) (qb : Nat) (ql : Nat) (qh : Nat) (qf : Nat) (qg : Nat) (qa : Nat) (qo : Nat) (qt : Nat) (n : Nat) (bw : Nat) (hm : Nat → Nat) (op : Nat → Nat) (b : Nat) (hn : n ≤ 4) (hb4 : b ≤ n) (hhm : ∀ j, hm j < 30) (hop : ∀ j, op j < 1073741824) : Ci l yX2_leastWeightFrom wsX2_leastWeightFrom (rmD 0) D vwCl [(cI, .int), (cZ, .boolean)] [.ref hQ, .int (iI (((b : Nat) : Int)))] [(hQ, .inr (2, [.ref qb, .ref ql, .ref qh, .ref qf, .ref qg, .ref qa, .ref qo, .ref qt, .int (iI (((n : Nat) : Int))), .int (iI (((bw : Nat) : Int)))])), ce_i qh cI 4 (nZ (hm)), ce_i qo cI 16 (nZ (op))] sz (fun z w => w = [(hQ, .inr (2, [.ref qb, .ref ql, .ref qh, .ref qf, .ref qg, .ref qa, .ref qo, .ref qt, .int (iI (((n : Nat) : Int))), .int (iI (((bw : Nat) : Int)))])), ce_i qh cI 4 (nZ (hm)), ce_i qo cI 16 (nZ (op))] ∧ (z = ((lwF op hm (b * 4) n (n - b) : Nat) : Int))) 0 0 := by
  refine Ci_of (cc := cX2_leastWeightFrom) (nL := 4) (by decide) rfl (Nat.le_of_ble_eq_true rfl) ?_
  intro p e s m below meth c A Q hsz C hK hN hA hP hD hS hret ls hl
  obtain ⟨hx, hb, hml, hown, hts⟩ := id C
  have hown : s.vm.findClass RX2 = some m.cls := hown
  have hl : lv_has ls 4 [(0, .ref hQ), (1, .int (iI (((b : Nat) : Int))))] := hl
  have in_X2 : ∀ w ∈ u_ws RX2 TX2 10, w ∈ wsX2_leastWeightFrom := fun w h => List.mem_cons_of_mem _ (inX2 w h)
  have K4 : ∀ (fu : Nat) (o : Nat) (wt : Nat), n - o < fu → (b ≤ o ∧ o ≤ n) → (wt ≤ 65 * (o - b)) → (wt + lwF op hm (b * 4) n (n - o) = lwF op hm (b * 4) n (n - b)) → ∀ (H : Heap) (locs : List Loc) (ls : Array Slot), va_P D vwCl [(hQ, .inr (2, [.ref qb, .ref ql, .ref qh, .ref qf, .ref qg, .ref qa, .ref qo, .ref qt, .int (iI (((n : Nat) : Int))), .int (iI (((bw : Nat) : Int)))])), ce_i qh cI 4 (nZ (hm)), ce_i qo cI 16 (nZ (op))] H → va_D A [(hQ, .inr (2, [.ref qb, .ref ql, .ref qh, .ref qf, .ref qg, .ref qa, .ref qo, .ref qt, .int (iI (((n : Nat) : Int))), .int (iI (((bw : Nat) : Int)))])), ce_i qh cI 4 (nZ (hm)), ce_i qo cI 16 (nZ (op))] → va_S A s.heap H locs → lv_has ls 4 [(0, .ref hQ), (1, .int (iI (((b : Nat) : Int)))), (2, .int (iI (((wt : Nat) : Int)))), (3, .int (iI (((o : Nat) : Int))))] → W p l e (rmD 0) s m ([.ref hQ, .int (iI (((b : Nat) : Int)))] : List Value).toArray below meth c H locs 0 0 Q (F0 m 4 ls []) := by
    intro fu
    induction fu with
    | zero => intro o wt hmu; exact absurd hmu (Nat.not_lt_zero _)
    | succ fu ih =>
      intro o wt hmu ho hw1 hw H locs ls hP hD hS hl
      refine lv_iload_n hx hb dX2_leastWeightFrom_4 rfl (lv_at hl 3 rfl) ?_
      refine lv_aload_n hx hb dX2_leastWeightFrom_5 rfl (lv_at hl 0 rfl) ?_
      refine va_get (D := D) (ci := 2) (v := .int (iI (((n : Nat) : Int)))) (C := RX2) (T := TX2) (N := 10) hx hb hts in_X2 hown hK hP 0 rfl rfl 8 (by decide) (hts _ (List.mem_cons_of_mem _ tf_X2_45)) (fun _ h9 => h9) rfl dX2_leastWeightFrom_6 ?_
      refine rz_cge (tgt := 43) hx hb dX2_leastWeightFrom_9 (by decide) (by omega) (by omega) (fun c1 => ?_) (fun c1 => ?_)
      · refine lv_iload_n hx hb dX2_leastWeightFrom_43 rfl (lv_at hl 2 rfl) ?_
        exact hret _ _ _ _ _ _ dX2_leastWeightFrom_44 ⟨rfl, (by rw [← hw, show n - o = 0 by omega]; rfl)⟩ hP hD hS
      · refine lv_aload_n hx hb dX2_leastWeightFrom_12 rfl (lv_at hl 0 rfl) ?_
        refine va_get (D := D) (ci := 2) (v := .ref qo) (C := RX2) (T := TX2) (N := 10) hx hb hts in_X2 hown hK hP 0 rfl rfl 6 (by decide) (hts _ (List.mem_cons_of_mem _ tf_X2_30)) (fun _ h9 => h9) rfl dX2_leastWeightFrom_13 ?_
        refine lv_iload_n hx hb dX2_leastWeightFrom_16 rfl (lv_at hl 1 rfl) ?_
        refine lv_iconst (v := iI (((4 : Nat) : Int))) hx hb dX2_leastWeightFrom_17 (by decide +kernel) ?_
        refine rn_mul hx hb dX2_leastWeightFrom_18 ?_
        refine lv_iload_n hx hb dX2_leastWeightFrom_19 rfl (lv_at hl 3 rfl) ?_
        refine rn_add hx hb dX2_leastWeightFrom_20 ?_
        refine rn_aldM hx hb hK hP 2 0 rfl rfl (by omega) (by omega) dX2_leastWeightFrom_21 ?_
        refine lv_aload_n hx hb dX2_leastWeightFrom_22 rfl (lv_at hl 0 rfl) ?_
        refine va_get (D := D) (ci := 2) (v := .ref qh) (C := RX2) (T := TX2) (N := 10) hx hb hts in_X2 hown hK hP 0 rfl rfl 2 (by decide) (hts _ (List.mem_cons_of_mem _ tf_X2_18)) (fun _ h9 => h9) rfl dX2_leastWeightFrom_23 ?_
        refine lv_iload_n hx hb dX2_leastWeightFrom_26 rfl (lv_at hl 3 rfl) ?_
        refine rn_aldM hx hb hK hP 1 0 rfl rfl (by omega) (by omega) dX2_leastWeightFrom_27 ?_
        refine rz_shr hx hb dX2_leastWeightFrom_28 (by have := hhm o; omega) (by have := hop (b * 4 + o); omega) ?_
        refine lv_iconst (v := iI (((1 : Nat) : Int))) hx hb dX2_leastWeightFrom_29 (by decide +kernel) ?_
        refine rz_and hx hb dX2_leastWeightFrom_30 ?_
        refine rz_ine (tgt := 37) hx hb dX2_leastWeightFrom_31 (by decide) (by have := tb_r (op (b * 4 + o)) (hm o); omega) (fun c2 => ?_) (fun c2 => ?_)
        · have c2 := tb_t c2
          refine lv_iinc (v := iI (((o + 1 : Nat) : Int))) (lv' := [(3, .int (iI (((o + 1 : Nat) : Int)))), (0, .ref hQ), (1, .int (iI (((b : Nat) : Int)))), (2, .int (iI (((wt : Nat) : Int))))]) hx hb dX2_leastWeightFrom_37 hl (k := 3) rfl (iI_inc _) (by decide) rfl (fun ls hl => ?_)
          refine lv_goto (tgt := 4) hx hb dX2_leastWeightFrom_40 (by decide) ?_
          exact ih (o + 1) (wt) (by omega) (by omega) (by omega) (by rw [← hw, show n - o = (n - (o + 1)) + 1 by omega, lwF, show n - (n - (o + 1) + 1) = o by omega]; first | (rw [if_pos (by assumption)]; omega) | (rw [if_neg (by simp_all)]; omega)) _ _ _ hP hD hS (lv_sub hl [1, 2, 3, 0] rfl)
        · have c2 := tb_f c2
          refine lv_iinc (v := iI (((wt + 65 : Nat) : Int))) (lv' := [(2, .int (iI (((wt + 65 : Nat) : Int)))), (0, .ref hQ), (1, .int (iI (((b : Nat) : Int)))), (3, .int (iI (((o : Nat) : Int))))]) hx hb dX2_leastWeightFrom_34 hl (k := 2) rfl (iI_incK _ 65) (by decide) rfl (fun ls hl => ?_)
          refine lv_iinc (v := iI (((o + 1 : Nat) : Int))) (lv' := [(3, .int (iI (((o + 1 : Nat) : Int)))), (2, .int (iI (((wt + 65 : Nat) : Int)))), (0, .ref hQ), (1, .int (iI (((b : Nat) : Int))))]) hx hb dX2_leastWeightFrom_37 hl (k := 3) rfl (iI_inc _) (by decide) rfl (fun ls hl => ?_)
          refine lv_goto (tgt := 4) hx hb dX2_leastWeightFrom_40 (by decide) ?_
          exact ih (o + 1) (wt + 65) (by omega) (by omega) (by omega) (by rw [← hw, show n - o = (n - (o + 1)) + 1 by omega, lwF, show n - (n - (o + 1) + 1) = o by omega]; first | (rw [if_pos (by assumption)]; omega) | (rw [if_neg (by simp_all)]; omega)) _ _ _ hP hD hS (lv_sub hl [2, 3, 1, 0] rfl)
  refine lv_iconst (v := iI (((0 : Nat) : Int))) hx hb dX2_leastWeightFrom_0 (by decide +kernel) ?_
  refine lv_istore_n (lv' := [(2, .int (iI (((0 : Nat) : Int)))), (0, .ref hQ), (1, .int (iI (((b : Nat) : Int))))]) hx hb dX2_leastWeightFrom_1 rfl hl (by decide) rfl (fun ls hl => ?_)
  refine lv_iload_n hx hb dX2_leastWeightFrom_2 rfl (lv_at hl 2 rfl) ?_
  refine lv_istore_n (lv' := [(3, .int (iI (((b : Nat) : Int)))), (2, .int (iI (((0 : Nat) : Int)))), (0, .ref hQ), (1, .int (iI (((b : Nat) : Int))))]) hx hb dX2_leastWeightFrom_3 rfl hl (by decide) rfl (fun ls hl => ?_)
  exact K4 (n - (b) + 1) (b) (0) (Nat.lt_succ_self _) (by omega) (by omega) (Nat.zero_add _) _ _ _ hP hD hS (lv_sub hl [2, 3, 1, 0] rfl)

set_option maxHeartbeats 4000000 in
set_option maxRecDepth 100000 in
theorem k_J7_fill (l : Launch) (D : va_G) (cI cZ : ClassId) (sz : Nat) (q : Nat) (N0 : Nat) (g : Nat → Int) (v : Int) (hN : N0 < 1000) : Cv l yJ7_fill wsJ7_fill (rmD 0) D vwCl [(cI, .int), (cZ, .boolean)] [.ref q, .int (iI (v))] [ce_i q cI N0 (g)] sz (fun w => ∃ g2 : Nat → Int, w = [ce_i q cI N0 (g2)] ∧ (∀ j : Nat, g2 j = if j < N0 then v else g j)) 0 0 := by
  refine Cv_of (cc := cJ7_fill) (nL := 4) (by decide) rfl (Nat.le_of_ble_eq_true rfl) ?_
  intro p e s m below meth c A Q hsz C hK hN hA hP hD hS hin hret ls hl
  obtain ⟨hx, hb, hml, hown, hts⟩ := id C
  have hown : s.vm.findClass RJ7 = some m.cls := hown
  have hl : lv_has ls 4 [(0, .ref q), (1, .int (iI (v)))] := hl
  have K5 : ∀ (fu : Nat) (i : Nat) (g1 : Nat → Int), N0 - i < fu → (i ≤ N0) → (∀ j : Nat, g1 j = if j < i then v else g j) → ∀ (H : Heap) (locs : List Loc) (ls : Array Slot), va_P D vwCl [ce_i q cI N0 (g1)] H → va_D A [ce_i q cI N0 (g1)] → va_S A s.heap H locs → lv_has ls 4 [(0, .ref q), (1, .int (iI (v))), (2, .int (iI (((i : Nat) : Int)))), (3, .int (iI (((N0 : Nat) : Int))))] → W p l e (rmD 0) s m ([.ref q, .int (iI (v))] : List Value).toArray below meth c H locs 0 0 Q (F0 m 5 ls []) := by
    intro fu
    induction fu with
    | zero => intro i g1 hmu; exact absurd hmu (Nat.not_lt_zero _)
    | succ fu ih =>
      intro i g1 hmu hi hg H locs ls hP hD hS hl
      refine lv_iload_n hx hb dJ7_fill_5 rfl (lv_at hl 2 rfl) ?_
      refine lv_iload_n hx hb dJ7_fill_6 rfl (lv_at hl 3 rfl) ?_
      refine rz_cge (tgt := 20) hx hb dJ7_fill_7 (by decide) (by omega) (by omega) (fun c1 => ?_) (fun c1 => ?_)
      · exact hret _ _ _ _ _ dJ7_fill_20 ⟨_, rfl, fun j => by rw [hg j, show i = N0 by omega]⟩ hP hD hS
      · refine lv_aload_n hx hb dJ7_fill_10 rfl (lv_at hl 0 rfl) ?_
        refine lv_iload_n hx hb dJ7_fill_11 rfl (lv_at hl 2 rfl) ?_
        refine lv_iload_n hx hb dJ7_fill_12 rfl (lv_at hl 1 rfl) ?_
        refine rn_ast hx hb hK hP hD hS 0 0 rfl rfl (by omega) (by omega) dJ7_fill_13 (fun H locs hP hD hS => ?_)
        have hP : va_P D vwCl [ce_i q cI N0 (uZ g1 i v)] H := hP
        have hD : va_D A [ce_i q cI N0 (uZ g1 i v)] := hD
        refine lv_iinc (v := iI (((i + 1 : Nat) : Int))) (lv' := [(2, .int (iI (((i + 1 : Nat) : Int)))), (0, .ref q), (1, .int (iI (v))), (3, .int (iI (((N0 : Nat) : Int))))]) hx hb dJ7_fill_14 hl (k := 2) rfl (iI_inc _) (by decide) rfl (fun ls hl => ?_)
        refine lv_goto (tgt := 5) hx hb dJ7_fill_17 (by decide) ?_
        exact ih (i + 1) (uZ g1 i v) (by omega) (by omega) (fun j => by simp only [uZ]; by_cases h : j = i; (rw [if_pos h, if_pos (by omega)]); (rw [if_neg h, hg j]; by_cases h2 : j < i; (rw [if_pos h2, if_pos (by omega)]); (rw [if_neg h2, if_neg (by omega)]))) _ _ _ hP hD hS (lv_sub hl [1, 2, 0, 3] rfl)
  refine lv_iconst (v := iI (((0 : Nat) : Int))) hx hb dJ7_fill_0 (by decide +kernel) ?_
  refine lv_istore_n (lv' := [(2, .int (iI (((0 : Nat) : Int)))), (0, .ref q), (1, .int (iI (v)))]) hx hb dJ7_fill_1 rfl hl (by decide) rfl (fun ls hl => ?_)
  refine lv_aload_n hx hb dJ7_fill_2 rfl (lv_at hl 1 rfl) ?_
  refine va_alen (v := iI (((N0 : Nat) : Int))) hx hb hK hP 0 0 rfl rfl (iI_n _).symm dJ7_fill_3 ?_
  refine lv_istore_n (lv' := [(3, .int (iI (((N0 : Nat) : Int)))), (2, .int (iI (((0 : Nat) : Int)))), (0, .ref q), (1, .int (iI (v)))]) hx hb dJ7_fill_4 rfl hl (by decide) rfl (fun ls hl => ?_)
  exact K5 (N0 - (0) + 1) (0) (g) (Nat.lt_succ_self _) (by omega) (fun j => by rw [if_neg (Nat.not_lt_zero j)]) _ _ _ hP hD hS (lv_sub hl [2, 3, 1, 0] rfl)

set_option maxHeartbeats 4000000 in
set_option maxRecDepth 100000 in
theorem k_J7_fillM (l : Launch) (D : va_G) (cI cZ : ClassId) (sz : Nat) (q : Nat) (N0 : Nat) (g : Nat → Nat) (hN : N0 < 1000) : Cv l yJ7_fill wsJ7_fill (rmD 0) D vwCl [(cI, .int), (cZ, .boolean)] [.ref q, .int (iI (((0 : Nat) : Int)))] [ce_i q cI N0 (nZ (g))] sz (fun w => ∃ g2 : Nat → Nat, w = [ce_i q cI N0 (nZ (g2))] ∧ (∀ j : Nat, g2 j = if j < N0 then 0 else g j)) 0 0 := by
  refine Cv_of (cc := cJ7_fill) (nL := 4) (by decide) rfl (Nat.le_of_ble_eq_true rfl) ?_
  intro p e s m below meth c A Q hsz C hK hN hA hP hD hS hin hret ls hl
  obtain ⟨hx, hb, hml, hown, hts⟩ := id C
  have hown : s.vm.findClass RJ7 = some m.cls := hown
  have hl : lv_has ls 4 [(0, .ref q), (1, .int (iI (((0 : Nat) : Int))))] := hl
  have K5 : ∀ (fu : Nat) (i : Nat) (g1 : Nat → Nat), N0 - i < fu → (i ≤ N0) → (∀ j : Nat, g1 j = if j < i then 0 else g j) → ∀ (H : Heap) (locs : List Loc) (ls : Array Slot), va_P D vwCl [ce_i q cI N0 (nZ (g1))] H → va_D A [ce_i q cI N0 (nZ (g1))] → va_S A s.heap H locs → lv_has ls 4 [(0, .ref q), (1, .int (iI (((0 : Nat) : Int)))), (2, .int (iI (((i : Nat) : Int)))), (3, .int (iI (((N0 : Nat) : Int))))] → W p l e (rmD 0) s m ([.ref q, .int (iI (((0 : Nat) : Int)))] : List Value).toArray below meth c H locs 0 0 Q (F0 m 5 ls []) := by
    intro fu
    induction fu with
    | zero => intro i g1 hmu; exact absurd hmu (Nat.not_lt_zero _)
    | succ fu ih =>
      intro i g1 hmu hi hg H locs ls hP hD hS hl
      refine lv_iload_n hx hb dJ7_fill_5 rfl (lv_at hl 2 rfl) ?_
      refine lv_iload_n hx hb dJ7_fill_6 rfl (lv_at hl 3 rfl) ?_
      refine rz_cge (tgt := 20) hx hb dJ7_fill_7 (by decide) (by omega) (by omega) (fun c1 => ?_) (fun c1 => ?_)
      · exact hret _ _ _ _ _ dJ7_fill_20 ⟨_, rfl, fun j => by rw [hg j, show i = N0 by omega]⟩ hP hD hS
      · refine lv_aload_n hx hb dJ7_fill_10 rfl (lv_at hl 0 rfl) ?_
        refine lv_iload_n hx hb dJ7_fill_11 rfl (lv_at hl 2 rfl) ?_
        refine lv_iload_n hx hb dJ7_fill_12 rfl (lv_at hl 1 rfl) ?_
        refine rn_astM hx hb hK hP hD hS 0 0 rfl rfl (by omega) (by omega) dJ7_fill_13 (fun H locs hP hD hS => ?_)
        have hP : va_P D vwCl [ce_i q cI N0 (nZ (uN g1 i 0))] H := hP
        have hD : va_D A [ce_i q cI N0 (nZ (uN g1 i 0))] := hD
        refine lv_iinc (v := iI (((i + 1 : Nat) : Int))) (lv' := [(2, .int (iI (((i + 1 : Nat) : Int)))), (0, .ref q), (1, .int (iI (((0 : Nat) : Int)))), (3, .int (iI (((N0 : Nat) : Int))))]) hx hb dJ7_fill_14 hl (k := 2) rfl (iI_inc _) (by decide) rfl (fun ls hl => ?_)
        refine lv_goto (tgt := 5) hx hb dJ7_fill_17 (by decide) ?_
        exact ih (i + 1) (uN g1 i 0) (by omega) (by omega) (fun j => by simp only [uN]; by_cases h : j = i; (rw [if_pos h, if_pos (by omega)]); (rw [if_neg h, hg j]; by_cases h2 : j < i; (rw [if_pos h2, if_pos (by omega)]); (rw [if_neg h2, if_neg (by omega)]))) _ _ _ hP hD hS (lv_sub hl [1, 2, 0, 3] rfl)
  refine lv_iconst (v := iI (((0 : Nat) : Int))) hx hb dJ7_fill_0 (by decide +kernel) ?_
  refine lv_istore_n (lv' := [(2, .int (iI (((0 : Nat) : Int)))), (0, .ref q), (1, .int (iI (((0 : Nat) : Int))))]) hx hb dJ7_fill_1 rfl hl (by decide) rfl (fun ls hl => ?_)
  refine lv_aload_n hx hb dJ7_fill_2 rfl (lv_at hl 1 rfl) ?_
  refine va_alen (v := iI (((N0 : Nat) : Int))) hx hb hK hP 0 0 rfl rfl (iI_n _).symm dJ7_fill_3 ?_
  refine lv_istore_n (lv' := [(3, .int (iI (((N0 : Nat) : Int)))), (2, .int (iI (((0 : Nat) : Int)))), (0, .ref q), (1, .int (iI (((0 : Nat) : Int))))]) hx hb dJ7_fill_4 rfl hl (by decide) rfl (fun ls hl => ?_)
  exact K5 (N0 - (0) + 1) (0) (g) (Nat.lt_succ_self _) (by omega) (fun j => by rw [if_neg (Nat.not_lt_zero j)]) _ _ _ hP hD hS (lv_sub hl [2, 3, 1, 0] rfl)

set_option maxHeartbeats 4000000 in
set_option maxRecDepth 100000 in
theorem k_X2_openBeside (l : Launch) (D : va_G) (cI cZ : ClassId) (sz : Nat) (hQ : Nat) (qb : Nat) (ql : Nat) (qh : Nat) (qf : Nat) (qg : Nat) (qa : Nat) (qo : Nat) (qt : Nat) (n : Nat) (bw : Nat) (ln : Nat → Nat) (lg : Nat → Int) (ap : Nat → Nat) (b : Nat) (q : Nat) (o : Nat) (hb4 : b < 4) (ho4 : o < 4) (hq : q < 30) (hln : ∀ j, ln j ≤ 10) (hlg : ∀ j, -10 ≤ lg j ∧ lg j ≤ 10) (hap : ∀ j, ap j < 16) : Ci l yX2_openBeside wsX2_openBeside (rmD 2) D vwCl [(cI, .int), (cZ, .boolean)] [.ref hQ, .int (iI (((b : Nat) : Int))), .int (iI (((q : Nat) : Int))), .int (iI (((o : Nat) : Int)))] [(hQ, .inr (2, [.ref qb, .ref ql, .ref qh, .ref qf, .ref qg, .ref qa, .ref qo, .ref qt, .int (iI (((n : Nat) : Int))), .int (iI (((bw : Nat) : Int)))])), ce_i ql cI 4 (nZ (ln)), ce_i qg cI 16 (lg), ce_i qa cI 4 (nZ (ap))] sz (fun z w => w = [(hQ, .inr (2, [.ref qb, .ref ql, .ref qh, .ref qf, .ref qg, .ref qa, .ref qo, .ref qt, .int (iI (((n : Nat) : Int))), .int (iI (((bw : Nat) : Int)))])), ce_i ql cI 4 (nZ (ln)), ce_i qg cI 16 (lg), ce_i qa cI 4 (nZ (ap))] ∧ (z = ((besF ln lg ap b q o : Nat) : Int))) 0 0 := by
  refine Ci_of (cc := cX2_openBeside) (nL := 10) (by decide) rfl (Nat.le_of_ble_eq_true rfl) ?_
  intro p e s m below meth c A Q hsz C hK hN hA hP hD hS hret ls hl
  obtain ⟨hx, hb, hml, hown, hts⟩ := id C
  have hown : s.vm.findClass RX2 = some m.cls := hown
  have hl : lv_has ls 10 [(0, .ref hQ), (1, .int (iI (((b : Nat) : Int)))), (2, .int (iI (((q : Nat) : Int)))), (3, .int (iI (((o : Nat) : Int))))] := hl
  have in_X2 : ∀ w ∈ u_ws RX2 TX2 10, w ∈ wsX2_openBeside := fun w h => List.mem_cons_of_mem _ (inX2 w h)
  have l1 := hln b
  have l2 := hln o
  have g1 := hlg (o * 4 + b)
  have g2 := hlg (b * 4 + o)
  have a1 := hap b
  refine lv_iload_n hx hb dX2_openBeside_0 rfl (lv_at hl 2 rfl) ?_
  have hPc := hP.sub (ws' := []) [] rfl
  have hDc := hD.sub (ws' := []) [] (by decide) rfl
  refine rz_calliR (va_runSN (As := [.int (iI (((q : Nat) : Int)))]) (rest := []) ⟨hx, hb, hml, hown, hts⟩ (k_X4_startOfPlace l D cI cZ s.heap.size q (by omega)) ⟨va_cnB 1 hts (gG (g_c cmX4_startOfPlace)) rfl rfl rfl (nK_X2_65 hN) (hts _ (List.mem_cons_of_mem _ tin_X4)) (by decide +kernel) ⟨Nat.le_of_ble_eq_true rfl, Nat.le_of_ble_eq_true rfl⟩, hts _ (List.mem_cons_of_mem _ ts_X4_startOfPlace), trivial⟩ ⟨cP_blind, cP_pre hPc hK hN hDc⟩ rfl rfl hl.1 rfl (lv_room (Nat.le_of_ble_eq_true rfl)) dX2_openBeside_1 ⟨Nat.le_refl _, Nat.le_refl _⟩) hP hD hS hA [] rfl (fun z1 H locs hp hP hS => ?_)
  subst hp
  refine lv_istore (lv' := [(4, .int (iI (((q % 10 : Nat) : Int)))), (0, .ref hQ), (1, .int (iI (((b : Nat) : Int)))), (2, .int (iI (((q : Nat) : Int)))), (3, .int (iI (((o : Nat) : Int))))]) hx hb dX2_openBeside_4 hl (by decide) rfl (fun ls hl => ?_)
  refine lv_iload hx hb dX2_openBeside_6 (lv_at hl 0 rfl) ?_
  refine lv_aload_n hx hb dX2_openBeside_8 rfl (lv_at hl 1 rfl) ?_
  refine va_get (D := D) (ci := 2) (v := .ref ql) (C := RX2) (T := TX2) (N := 10) hx hb hts in_X2 hown hK hP 0 rfl rfl 1 (by decide) (hts _ (List.mem_cons_of_mem _ tf_X2_15)) (fun _ h9 => h9) rfl dX2_openBeside_9 ?_
  refine lv_iload_n hx hb dX2_openBeside_12 rfl (lv_at hl 2 rfl) ?_
  refine rn_aldM hx hb hK hP 1 0 rfl rfl (by omega) (by omega) dX2_openBeside_13 ?_
  refine rn_add hx hb dX2_openBeside_14 ?_
  refine lv_istore (lv' := [(5, .int (iI ((((q % 10) + (ln b) : Nat) : Int)))), (4, .int (iI (((q % 10 : Nat) : Int)))), (0, .ref hQ), (1, .int (iI (((b : Nat) : Int)))), (2, .int (iI (((q : Nat) : Int)))), (3, .int (iI (((o : Nat) : Int))))]) hx hb dX2_openBeside_15 hl (by decide) rfl (fun ls hl => ?_)
  refine lv_iload hx hb dX2_openBeside_17 (lv_at hl 0 rfl) ?_
  refine lv_aload_n hx hb dX2_openBeside_19 rfl (lv_at hl 2 rfl) ?_
  refine va_get (D := D) (ci := 2) (v := .ref qg) (C := RX2) (T := TX2) (N := 10) hx hb hts in_X2 hown hK hP 0 rfl rfl 4 (by decide) (hts _ (List.mem_cons_of_mem _ tf_X2_24)) (fun _ h9 => h9) rfl dX2_openBeside_20 ?_
  refine lv_iload_n hx hb dX2_openBeside_23 rfl (lv_at hl 5 rfl) ?_
  refine lv_iconst (v := iI (((4 : Nat) : Int))) hx hb dX2_openBeside_24 (by decide +kernel) ?_
  refine rn_mul hx hb dX2_openBeside_25 ?_
  refine lv_iload_n hx hb dX2_openBeside_26 rfl (lv_at hl 3 rfl) ?_
  refine rn_add hx hb dX2_openBeside_27 ?_
  refine rn_ald hx hb hK hP 2 0 rfl rfl (by omega) (by omega) dX2_openBeside_28 ?_
  refine rz_add hx hb dX2_openBeside_29 ?_
  refine lv_istore (lv' := [(6, .int (iI ((((q % 10) + (ln b) : Nat) : Int) + (lg ((o * 4) + b))))), (5, .int (iI ((((q % 10) + (ln b) : Nat) : Int)))), (4, .int (iI (((q % 10 : Nat) : Int)))), (0, .ref hQ), (1, .int (iI (((b : Nat) : Int)))), (2, .int (iI (((q : Nat) : Int)))), (3, .int (iI (((o : Nat) : Int))))]) hx hb dX2_openBeside_30 hl (by decide) rfl (fun ls hl => ?_)
  refine lv_iload hx hb dX2_openBeside_32 (lv_at hl 2 rfl) ?_
  refine lv_aload_n hx hb dX2_openBeside_34 rfl (lv_at hl 3 rfl) ?_
  refine va_get (D := D) (ci := 2) (v := .ref qg) (C := RX2) (T := TX2) (N := 10) hx hb hts in_X2 hown hK hP 0 rfl rfl 4 (by decide) (hts _ (List.mem_cons_of_mem _ tf_X2_24)) (fun _ h9 => h9) rfl dX2_openBeside_35 ?_
  refine lv_iload_n hx hb dX2_openBeside_38 rfl (lv_at hl 4 rfl) ?_
  refine lv_iconst (v := iI (((4 : Nat) : Int))) hx hb dX2_openBeside_39 (by decide +kernel) ?_
  refine rn_mul hx hb dX2_openBeside_40 ?_
  refine lv_iload_n hx hb dX2_openBeside_41 rfl (lv_at hl 6 rfl) ?_
  refine rn_add hx hb dX2_openBeside_42 ?_
  refine rn_ald hx hb hK hP 2 0 rfl rfl (by omega) (by omega) dX2_openBeside_43 ?_
  refine rz_sub hx hb dX2_openBeside_44 ?_
  refine lv_aload_n hx hb dX2_openBeside_45 rfl (lv_at hl 3 rfl) ?_
  refine va_get (D := D) (ci := 2) (v := .ref ql) (C := RX2) (T := TX2) (N := 10) hx hb hts in_X2 hown hK hP 0 rfl rfl 1 (by decide) (hts _ (List.mem_cons_of_mem _ tf_X2_15)) (fun _ h9 => h9) rfl dX2_openBeside_46 ?_
  refine lv_iload_n hx hb dX2_openBeside_49 rfl (lv_at hl 6 rfl) ?_
  refine rn_aldM hx hb hK hP 1 0 rfl rfl (by omega) (by omega) dX2_openBeside_50 ?_
  refine rz_sub hx hb dX2_openBeside_51 ?_
  refine lv_istore (lv' := [(7, .int (iI ((((q % 10 : Nat) : Int) - (lg ((b * 4) + o))) - ((ln o : Nat) : Int)))), (6, .int (iI ((((q % 10) + (ln b) : Nat) : Int) + (lg ((o * 4) + b))))), (5, .int (iI ((((q % 10) + (ln b) : Nat) : Int)))), (4, .int (iI (((q % 10 : Nat) : Int)))), (0, .ref hQ), (1, .int (iI (((b : Nat) : Int)))), (2, .int (iI (((q : Nat) : Int)))), (3, .int (iI (((o : Nat) : Int))))]) hx hb dX2_openBeside_52 hl (by decide) rfl (fun ls hl => ?_)
  refine lv_aload_n hx hb dX2_openBeside_54 rfl (lv_at hl 4 rfl) ?_
  refine va_get (D := D) (ci := 2) (v := .ref qa) (C := RX2) (T := TX2) (N := 10) hx hb hts in_X2 hown hK hP 0 rfl rfl 5 (by decide) (hts _ (List.mem_cons_of_mem _ tf_X2_27)) (fun _ h9 => h9) rfl dX2_openBeside_55 ?_
  refine lv_iload_n hx hb dX2_openBeside_58 rfl (lv_at hl 5 rfl) ?_
  refine rn_aldM hx hb hK hP 3 0 rfl rfl (by omega) (by omega) dX2_openBeside_59 ?_
  refine lv_iload_n hx hb dX2_openBeside_60 rfl (lv_at hl 7 rfl) ?_
  refine rz_shr hx hb dX2_openBeside_61 (by omega) (by omega) ?_
  refine lv_iconst (v := iI (((1 : Nat) : Int))) hx hb dX2_openBeside_62 (by decide +kernel) ?_
  refine rz_and hx hb dX2_openBeside_63 ?_
  refine rz_ine (tgt := 71) hx hb dX2_openBeside_64 (by decide) (by have := tb_r (ap b) o; omega) (fun c2 => ?_) (fun c2 => ?_)
  · have c2 := tb_t c2
    refine lv_iconst (v := iI (((0 : Nat) : Int))) hx hb dX2_openBeside_71 (by decide +kernel) ?_
    refine lv_istore (lv' := [(8, .int (iI (((0 : Nat) : Int)))), (7, .int (iI ((((q % 10 : Nat) : Int) - (lg ((b * 4) + o))) - ((ln o : Nat) : Int)))), (6, .int (iI ((((q % 10) + (ln b) : Nat) : Int) + (lg ((o * 4) + b))))), (5, .int (iI ((((q % 10) + (ln b) : Nat) : Int)))), (4, .int (iI (((q % 10 : Nat) : Int)))), (0, .ref hQ), (1, .int (iI (((b : Nat) : Int)))), (2, .int (iI (((q : Nat) : Int)))), (3, .int (iI (((o : Nat) : Int))))]) hx hb dX2_openBeside_72 hl (by decide) rfl (fun ls hl => ?_)
    refine lv_iload hx hb dX2_openBeside_74 (lv_at hl 0 rfl) ?_
    refine rz_ieq (tgt := 100) hx hb dX2_openBeside_76 (by decide) (by omega) (fun c3 => ?_) (fun c3 => ?_)
    · refine lv_sipush (v := iI (((1023 : Nat) : Int))) hx hb dX2_openBeside_100 (by decide +kernel) ?_
      refine lv_istore (lv' := [(9, .int (iI (((1023 : Nat) : Int)))), (8, .int (iI (((0 : Nat) : Int)))), (7, .int (iI ((((q % 10 : Nat) : Int) - (lg ((b * 4) + o))) - ((ln o : Nat) : Int)))), (6, .int (iI ((((q % 10) + (ln b) : Nat) : Int) + (lg ((o * 4) + b))))), (5, .int (iI ((((q % 10) + (ln b) : Nat) : Int)))), (4, .int (iI (((q % 10 : Nat) : Int)))), (0, .ref hQ), (1, .int (iI (((b : Nat) : Int)))), (2, .int (iI (((q : Nat) : Int)))), (3, .int (iI (((o : Nat) : Int))))]) hx hb dX2_openBeside_103 hl (by decide) rfl (fun ls hl => ?_)
      refine lv_iload hx hb dX2_openBeside_105 (lv_at hl 3 rfl) ?_
      refine lv_iload hx hb dX2_openBeside_107 (lv_at hl 2 rfl) ?_
      have hPc := hP.sub (ws' := []) [] rfl
      have hDc := hD.sub (ws' := []) [] (by decide) rfl
      refine rz_calliR (va_runSN (As := [.int (iI ((((q % 10) + (ln b) : Nat) : Int) + (lg ((o * 4) + b)))), .int (iI ((((q % 10 : Nat) : Int) - (lg ((b * 4) + o))) - ((ln o : Nat) : Int)))]) (rest := []) ⟨hx, hb, hml, hown, hts⟩ (k_X4_daysFromTo l D cI cZ H.size ((((q % 10) + (ln b) : Nat) : Int) + (lg ((o * 4) + b))) ((((q % 10 : Nat) : Int) - (lg ((b * 4) + o))) - ((ln o : Nat) : Int)) (by omega) (by omega)) ⟨va_cnB 2 hts (gG (g_c cmX4_daysFromTo)) rfl rfl rfl (nK_X2_50 hN) (hts _ (List.mem_cons_of_mem _ tin_X4)) (by decide +kernel) ⟨Nat.le_of_ble_eq_true rfl, Nat.le_of_ble_eq_true rfl⟩, hts _ (List.mem_cons_of_mem _ ts_X4_daysFromTo), trivial⟩ ⟨cP_blind, cP_pre hPc hK hN hDc⟩ rfl rfl hl.1 rfl (lv_room (Nat.le_of_ble_eq_true rfl)) dX2_openBeside_109 ⟨Nat.le_refl _, Nat.le_refl _⟩) hP hD hS hA [] rfl (fun z4 H locs hp hP hS => ?_)
      subst hp
      have hPc := hP.sub (ws' := []) [] rfl
      have hDc := hD.sub (ws' := []) [] (by decide) rfl
      refine rz_calliR (va_runS (As := [.int (iI (((daysF ((((q % 10) + (ln b) : Nat) : Int) + (lg ((o * 4) + b))) ((((q % 10 : Nat) : Int) - (lg ((b * 4) + o))) - ((ln o : Nat) : Int)) : Nat) : Int)))]) (rest := []) ⟨hx, hb, hml, hown, hts⟩ (k_X2_inEveryTank l D cI cZ H.size (daysF ((((q % 10) + (ln b) : Nat) : Int) + (lg ((o * 4) + b))) ((((q % 10 : Nat) : Int) - (lg ((b * 4) + o))) - ((ln o : Nat) : Int))) ) (va_cwS 1 hts (gG (g_S tm_X2_108 ts_X2_inEveryTank tin_X2 cmX2_inEveryTank)) rfl rfl rfl (by decide +kernel) ⟨Nat.le_of_ble_eq_true rfl, Nat.le_of_ble_eq_true rfl⟩) ⟨cP_blind, cP_pre hPc hK hN hDc⟩ rfl rfl hl.1 rfl (lv_room (Nat.le_of_ble_eq_true rfl)) dX2_openBeside_112 ⟨Nat.le_refl _, Nat.le_refl _⟩) hP hD hS hA [] rfl (fun z5 H locs hp hP hS => ?_)
      subst hp
      refine lv_iload hx hb dX2_openBeside_115 (lv_at hl 0 rfl) ?_
      refine lv_iload_n hx hb dX2_openBeside_117 rfl (lv_at hl 8 rfl) ?_
      have hPc := hP.sub (ws' := []) [] rfl
      have hDc := hD.sub (ws' := []) [] (by decide) rfl
      refine rz_calliR (va_runSN (As := [.int (iI (((q : Nat) : Int)))]) (rest := [.int (iI (((1023 : Nat) : Int))), .int (iI ((((daysF ((((q % 10) + (ln b) : Nat) : Int) + (lg ((o * 4) + b))) ((((q % 10 : Nat) : Int) - (lg ((b * 4) + o))) - ((ln o : Nat) : Int))) * 1049601 : Nat) : Int)))]) ⟨hx, hb, hml, hown, hts⟩ (k_X4_tankOfPlace l D cI cZ H.size q (by omega)) ⟨va_cnB 1 hts (gG (g_c cmX4_tankOfPlace)) rfl rfl rfl (nK_X2_149 hN) (hts _ (List.mem_cons_of_mem _ tin_X4)) (by decide +kernel) ⟨Nat.le_of_ble_eq_true rfl, Nat.le_of_ble_eq_true rfl⟩, hts _ (List.mem_cons_of_mem _ ts_X4_tankOfPlace), trivial⟩ ⟨cP_blind, cP_pre hPc hK hN hDc⟩ rfl rfl hl.1 rfl (lv_room (Nat.le_of_ble_eq_true rfl)) dX2_openBeside_118 ⟨Nat.le_refl _, Nat.le_refl _⟩) hP hD hS hA [] rfl (fun z6 H locs hp hP hS => ?_)
      subst hp
      refine lv_bipush (v := iI (((10 : Nat) : Int))) hx hb dX2_openBeside_121 (by decide +kernel) ?_
      refine rn_mul hx hb dX2_openBeside_123 ?_
      refine rz_shl hx hb dX2_openBeside_124 (by omega) (Nat.lt_trans (sh_lt (by first | exact daysF_lt _ _ | decide) (by omega)) (by decide)) ?_
      refine lv_iconst (v := iI ((-1 : Int))) hx hb dX2_openBeside_125 (by decide +kernel) ?_
      refine lv_ixor hx hb dX2_openBeside_126 ?_
      refine lv_iand hx hb dX2_openBeside_127 ?_
      refine rz_raw (y := ((besF ln lg ap b q o : Nat) : Int)) (by rw [iI_dif, besF]; first | rw [if_pos (by assumption)] | rw [if_neg (by simp_all)]) ?_
      exact hret _ _ _ _ _ _ dX2_openBeside_128 ⟨rfl, rfl⟩ hP hD hS
    · exfalso; omega
  · have c2 := tb_f c2
    refine lv_iconst (v := iI (((1 : Nat) : Int))) hx hb dX2_openBeside_67 (by decide +kernel) ?_
    refine lv_goto (tgt := 72) hx hb dX2_openBeside_68 (by decide) ?_
    refine lv_istore (lv' := [(8, .int (iI (((1 : Nat) : Int)))), (7, .int (iI ((((q % 10 : Nat) : Int) - (lg ((b * 4) + o))) - ((ln o : Nat) : Int)))), (6, .int (iI ((((q % 10) + (ln b) : Nat) : Int) + (lg ((o * 4) + b))))), (5, .int (iI ((((q % 10) + (ln b) : Nat) : Int)))), (4, .int (iI (((q % 10 : Nat) : Int)))), (0, .ref hQ), (1, .int (iI (((b : Nat) : Int)))), (2, .int (iI (((q : Nat) : Int)))), (3, .int (iI (((o : Nat) : Int))))]) hx hb dX2_openBeside_72 hl (by decide) rfl (fun ls hl => ?_)
    refine lv_iload hx hb dX2_openBeside_74 (lv_at hl 0 rfl) ?_
    refine rz_ieq (tgt := 100) hx hb dX2_openBeside_76 (by decide) (by omega) (fun c7 => ?_) (fun c7 => ?_)
    · exfalso; omega
    · refine lv_iload hx hb dX2_openBeside_79 (lv_at hl 4 rfl) ?_
      refine lv_aload_n hx hb dX2_openBeside_81 rfl (lv_at hl 5 rfl) ?_
      refine va_get (D := D) (ci := 2) (v := .ref ql) (C := RX2) (T := TX2) (N := 10) hx hb hts in_X2 hown hK hP 0 rfl rfl 1 (by decide) (hts _ (List.mem_cons_of_mem _ tf_X2_15)) (fun _ h9 => h9) rfl dX2_openBeside_82 ?_
      refine lv_iload_n hx hb dX2_openBeside_85 rfl (lv_at hl 8 rfl) ?_
      refine rn_aldM hx hb hK hP 1 0 rfl rfl (by omega) (by omega) dX2_openBeside_86 ?_
      refine rz_sub hx hb dX2_openBeside_87 ?_
      refine lv_iconst (v := iI (((1 : Nat) : Int))) hx hb dX2_openBeside_88 (by decide +kernel) ?_
      refine rz_add hx hb dX2_openBeside_89 ?_
      refine lv_iload hx hb dX2_openBeside_90 (lv_at hl 3 rfl) ?_
      refine lv_iconst (v := iI (((1 : Nat) : Int))) hx hb dX2_openBeside_92 (by decide +kernel) ?_
      refine rz_sub hx hb dX2_openBeside_93 ?_
      have hPc := hP.sub (ws' := []) [] rfl
      have hDc := hD.sub (ws' := []) [] (by decide) rfl
      refine rz_calliR (va_runSN (As := [.int (iI ((((q % 10 : Nat) : Int) - ((ln o : Nat) : Int)) + ((1 : Nat) : Int))), .int (iI ((((q % 10) + (ln b) : Nat) : Int) - ((1 : Nat) : Int)))]) (rest := []) ⟨hx, hb, hml, hown, hts⟩ (k_X4_daysFromTo l D cI cZ H.size ((((q % 10 : Nat) : Int) - ((ln o : Nat) : Int)) + ((1 : Nat) : Int)) ((((q % 10) + (ln b) : Nat) : Int) - ((1 : Nat) : Int)) (by omega) (by omega)) ⟨va_cnB 2 hts (gG (g_c cmX4_daysFromTo)) rfl rfl rfl (nK_X2_50 hN) (hts _ (List.mem_cons_of_mem _ tin_X4)) (by decide +kernel) ⟨Nat.le_of_ble_eq_true rfl, Nat.le_of_ble_eq_true rfl⟩, hts _ (List.mem_cons_of_mem _ ts_X4_daysFromTo), trivial⟩ ⟨cP_blind, cP_pre hPc hK hN hDc⟩ rfl rfl hl.1 rfl (lv_room (Nat.le_of_ble_eq_true rfl)) dX2_openBeside_94 ⟨Nat.le_refl _, Nat.le_refl _⟩) hP hD hS hA [] rfl (fun z8 H locs hp hP hS => ?_)
      subst hp
      refine lv_goto (tgt := 103) hx hb dX2_openBeside_97 (by decide) ?_
      refine lv_istore (lv' := [(9, .int (iI (((daysF ((((q % 10 : Nat) : Int) - ((ln o : Nat) : Int)) + ((1 : Nat) : Int)) ((((q % 10) + (ln b) : Nat) : Int) - ((1 : Nat) : Int)) : Nat) : Int)))), (8, .int (iI (((1 : Nat) : Int)))), (7, .int (iI ((((q % 10 : Nat) : Int) - (lg ((b * 4) + o))) - ((ln o : Nat) : Int)))), (6, .int (iI ((((q % 10) + (ln b) : Nat) : Int) + (lg ((o * 4) + b))))), (5, .int (iI ((((q % 10) + (ln b) : Nat) : Int)))), (4, .int (iI (((q % 10 : Nat) : Int)))), (0, .ref hQ), (1, .int (iI (((b : Nat) : Int)))), (2, .int (iI (((q : Nat) : Int)))), (3, .int (iI (((o : Nat) : Int))))]) hx hb dX2_openBeside_103 hl (by decide) rfl (fun ls hl => ?_)
      refine lv_iload hx hb dX2_openBeside_105 (lv_at hl 3 rfl) ?_
      refine lv_iload hx hb dX2_openBeside_107 (lv_at hl 2 rfl) ?_
      have hPc := hP.sub (ws' := []) [] rfl
      have hDc := hD.sub (ws' := []) [] (by decide) rfl
      refine rz_calliR (va_runSN (As := [.int (iI ((((q % 10) + (ln b) : Nat) : Int) + (lg ((o * 4) + b)))), .int (iI ((((q % 10 : Nat) : Int) - (lg ((b * 4) + o))) - ((ln o : Nat) : Int)))]) (rest := []) ⟨hx, hb, hml, hown, hts⟩ (k_X4_daysFromTo l D cI cZ H.size ((((q % 10) + (ln b) : Nat) : Int) + (lg ((o * 4) + b))) ((((q % 10 : Nat) : Int) - (lg ((b * 4) + o))) - ((ln o : Nat) : Int)) (by omega) (by omega)) ⟨va_cnB 2 hts (gG (g_c cmX4_daysFromTo)) rfl rfl rfl (nK_X2_50 hN) (hts _ (List.mem_cons_of_mem _ tin_X4)) (by decide +kernel) ⟨Nat.le_of_ble_eq_true rfl, Nat.le_of_ble_eq_true rfl⟩, hts _ (List.mem_cons_of_mem _ ts_X4_daysFromTo), trivial⟩ ⟨cP_blind, cP_pre hPc hK hN hDc⟩ rfl rfl hl.1 rfl (lv_room (Nat.le_of_ble_eq_true rfl)) dX2_openBeside_109 ⟨Nat.le_refl _, Nat.le_refl _⟩) hP hD hS hA [] rfl (fun z9 H locs hp hP hS => ?_)
      subst hp
      have hPc := hP.sub (ws' := []) [] rfl
      have hDc := hD.sub (ws' := []) [] (by decide) rfl
      refine rz_calliR (va_runS (As := [.int (iI (((daysF ((((q % 10) + (ln b) : Nat) : Int) + (lg ((o * 4) + b))) ((((q % 10 : Nat) : Int) - (lg ((b * 4) + o))) - ((ln o : Nat) : Int)) : Nat) : Int)))]) (rest := []) ⟨hx, hb, hml, hown, hts⟩ (k_X2_inEveryTank l D cI cZ H.size (daysF ((((q % 10) + (ln b) : Nat) : Int) + (lg ((o * 4) + b))) ((((q % 10 : Nat) : Int) - (lg ((b * 4) + o))) - ((ln o : Nat) : Int))) ) (va_cwS 1 hts (gG (g_S tm_X2_108 ts_X2_inEveryTank tin_X2 cmX2_inEveryTank)) rfl rfl rfl (by decide +kernel) ⟨Nat.le_of_ble_eq_true rfl, Nat.le_of_ble_eq_true rfl⟩) ⟨cP_blind, cP_pre hPc hK hN hDc⟩ rfl rfl hl.1 rfl (lv_room (Nat.le_of_ble_eq_true rfl)) dX2_openBeside_112 ⟨Nat.le_refl _, Nat.le_refl _⟩) hP hD hS hA [] rfl (fun z10 H locs hp hP hS => ?_)
      subst hp
      refine lv_iload hx hb dX2_openBeside_115 (lv_at hl 0 rfl) ?_
      refine lv_iload_n hx hb dX2_openBeside_117 rfl (lv_at hl 8 rfl) ?_
      have hPc := hP.sub (ws' := []) [] rfl
      have hDc := hD.sub (ws' := []) [] (by decide) rfl
      refine rz_calliR (va_runSN (As := [.int (iI (((q : Nat) : Int)))]) (rest := [.int (iI (((daysF ((((q % 10 : Nat) : Int) - ((ln o : Nat) : Int)) + ((1 : Nat) : Int)) ((((q % 10) + (ln b) : Nat) : Int) - ((1 : Nat) : Int)) : Nat) : Int))), .int (iI ((((daysF ((((q % 10) + (ln b) : Nat) : Int) + (lg ((o * 4) + b))) ((((q % 10 : Nat) : Int) - (lg ((b * 4) + o))) - ((ln o : Nat) : Int))) * 1049601 : Nat) : Int)))]) ⟨hx, hb, hml, hown, hts⟩ (k_X4_tankOfPlace l D cI cZ H.size q (by omega)) ⟨va_cnB 1 hts (gG (g_c cmX4_tankOfPlace)) rfl rfl rfl (nK_X2_149 hN) (hts _ (List.mem_cons_of_mem _ tin_X4)) (by decide +kernel) ⟨Nat.le_of_ble_eq_true rfl, Nat.le_of_ble_eq_true rfl⟩, hts _ (List.mem_cons_of_mem _ ts_X4_tankOfPlace), trivial⟩ ⟨cP_blind, cP_pre hPc hK hN hDc⟩ rfl rfl hl.1 rfl (lv_room (Nat.le_of_ble_eq_true rfl)) dX2_openBeside_118 ⟨Nat.le_refl _, Nat.le_refl _⟩) hP hD hS hA [] rfl (fun z11 H locs hp hP hS => ?_)
      subst hp
      refine lv_bipush (v := iI (((10 : Nat) : Int))) hx hb dX2_openBeside_121 (by decide +kernel) ?_
      refine rn_mul hx hb dX2_openBeside_123 ?_
      refine rz_shl hx hb dX2_openBeside_124 (by omega) (Nat.lt_trans (sh_lt (by first | exact daysF_lt _ _ | decide) (by omega)) (by decide)) ?_
      refine lv_iconst (v := iI ((-1 : Int))) hx hb dX2_openBeside_125 (by decide +kernel) ?_
      refine lv_ixor hx hb dX2_openBeside_126 ?_
      refine lv_iand hx hb dX2_openBeside_127 ?_
      refine rz_raw (y := ((besF ln lg ap b q o : Nat) : Int)) (by rw [iI_dif, besF]; first | rw [if_pos (by assumption)] | rw [if_neg (by simp_all)]) ?_
      exact hret _ _ _ _ _ _ dX2_openBeside_128 ⟨rfl, rfl⟩ hP hD hS

set_option maxHeartbeats 4000000 in
set_option maxRecDepth 100000 in
theorem k_X2_freePlaces (l : Launch) (D : va_G) (cI cZ : ClassId) (sz : Nat) (S0 : Nat) (l0 : Nat) (T : Nat) (sh : Nat) (hS0 : S0 < 1024) (hl0 : l0 ≤ 10) (hT : T ≤ 3) (hsh : sh < 1073741824) : Ci l yX2_freePlaces wsX2_freePlaces (rmD 2) D vwCl [(cI, .int), (cZ, .boolean)] [.int (iI (((S0 : Nat) : Int))), .int (iI (((l0 : Nat) : Int))), .int (iI (((T : Nat) : Int))), .int (iI (((sh : Nat) : Int)))] [] sz (fun z w => w = [] ∧ (z = ((freeF S0 (daysF 0 (((l0 : Nat) : Int) - ((1 : Nat) : Int))) sh (T * 10) : Nat) : Int))) 0 0 := by
  refine Ci_of (cc := cX2_freePlaces) (nL := 8) (by decide) rfl (Nat.le_of_ble_eq_true rfl) ?_
  intro p e s m below meth c A Q hsz C hK hN hA hP hD hS hret ls hl
  obtain ⟨hx, hb, hml, hown, hts⟩ := id C
  have hown : s.vm.findClass RX2 = some m.cls := hown
  have hl : lv_has ls 8 [(0, .int (iI (((S0 : Nat) : Int)))), (1, .int (iI (((l0 : Nat) : Int)))), (2, .int (iI (((T : Nat) : Int)))), (3, .int (iI (((sh : Nat) : Int))))] := hl
  have K15 : ∀ (fu : Nat) (i : Nat) (ac : Nat), T * 10 - i < fu → (i ≤ T * 10) → (ac = freeF S0 (daysF 0 (((l0 : Nat) : Int) - ((1 : Nat) : Int))) sh i) → ∀ (H : Heap) (locs : List Loc) (ls : Array Slot), va_P D vwCl [] H → va_D A [] → va_S A s.heap H locs → lv_has ls 8 [(0, .int (iI (((S0 : Nat) : Int)))), (1, .int (iI (((l0 : Nat) : Int)))), (2, .int (iI (((T : Nat) : Int)))), (3, .int (iI (((sh : Nat) : Int)))), (4, .int (iI (((daysF 0 (((l0 : Nat) : Int) - ((1 : Nat) : Int)) : Nat) : Int)))), (5, .int (iI (((ac : Nat) : Int)))), (6, .int (iI (((i : Nat) : Int))))] → W p l e (rmD 2) s m ([.int (iI (((S0 : Nat) : Int))), .int (iI (((l0 : Nat) : Int))), .int (iI (((T : Nat) : Int))), .int (iI (((sh : Nat) : Int)))] : List Value).toArray below meth c H locs 0 0 Q (F0 m 15 ls []) := by
    intro fu
    induction fu with
    | zero => intro i ac hmu; exact absurd hmu (Nat.not_lt_zero _)
    | succ fu ih =>
      intro i ac hmu hi hac H locs ls hP hD hS hl
      refine lv_iload hx hb dX2_freePlaces_15 (lv_at hl 6 rfl) ?_
      refine lv_iload_n hx hb dX2_freePlaces_17 rfl (lv_at hl 2 rfl) ?_
      refine lv_bipush (v := iI (((10 : Nat) : Int))) hx hb dX2_freePlaces_18 (by decide +kernel) ?_
      refine rn_mul hx hb dX2_freePlaces_20 ?_
      refine rz_cge (tgt := 73) hx hb dX2_freePlaces_21 (by decide) (by omega) (by omega) (fun c1 => ?_) (fun c1 => ?_)
      · refine lv_iload hx hb dX2_freePlaces_73 (lv_at hl 5 rfl) ?_
        exact hret _ _ _ _ _ _ dX2_freePlaces_75 ⟨rfl, (by rw [hac, show i = T * 10 by omega])⟩ hP hD hS
      · refine lv_iload_n hx hb dX2_freePlaces_24 rfl (lv_at hl 0 rfl) ?_
        refine lv_iload hx hb dX2_freePlaces_25 (lv_at hl 6 rfl) ?_
        have hPc := hP.sub (ws' := []) [] rfl
        have hDc := hD.sub (ws' := []) [] (by decide) rfl
        refine rz_calliR (va_runSN (As := [.int (iI (((i : Nat) : Int)))]) (rest := [.int (iI (((S0 : Nat) : Int)))]) ⟨hx, hb, hml, hown, hts⟩ (k_X4_startOfPlace l D cI cZ H.size i (by omega)) ⟨va_cnB 1 hts (gG (g_c cmX4_startOfPlace)) rfl rfl rfl (nK_X2_65 hN) (hts _ (List.mem_cons_of_mem _ tin_X4)) (by decide +kernel) ⟨Nat.le_of_ble_eq_true rfl, Nat.le_of_ble_eq_true rfl⟩, hts _ (List.mem_cons_of_mem _ ts_X4_startOfPlace), trivial⟩ ⟨cP_blind, cP_pre hPc hK hN hDc⟩ rfl rfl hl.1 rfl (lv_room (Nat.le_of_ble_eq_true rfl)) dX2_freePlaces_27 ⟨Nat.le_refl _, Nat.le_refl _⟩) hP hD hS hA [] rfl (fun z2 H locs hp hP hS => ?_)
        subst hp
        refine rz_shr hx hb dX2_freePlaces_30 (by omega) (by omega) ?_
        refine lv_iconst (v := iI (((1 : Nat) : Int))) hx hb dX2_freePlaces_31 (by decide +kernel) ?_
        refine rz_and hx hb dX2_freePlaces_32 ?_
        refine rz_ieq (tgt := 40) hx hb dX2_freePlaces_33 (by decide) (by have := tb_r S0 (i % 10); omega) (fun c3 => ?_) (fun c3 => ?_)
        · have c3 := tb_f c3
          refine lv_iconst (v := iI (((0 : Nat) : Int))) hx hb dX2_freePlaces_40 (by decide +kernel) ?_
          refine lv_istore (lv' := [(7, .int (iI (((0 : Nat) : Int)))), (0, .int (iI (((S0 : Nat) : Int)))), (1, .int (iI (((l0 : Nat) : Int)))), (2, .int (iI (((T : Nat) : Int)))), (3, .int (iI (((sh : Nat) : Int)))), (4, .int (iI (((daysF 0 (((l0 : Nat) : Int) - ((1 : Nat) : Int)) : Nat) : Int)))), (5, .int (iI (((ac : Nat) : Int)))), (6, .int (iI (((i : Nat) : Int))))]) hx hb dX2_freePlaces_41 hl (by decide) rfl (fun ls hl => ?_)
          refine lv_iload hx hb dX2_freePlaces_43 (lv_at hl 0 rfl) ?_
          refine rz_ieq (tgt := 67) hx hb dX2_freePlaces_45 (by decide) (by omega) (fun c4 => ?_) (fun c4 => ?_)
          · refine lv_iinc (v := iI (((i + 1 : Nat) : Int))) (lv' := [(6, .int (iI (((i + 1 : Nat) : Int)))), (7, .int (iI (((0 : Nat) : Int)))), (0, .int (iI (((S0 : Nat) : Int)))), (1, .int (iI (((l0 : Nat) : Int)))), (2, .int (iI (((T : Nat) : Int)))), (3, .int (iI (((sh : Nat) : Int)))), (4, .int (iI (((daysF 0 (((l0 : Nat) : Int) - ((1 : Nat) : Int)) : Nat) : Int)))), (5, .int (iI (((ac : Nat) : Int))))]) hx hb dX2_freePlaces_67 hl (k := 7) rfl (iI_inc _) (by decide) rfl (fun ls hl => ?_)
            refine lv_goto (tgt := 15) hx hb dX2_freePlaces_70 (by decide) ?_
            exact ih (i + 1) (ac) (by omega) (by omega) (by first | (rw [hac, freeF, if_pos ⟨by assumption, by omega⟩]) | (rw [hac, freeF, if_neg (fun h => by simp_all)]) | (rw [hac, freeF, if_neg (fun h => by omega)])) _ _ _ hP hD hS (lv_sub hl [2, 3, 4, 5, 6, 7, 0] rfl)
          · exfalso; omega
        · have c3 := tb_t c3
          refine lv_iconst (v := iI (((1 : Nat) : Int))) hx hb dX2_freePlaces_36 (by decide +kernel) ?_
          refine lv_goto (tgt := 41) hx hb dX2_freePlaces_37 (by decide) ?_
          refine lv_istore (lv' := [(7, .int (iI (((1 : Nat) : Int)))), (0, .int (iI (((S0 : Nat) : Int)))), (1, .int (iI (((l0 : Nat) : Int)))), (2, .int (iI (((T : Nat) : Int)))), (3, .int (iI (((sh : Nat) : Int)))), (4, .int (iI (((daysF 0 (((l0 : Nat) : Int) - ((1 : Nat) : Int)) : Nat) : Int)))), (5, .int (iI (((ac : Nat) : Int)))), (6, .int (iI (((i : Nat) : Int))))]) hx hb dX2_freePlaces_41 hl (by decide) rfl (fun ls hl => ?_)
          refine lv_iload hx hb dX2_freePlaces_43 (lv_at hl 0 rfl) ?_
          refine rz_ieq (tgt := 67) hx hb dX2_freePlaces_45 (by decide) (by omega) (fun c5 => ?_) (fun c5 => ?_)
          · exfalso; omega
          · refine lv_iload_n hx hb dX2_freePlaces_48 rfl (lv_at hl 4 rfl) ?_
            refine lv_iload hx hb dX2_freePlaces_49 (lv_at hl 7 rfl) ?_
            refine rz_shr hx hb dX2_freePlaces_51 (by omega) (by omega) ?_
            refine lv_iload hx hb dX2_freePlaces_52 (lv_at hl 5 rfl) ?_
            refine rz_and hx hb dX2_freePlaces_54 ?_
            refine rz_ine (tgt := 67) hx hb dX2_freePlaces_55 (by decide) (by have := Nat.and_lt_two_pow (n := 10) (sh / 2 ^ i) (daysF_lt 0 (((l0 : Nat) : Int) - ((1 : Nat) : Int))); omega) (fun c6 => ?_) (fun c6 => ?_)
            · refine lv_iinc (v := iI (((i + 1 : Nat) : Int))) (lv' := [(6, .int (iI (((i + 1 : Nat) : Int)))), (7, .int (iI (((1 : Nat) : Int)))), (0, .int (iI (((S0 : Nat) : Int)))), (1, .int (iI (((l0 : Nat) : Int)))), (2, .int (iI (((T : Nat) : Int)))), (3, .int (iI (((sh : Nat) : Int)))), (4, .int (iI (((daysF 0 (((l0 : Nat) : Int) - ((1 : Nat) : Int)) : Nat) : Int)))), (5, .int (iI (((ac : Nat) : Int))))]) hx hb dX2_freePlaces_67 hl (k := 7) rfl (iI_inc _) (by decide) rfl (fun ls hl => ?_)
              refine lv_goto (tgt := 15) hx hb dX2_freePlaces_70 (by decide) ?_
              exact ih (i + 1) (ac) (by omega) (by omega) (by first | (rw [hac, freeF, if_pos ⟨by assumption, by omega⟩]) | (rw [hac, freeF, if_neg (fun h => by simp_all)]) | (rw [hac, freeF, if_neg (fun h => by omega)])) _ _ _ hP hD hS (lv_sub hl [2, 3, 4, 5, 6, 7, 0] rfl)
            · refine lv_iload hx hb dX2_freePlaces_58 (lv_at hl 6 rfl) ?_
              refine lv_iconst (v := iI (((1 : Nat) : Int))) hx hb dX2_freePlaces_60 (by decide +kernel) ?_
              refine lv_iload hx hb dX2_freePlaces_61 (lv_at hl 7 rfl) ?_
              refine rz_shl hx hb dX2_freePlaces_63 (by omega) (pw_lt (by omega)) ?_
              refine rz_or hx hb dX2_freePlaces_64 ?_
              refine lv_istore (lv' := [(5, .int (iI (((ac ||| (1 * 2 ^ i) : Nat) : Int)))), (7, .int (iI (((1 : Nat) : Int)))), (0, .int (iI (((S0 : Nat) : Int)))), (1, .int (iI (((l0 : Nat) : Int)))), (2, .int (iI (((T : Nat) : Int)))), (3, .int (iI (((sh : Nat) : Int)))), (4, .int (iI (((daysF 0 (((l0 : Nat) : Int) - ((1 : Nat) : Int)) : Nat) : Int)))), (6, .int (iI (((i : Nat) : Int))))]) hx hb dX2_freePlaces_65 hl (by decide) rfl (fun ls hl => ?_)
              refine lv_iinc (v := iI (((i + 1 : Nat) : Int))) (lv' := [(6, .int (iI (((i + 1 : Nat) : Int)))), (5, .int (iI (((ac ||| (1 * 2 ^ i) : Nat) : Int)))), (7, .int (iI (((1 : Nat) : Int)))), (0, .int (iI (((S0 : Nat) : Int)))), (1, .int (iI (((l0 : Nat) : Int)))), (2, .int (iI (((T : Nat) : Int)))), (3, .int (iI (((sh : Nat) : Int)))), (4, .int (iI (((daysF 0 (((l0 : Nat) : Int) - ((1 : Nat) : Int)) : Nat) : Int))))]) hx hb dX2_freePlaces_67 hl (k := 7) rfl (iI_inc _) (by decide) rfl (fun ls hl => ?_)
              refine lv_goto (tgt := 15) hx hb dX2_freePlaces_70 (by decide) ?_
              exact ih (i + 1) (ac ||| (1 * 2 ^ i)) (by omega) (by omega) (by first | (rw [hac, freeF, if_pos ⟨by assumption, by omega⟩]) | (rw [hac, freeF, if_neg (fun h => by simp_all)]) | (rw [hac, freeF, if_neg (fun h => by omega)])) _ _ _ hP hD hS (lv_sub hl [3, 4, 5, 6, 7, 1, 0] rfl)
  refine lv_iconst (v := iI (((0 : Nat) : Int))) hx hb dX2_freePlaces_0 (by decide +kernel) ?_
  refine lv_iload_n hx hb dX2_freePlaces_1 rfl (lv_at hl 1 rfl) ?_
  refine lv_iconst (v := iI (((1 : Nat) : Int))) hx hb dX2_freePlaces_2 (by decide +kernel) ?_
  refine rz_sub hx hb dX2_freePlaces_3 ?_
  have hPc := hP.sub (ws' := []) [] rfl
  have hDc := hD.sub (ws' := []) [] (by decide) rfl
  refine rz_calliR (va_runSN (As := [.int (iI (((0 : Nat) : Int))), .int (iI (((l0 : Nat) : Int) - ((1 : Nat) : Int)))]) (rest := []) ⟨hx, hb, hml, hown, hts⟩ (k_X4_daysFromTo l D cI cZ s.heap.size ((0 : Nat) : Int) (((l0 : Nat) : Int) - ((1 : Nat) : Int)) (by omega) (by omega)) ⟨va_cnB 2 hts (gG (g_c cmX4_daysFromTo)) rfl rfl rfl (nK_X2_50 hN) (hts _ (List.mem_cons_of_mem _ tin_X4)) (by decide +kernel) ⟨Nat.le_of_ble_eq_true rfl, Nat.le_of_ble_eq_true rfl⟩, hts _ (List.mem_cons_of_mem _ ts_X4_daysFromTo), trivial⟩ ⟨cP_blind, cP_pre hPc hK hN hDc⟩ rfl rfl hl.1 rfl (lv_room (Nat.le_of_ble_eq_true rfl)) dX2_freePlaces_4 ⟨Nat.le_refl _, Nat.le_refl _⟩) hP hD hS hA [] rfl (fun z7 H locs hp hP hS => ?_)
  subst hp
  refine lv_istore (lv' := [(4, .int (iI (((daysF ((0 : Nat) : Int) (((l0 : Nat) : Int) - ((1 : Nat) : Int)) : Nat) : Int)))), (0, .int (iI (((S0 : Nat) : Int)))), (1, .int (iI (((l0 : Nat) : Int)))), (2, .int (iI (((T : Nat) : Int)))), (3, .int (iI (((sh : Nat) : Int))))]) hx hb dX2_freePlaces_7 hl (by decide) rfl (fun ls hl => ?_)
  refine lv_iconst (v := iI (((0 : Nat) : Int))) hx hb dX2_freePlaces_9 (by decide +kernel) ?_
  refine lv_istore (lv' := [(5, .int (iI (((0 : Nat) : Int)))), (4, .int (iI (((daysF ((0 : Nat) : Int) (((l0 : Nat) : Int) - ((1 : Nat) : Int)) : Nat) : Int)))), (0, .int (iI (((S0 : Nat) : Int)))), (1, .int (iI (((l0 : Nat) : Int)))), (2, .int (iI (((T : Nat) : Int)))), (3, .int (iI (((sh : Nat) : Int))))]) hx hb dX2_freePlaces_10 hl (by decide) rfl (fun ls hl => ?_)
  refine lv_iconst (v := iI (((0 : Nat) : Int))) hx hb dX2_freePlaces_12 (by decide +kernel) ?_
  refine lv_istore (lv' := [(6, .int (iI (((0 : Nat) : Int)))), (5, .int (iI (((0 : Nat) : Int)))), (4, .int (iI (((daysF ((0 : Nat) : Int) (((l0 : Nat) : Int) - ((1 : Nat) : Int)) : Nat) : Int)))), (0, .int (iI (((S0 : Nat) : Int)))), (1, .int (iI (((l0 : Nat) : Int)))), (2, .int (iI (((T : Nat) : Int)))), (3, .int (iI (((sh : Nat) : Int))))]) hx hb dX2_freePlaces_13 hl (by decide) rfl (fun ls hl => ?_)
  exact K15 (T * 10 - (0) + 1) (0) (0) (Nat.lt_succ_self _) (by omega) rfl _ _ _ hP hD hS (lv_sub hl [3, 4, 5, 6, 2, 1, 0] rfl)
end
section
/-! Search: rules taken over, batches loaded, starts closed -/
theorem daysF_tb (a b : Int) (i : Nat) : (daysF a b).testBit i = decide (a ≤ (i : Int) ∧ (i : Int) ≤ b ∧ i < 10) := by
  unfold daysF
  by_cases h : max a 0 ≤ min b 9
  · rw [if_pos h]
    have key : ∀ lo, lo < 10 → ∀ hi, hi < 10 → lo ≤ hi → ∀ i, i < 32 → (1 * 2 ^ (hi + 1) - 1 * 2 ^ lo).testBit i = decide (lo ≤ i ∧ i ≤ hi) := by decide +kernel
    have e1 : (min b 9 + 1).toNat = (min b 9).toNat + 1 := by omega
    by_cases hi : i < 32
    · rw [e1, key (max a 0).toNat (by omega) (min b 9).toNat (by omega) (by omega) i hi]
      congr 1; apply propext; omega
    · have hlt : 1 * 2 ^ (min b 9 + 1).toNat - 1 * 2 ^ (max a 0).toNat < 2 ^ i := by
        have h1 : 1 * 2 ^ (min b 9 + 1).toNat ≤ 1 * 2 ^ 10 := pw_le (by omega)
        have h2 : 1 * 2 ^ 11 ≤ 1 * 2 ^ i := pw_le (by omega)
        omega
      rw [Nat.testBit_lt_two_pow hlt]; symm; apply decide_eq_false; omega
  · rw [if_neg h, Nat.zero_testBit]; symm; apply decide_eq_false; omega
theorem ie_tb : ∀ v, v < 1024 → ∀ q, q < 30 → (v * 1049601).testBit q = v.testBit (q % 10) := by decide +kernel
theorem stI_tb {x q : Nat} (hq : q < 30) (h : x.testBit q = true) : (stI x).testBit (q % 10) = true := by
  have h10 : q % 10 < 10 := Nat.mod_lt _ (by decide)
  have hd : q / 10 = 0 ∨ q / 10 = 1 ∨ q / 10 = 2 := by omega
  have hq2 : q = 10 * (q / 10) + q % 10 := by omega
  rw [stI, Nat.testBit_and, Nat.testBit_or, Nat.testBit_or, show (1023 : Nat) = 2 ^ 10 - 1 from rfl, Nat.testBit_two_pow_sub_one, Nat.testBit_div_two_pow, Nat.testBit_div_two_pow]
  rcases hd with e | e | e
  · rw [show q % 10 = q by omega, h]; simp; omega
  · rw [show q % 10 + 10 = q by omega, h]; simp [h10]
  · rw [show q % 10 + 20 = q by omega, h]; simp [h10]
theorem fs_le {x q : Nat} (hq : q < 30) (h : x.testBit q = true) : ntzV (stI x) ≤ q % 10 := ntz_le _ (stI_lt x) _ (Nat.mod_lt _ (by decide)) (stI_tb hq h)
theorem la_ge {x q : Nat} (hq : q < 30) (h : x.testBit q = true) : q % 10 + nlzV (stI x) ≤ 31 := nlz_ge _ (stI_lt x) _ (Nat.mod_lt _ (by decide)) (stI_tb hq h)
theorem bit_30 {x q : Nat} (hx : x < 1073741824) (h : x.testBit q = true) : q < 30 := by
  rcases Nat.lt_or_ge q 30 with h1 | h1
  · exact h1
  · have : x < 2 ^ q := Nat.lt_of_lt_of_le hx (show 2 ^ 30 ≤ 2 ^ q from Nat.pow_le_pow_right (by decide) h1)
    rw [Nat.testBit_lt_two_pow this] at h; cases h
theorem and_lt {x y : Nat} (h : x < 1073741824) : x &&& y < 1073741824 := Nat.lt_of_le_of_lt Nat.and_le_left h
def tkL (lg : Nat → Int) (kd a b d : Int) : Nat → Int := if kd = 0 then uZ lg (a.toNat * 4 + b.toNat) (max (lg (a.toNat * 4 + b.toNat)) d) else lg
def tkA (ap : Nat → Nat) (kd a b : Int) : Nat → Nat := if kd = 1 then uN (uN ap a.toNat (ap a.toNat ||| 1 * 2 ^ b.toNat)) b.toNat (uN ap a.toNat (ap a.toNat ||| 1 * 2 ^ b.toNat) b.toNat ||| 1 * 2 ^ a.toNat) else ap
def tkO (ln op : Nat → Nat) (kd a d : Int) : Nat → Nat := if kd = 2 then uN op a.toNat (op a.toNat &&& daysF ((0 : Nat) : Int) (d - ((ln a.toNat : Nat) : Int)) * 1049601) else if kd = 3 then uN op a.toNat (op a.toNat &&& daysF d ((9 : Nat) : Int) * 1049601) else op
/-- a plan that stands in the open places, and keeps the lags -/
def KeepP (ln : Nat → Nat) (lg : Nat → Int) (n : Nat) (op P : Nat → Nat) : Prop := (∀ j, j < n → (op j).testBit (P j) = true ∧ P j < 30) ∧ ∀ a b, a < n → b < n → lg (a * 4 + b) ≠ -10 → ((P b % 10 + ln b : Nat) : Int) + lg (a * 4 + b) ≤ ((P a % 10 : Nat) : Int)
theorem close1 {ln op P : Nat → Nat} {lg : Nat → Int} {n a b : Nat} (ha : a < n) (hb : b < n) (hl : lg (a * 4 + b) ≠ -10) (h : KeepP ln lg n op P) : KeepP ln lg n (uN op a (op a &&& daysF (((ntzV (stI (op b)) : Nat) : Int) + (((ln b : Nat) : Int) + lg (a * 4 + b))) ((9 : Nat) : Int) * 1049601)) P := by
  refine ⟨fun j hj => ?_, h.2⟩
  obtain ⟨h1, h2⟩ := h.1 j hj
  refine ⟨?_, h2⟩
  by_cases e : j = a
  · subst e
    rw [uN_s, Nat.testBit_and, h1, ie_tb _ (daysF_lt _ _) _ h2, daysF_tb]
    obtain ⟨h3, h4⟩ := h.1 b hb
    have h5 := fs_le h4 h3
    have h6 := h.2 j b hj hb hl
    simp; omega
  · rw [uN_n _ _ e]; exact h1
theorem close2 {ln op P : Nat → Nat} {lg : Nat → Int} {n a b : Nat} (ha : a < n) (hb : b < n) (hl : lg (a * 4 + b) ≠ -10) (h : KeepP ln lg n op P) : KeepP ln lg n (uN op b (op b &&& daysF ((0 : Nat) : Int) ((((31 : Nat) : Int) - ((nlzV (stI (op a)) : Nat) : Int)) - (((ln b : Nat) : Int) + lg (a * 4 + b))) * 1049601)) P := by
  refine ⟨fun j hj => ?_, h.2⟩
  obtain ⟨h1, h2⟩ := h.1 j hj
  refine ⟨?_, h2⟩
  by_cases e : j = b
  · subst e
    rw [uN_s, Nat.testBit_and, h1, ie_tb _ (daysF_lt _ _) _ h2, daysF_tb]
    obtain ⟨h3, h4⟩ := h.1 a ha
    have h5 := la_ge h4 h3
    have h6 := h.2 a j ha hj hl
    simp; omega
  · rw [uN_n _ _ e]; exact h1
theorem sub_and {op : Nat → Nat} {k m j t : Nat} (h : (uN op k (op k &&& m) j).testBit t = true) : (op j).testBit t = true := by
  by_cases e : j = k
  · subst e; rw [uN_s, Nat.testBit_and] at h; simp at h; exact h.1
  · rw [uN_n _ _ e] at h; exact h
def mixN (k : Nat) (f g : Nat → Nat) : Nat → Nat := fun j => if j < k then f j else g j
theorem mixN_u (k : Nat) (f g : Nat → Nat) : uN (mixN k f g) k (f k) = mixN (k + 1) f g := by
  funext j; simp only [uN, mixN]
  by_cases h : j = k
  · rw [if_pos h, if_pos (by omega), h]
  · rw [if_neg h]
    by_cases h2 : j < k
    · rw [if_pos h2, if_pos (by omega)]
    · rw [if_neg h2, if_neg (by omega)]
theorem mixN_0 (f g : Nat → Nat) : mixN 0 f g = g := by funext j; simp [mixN]
/-- a batch's places, all but the rules -/
def frF (bl pl ea : Nat → Nat) (fz : Nat → Bool) (T dd sh : Nat) (j : Nat) : Nat :=
  if fz j = true then freeF (daysF ((ea j : Nat) : Int) (((dd : Nat) : Int) - ((bl j : Nat) : Int))) (daysF 0 (((bl j : Nat) : Int) - ((1 : Nat) : Int))) sh (T * 10) &&& 1 * 2 ^ pl j
  else freeF (daysF ((ea j : Nat) : Int) (((dd : Nat) : Int) - ((bl j : Nat) : Int))) (daysF 0 (((bl j : Nat) : Int) - ((1 : Nat) : Int))) sh (T * 10)
/-- the rules taken over, one behind the other, but for one -/
def TL (rk ra rb rd : Nat → Int) (wo : Int) (g : Nat → Int) : Nat → Nat → Int
  | 0 => g
  | k + 1 => if ((k : Nat) : Int) = wo then TL rk ra rb rd wo g k else tkL (TL rk ra rb rd wo g k) (rk k) (ra k) (rb k) (rd k)
def TA (rk ra rb : Nat → Int) (wo : Int) (g : Nat → Nat) : Nat → Nat → Nat
  | 0 => g
  | k + 1 => if ((k : Nat) : Int) = wo then TA rk ra rb wo g k else tkA (TA rk ra rb wo g k) (rk k) (ra k) (rb k)
def TO (ln : Nat → Nat) (rk ra rd : Nat → Int) (wo : Int) (g : Nat → Nat) : Nat → Nat → Nat
  | 0 => g
  | k + 1 => if ((k : Nat) : Int) = wo then TO ln rk ra rd wo g k else tkO ln (TO ln rk ra rd wo g k) (rk k) (ra k) (rd k)
theorem tkL_b {lg : Nat → Int} (h : ∀ j, -10 ≤ lg j ∧ lg j ≤ 10) {kd a b d : Int} (hd : kd ≠ 1 → 0 ≤ d ∧ d ≤ 10) : ∀ j, -10 ≤ tkL lg kd a b d j ∧ tkL lg kd a b d j ≤ 10 := by
  intro j; unfold tkL; split
  · rename_i e
    have := hd (by omega)
    have h2 := h (a.toNat * 4 + b.toNat)
    exact uZ_all (P := fun x => -10 ≤ x ∧ x ≤ 10) h _ (by omega) j
  · exact h j
theorem or16 {x y : Nat} (hx : x < 16) (hy : y < 4) : x ||| 1 * 2 ^ y < 16 := Nat.or_lt_two_pow (n := 4) hx (by rw [Nat.one_mul]; exact Nat.pow_lt_pow_right (by decide) hy)
theorem tkA_b {ap : Nat → Nat} (h : ∀ j, ap j < 16) {kd a b : Int} (ha : 0 ≤ a ∧ a < 4) (hb : kd ≤ 1 → 0 ≤ b ∧ b < 4) : ∀ j, tkA ap kd a b j < 16 := by
  unfold tkA; split
  · rename_i e
    have := hb (by omega)
    have h1 : ∀ j, uN ap a.toNat (ap a.toNat ||| 1 * 2 ^ b.toNat) j < 16 := uN_all (P := fun x => x < 16) h _ (or16 (h _) (by omega))
    exact uN_all (P := fun x => x < 16) h1 _ (or16 (h1 _) (by omega))
  · exact h
theorem tkO_b {ln op : Nat → Nat} (h : ∀ j, op j < 1073741824) {kd a d : Int} : ∀ j, tkO ln op kd a d j < 1073741824 := by
  unfold tkO; split
  · exact uN_all (P := fun x => x < 1073741824) h _ (and_lt (h _))
  · split
    · exact uN_all (P := fun x => x < 1073741824) h _ (and_lt (h _))
    · exact h

set_option maxHeartbeats 4000000 in
set_option maxRecDepth 100000 in
theorem k_X2_takeOne (l : Launch) (D : va_G) (cI cZ : ClassId) (sz : Nat) (hQ : Nat) (qb : Nat) (ql : Nat) (qh : Nat) (qf : Nat) (qg : Nat) (qa : Nat) (qo : Nat) (qt : Nat) (n : Nat) (bw : Nat) (ln : Nat → Nat) (lg : Nat → Int) (ap : Nat → Nat) (op : Nat → Nat) (kd : Int) (a : Int) (b : Int) (d : Int) (hkd : 0 ≤ kd ∧ kd ≤ 3) (ha : 0 ≤ a ∧ a < 4) (hb9 : kd ≤ 1 → 0 ≤ b ∧ b < 4) (hb8 : -2147483648 ≤ b ∧ b < 2147483648) (hd9 : kd ≠ 1 → 0 ≤ d ∧ d ≤ 10) (hd8 : -2147483648 ≤ d ∧ d < 2147483648) (hln : ∀ j, ln j ≤ 10) (hlg : ∀ j, -10 ≤ lg j ∧ lg j ≤ 10) (hap : ∀ j, ap j < 16) (hop : ∀ j, op j < 1073741824) : Cv l yX2_takeOne wsX2_takeOne (rmD 3) D vwCl [(cI, .int), (cZ, .boolean)] [.ref hQ, .int (iI (kd)), .int (iI (a)), .int (iI (b)), .int (iI (d))] [(hQ, .inr (2, [.ref qb, .ref ql, .ref qh, .ref qf, .ref qg, .ref qa, .ref qo, .ref qt, .int (iI (((n : Nat) : Int))), .int (iI (((bw : Nat) : Int)))])), ce_i ql cI 4 (nZ (ln)), ce_i qg cI 16 (lg), ce_i qa cI 4 (nZ (ap)), ce_i qo cI 16 (nZ (op))] sz (fun w => ∃ lg2 : Nat → Int, ∃ ap2 : Nat → Nat, ∃ op2 : Nat → Nat, w = [(hQ, .inr (2, [.ref qb, .ref ql, .ref qh, .ref qf, .ref qg, .ref qa, .ref qo, .ref qt, .int (iI (((n : Nat) : Int))), .int (iI (((bw : Nat) : Int)))])), ce_i ql cI 4 (nZ (ln)), ce_i qg cI 16 (lg2), ce_i qa cI 4 (nZ (ap2)), ce_i qo cI 16 (nZ (op2))] ∧ (lg2 = tkL lg kd a b d) ∧ (ap2 = tkA ap kd a b) ∧ (op2 = tkO ln op kd a d)) 0 0 := by
  refine Cv_of (cc := cX2_takeOne) (nL := 6) (by decide) rfl (Nat.le_of_ble_eq_true rfl) ?_
  intro p e s m below meth c A Q hsz C hK hN hA hP hD hS hin hret ls hl
  obtain ⟨hx, hb, hml, hown, hts⟩ := id C
  have hown : s.vm.findClass RX2 = some m.cls := hown
  have hl : lv_has ls 6 [(0, .ref hQ), (1, .int (iI (kd))), (2, .int (iI (a))), (3, .int (iI (b))), (4, .int (iI (d)))] := hl
  have in_X2 : ∀ w ∈ u_ws RX2 TX2 10, w ∈ wsX2_takeOne := fun w h => List.mem_cons_of_mem _ (inX2 w h)
  have l1 := hln a.toNat
  have g1 := hlg (a.toNat * 4 + b.toNat)
  have hz : 0 ≤ a.toNat ∧ a.toNat < 4 := by omega
  refine lv_iload_n hx hb dX2_takeOne_0 rfl (lv_at hl 1 rfl) ?_
  refine rz_ine (tgt := 33) hx hb dX2_takeOne_1 (by decide) (by omega) (fun c1 => ?_) (fun c1 => ?_)
  · refine lv_iload_n hx hb dX2_takeOne_33 rfl (lv_at hl 1 rfl) ?_
    refine lv_iconst (v := iI (((1 : Nat) : Int))) hx hb dX2_takeOne_34 (by decide +kernel) ?_
    refine rz_cne (tgt := 65) hx hb dX2_takeOne_35 (by decide) (by omega) (by omega) (fun c2 => ?_) (fun c2 => ?_)
    · refine lv_iload_n hx hb dX2_takeOne_65 rfl (lv_at hl 1 rfl) ?_
      refine lv_iconst (v := iI (((2 : Nat) : Int))) hx hb dX2_takeOne_66 (by decide +kernel) ?_
      refine rz_cne (tgt := 98) hx hb dX2_takeOne_67 (by decide) (by omega) (by omega) (fun c3 => ?_) (fun c3 => ?_)
      · refine lv_iload_n hx hb dX2_takeOne_98 rfl (lv_at hl 1 rfl) ?_
        refine lv_iconst (v := iI (((3 : Nat) : Int))) hx hb dX2_takeOne_99 (by decide +kernel) ?_
        refine rz_cne (tgt := 122) hx hb dX2_takeOne_100 (by decide) (by omega) (by omega) (fun c4 => ?_) (fun c4 => ?_)
        · exfalso; omega
        · refine lv_aload_n hx hb dX2_takeOne_103 rfl (lv_at hl 0 rfl) ?_
          refine va_get (D := D) (ci := 2) (v := .ref qo) (C := RX2) (T := TX2) (N := 10) hx hb hts in_X2 hown hK hP 0 rfl rfl 6 (by decide) (hts _ (List.mem_cons_of_mem _ tf_X2_30)) (fun _ h9 => h9) rfl dX2_takeOne_104 ?_
          refine lv_iload_n hx hb dX2_takeOne_107 rfl (lv_at hl 2 rfl) ?_
          refine rz_as (y := ((a.toNat : Nat) : Int)) (by omega) ?_
          refine lv_dup2_11 hx hb dX2_takeOne_108 rfl rfl ?_
          refine rn_aldM hx hb hK hP 4 0 rfl rfl (by omega) (by omega) dX2_takeOne_109 ?_
          refine lv_iload hx hb dX2_takeOne_110 (lv_at hl 4 rfl) ?_
          refine lv_bipush (v := iI (((9 : Nat) : Int))) hx hb dX2_takeOne_112 (by decide +kernel) ?_
          have hPc := hP.sub (ws' := []) [] rfl
          have hDc := hD.sub (ws' := []) [] (by decide) rfl
          refine rz_calliR (va_runSN (As := [.int (iI (d)), .int (iI (((9 : Nat) : Int)))]) (rest := [.int (iI (((op a.toNat : Nat) : Int))), .int (iI (((a.toNat : Nat) : Int))), .ref qo]) ⟨hx, hb, hml, hown, hts⟩ (k_X4_daysFromTo l D cI cZ s.heap.size d ((9 : Nat) : Int) (by omega) (by omega)) ⟨va_cnB 2 hts (gG (g_c cmX4_daysFromTo)) rfl rfl rfl (nK_X2_50 hN) (hts _ (List.mem_cons_of_mem _ tin_X4)) (by decide +kernel) ⟨Nat.le_of_ble_eq_true rfl, Nat.le_of_ble_eq_true rfl⟩, hts _ (List.mem_cons_of_mem _ ts_X4_daysFromTo), trivial⟩ ⟨cP_blind, cP_pre hPc hK hN hDc⟩ rfl rfl hl.1 rfl (lv_room (Nat.le_of_ble_eq_true rfl)) dX2_takeOne_114 ⟨Nat.le_refl _, Nat.le_refl _⟩) hP hD hS hA [] rfl (fun z5 H locs hp hP hS => ?_)
          subst hp
          have hPc := hP.sub (ws' := []) [] rfl
          have hDc := hD.sub (ws' := []) [] (by decide) rfl
          refine rz_calliR (va_runS (As := [.int (iI (((daysF d ((9 : Nat) : Int) : Nat) : Int)))]) (rest := [.int (iI (((op a.toNat : Nat) : Int))), .int (iI (((a.toNat : Nat) : Int))), .ref qo]) ⟨hx, hb, hml, hown, hts⟩ (k_X2_inEveryTank l D cI cZ H.size (daysF d ((9 : Nat) : Int)) ) (va_cwS 1 hts (gG (g_S tm_X2_108 ts_X2_inEveryTank tin_X2 cmX2_inEveryTank)) rfl rfl rfl (by decide +kernel) ⟨Nat.le_of_ble_eq_true rfl, Nat.le_of_ble_eq_true rfl⟩) ⟨cP_blind, cP_pre hPc hK hN hDc⟩ rfl rfl hl.1 rfl (lv_room (Nat.le_of_ble_eq_true rfl)) dX2_takeOne_117 ⟨Nat.le_refl _, Nat.le_refl _⟩) hP hD hS hA [] rfl (fun z6 H locs hp hP hS => ?_)
          subst hp
          refine rz_and hx hb dX2_takeOne_120 ?_
          refine rn_astM hx hb hK hP hD hS 4 0 rfl rfl (by omega) (by omega) dX2_takeOne_121 (fun H locs hP hD hS => ?_)
          have hP : va_P D vwCl [(hQ, .inr (2, [.ref qb, .ref ql, .ref qh, .ref qf, .ref qg, .ref qa, .ref qo, .ref qt, .int (iI (((n : Nat) : Int))), .int (iI (((bw : Nat) : Int)))])), ce_i ql cI 4 (nZ (ln)), ce_i qg cI 16 (lg), ce_i qa cI 4 (nZ (ap)), ce_i qo cI 16 (nZ (uN op a.toNat ((op a.toNat) &&& ((daysF d ((9 : Nat) : Int)) * 1049601))))] H := hP
          have hD : va_D A [(hQ, .inr (2, [.ref qb, .ref ql, .ref qh, .ref qf, .ref qg, .ref qa, .ref qo, .ref qt, .int (iI (((n : Nat) : Int))), .int (iI (((bw : Nat) : Int)))])), ce_i ql cI 4 (nZ (ln)), ce_i qg cI 16 (lg), ce_i qa cI 4 (nZ (ap)), ce_i qo cI 16 (nZ (uN op a.toNat ((op a.toNat) &&& ((daysF d ((9 : Nat) : Int)) * 1049601))))] := hD
          exact hret _ _ _ _ _ dX2_takeOne_122 ⟨_, _, _, rfl, (by first | rw [tkL, if_pos (by omega)] | rw [tkL, if_neg (by omega)]), (by first | rw [tkA, if_pos (by omega)] | rw [tkA, if_neg (by omega)]), (by first | rw [tkO, if_pos (by omega)] | rw [tkO, if_neg (by omega), if_pos (by omega)] | rw [tkO, if_neg (by omega), if_neg (by omega)])⟩ hP hD hS
      · refine lv_aload_n hx hb dX2_takeOne_70 rfl (lv_at hl 0 rfl) ?_
        refine va_get (D := D) (ci := 2) (v := .ref qo) (C := RX2) (T := TX2) (N := 10) hx hb hts in_X2 hown hK hP 0 rfl rfl 6 (by decide) (hts _ (List.mem_cons_of_mem _ tf_X2_30)) (fun _ h9 => h9) rfl dX2_takeOne_71 ?_
        refine lv_iload_n hx hb dX2_takeOne_74 rfl (lv_at hl 2 rfl) ?_
        refine rz_as (y := ((a.toNat : Nat) : Int)) (by omega) ?_
        refine lv_dup2_11 hx hb dX2_takeOne_75 rfl rfl ?_
        refine rn_aldM hx hb hK hP 4 0 rfl rfl (by omega) (by omega) dX2_takeOne_76 ?_
        refine lv_iconst (v := iI (((0 : Nat) : Int))) hx hb dX2_takeOne_77 (by decide +kernel) ?_
        refine lv_iload hx hb dX2_takeOne_78 (lv_at hl 4 rfl) ?_
        refine lv_aload_n hx hb dX2_takeOne_80 rfl (lv_at hl 0 rfl) ?_
        refine va_get (D := D) (ci := 2) (v := .ref ql) (C := RX2) (T := TX2) (N := 10) hx hb hts in_X2 hown hK hP 0 rfl rfl 1 (by decide) (hts _ (List.mem_cons_of_mem _ tf_X2_15)) (fun _ h9 => h9) rfl dX2_takeOne_81 ?_
        refine lv_iload_n hx hb dX2_takeOne_84 rfl (lv_at hl 2 rfl) ?_
        refine rz_as (y := ((a.toNat : Nat) : Int)) (by omega) ?_
        refine rn_aldM hx hb hK hP 1 0 rfl rfl (by omega) (by omega) dX2_takeOne_85 ?_
        refine rz_sub hx hb dX2_takeOne_86 ?_
        have hPc := hP.sub (ws' := []) [] rfl
        have hDc := hD.sub (ws' := []) [] (by decide) rfl
        refine rz_calliR (va_runSN (As := [.int (iI (((0 : Nat) : Int))), .int (iI (d - ((ln a.toNat : Nat) : Int)))]) (rest := [.int (iI (((op a.toNat : Nat) : Int))), .int (iI (((a.toNat : Nat) : Int))), .ref qo]) ⟨hx, hb, hml, hown, hts⟩ (k_X4_daysFromTo l D cI cZ s.heap.size ((0 : Nat) : Int) (d - ((ln a.toNat : Nat) : Int)) (by omega) (by omega)) ⟨va_cnB 2 hts (gG (g_c cmX4_daysFromTo)) rfl rfl rfl (nK_X2_50 hN) (hts _ (List.mem_cons_of_mem _ tin_X4)) (by decide +kernel) ⟨Nat.le_of_ble_eq_true rfl, Nat.le_of_ble_eq_true rfl⟩, hts _ (List.mem_cons_of_mem _ ts_X4_daysFromTo), trivial⟩ ⟨cP_blind, cP_pre hPc hK hN hDc⟩ rfl rfl hl.1 rfl (lv_room (Nat.le_of_ble_eq_true rfl)) dX2_takeOne_87 ⟨Nat.le_refl _, Nat.le_refl _⟩) hP hD hS hA [] rfl (fun z7 H locs hp hP hS => ?_)
        subst hp
        have hPc := hP.sub (ws' := []) [] rfl
        have hDc := hD.sub (ws' := []) [] (by decide) rfl
        refine rz_calliR (va_runS (As := [.int (iI (((daysF ((0 : Nat) : Int) (d - ((ln a.toNat : Nat) : Int)) : Nat) : Int)))]) (rest := [.int (iI (((op a.toNat : Nat) : Int))), .int (iI (((a.toNat : Nat) : Int))), .ref qo]) ⟨hx, hb, hml, hown, hts⟩ (k_X2_inEveryTank l D cI cZ H.size (daysF ((0 : Nat) : Int) (d - ((ln a.toNat : Nat) : Int))) ) (va_cwS 1 hts (gG (g_S tm_X2_108 ts_X2_inEveryTank tin_X2 cmX2_inEveryTank)) rfl rfl rfl (by decide +kernel) ⟨Nat.le_of_ble_eq_true rfl, Nat.le_of_ble_eq_true rfl⟩) ⟨cP_blind, cP_pre hPc hK hN hDc⟩ rfl rfl hl.1 rfl (lv_room (Nat.le_of_ble_eq_true rfl)) dX2_takeOne_90 ⟨Nat.le_refl _, Nat.le_refl _⟩) hP hD hS hA [] rfl (fun z8 H locs hp hP hS => ?_)
        subst hp
        refine rz_and hx hb dX2_takeOne_93 ?_
        refine rn_astM hx hb hK hP hD hS 4 0 rfl rfl (by omega) (by omega) dX2_takeOne_94 (fun H locs hP hD hS => ?_)
        have hP : va_P D vwCl [(hQ, .inr (2, [.ref qb, .ref ql, .ref qh, .ref qf, .ref qg, .ref qa, .ref qo, .ref qt, .int (iI (((n : Nat) : Int))), .int (iI (((bw : Nat) : Int)))])), ce_i ql cI 4 (nZ (ln)), ce_i qg cI 16 (lg), ce_i qa cI 4 (nZ (ap)), ce_i qo cI 16 (nZ (uN op a.toNat ((op a.toNat) &&& ((daysF ((0 : Nat) : Int) (d - ((ln a.toNat : Nat) : Int))) * 1049601))))] H := hP
        have hD : va_D A [(hQ, .inr (2, [.ref qb, .ref ql, .ref qh, .ref qf, .ref qg, .ref qa, .ref qo, .ref qt, .int (iI (((n : Nat) : Int))), .int (iI (((bw : Nat) : Int)))])), ce_i ql cI 4 (nZ (ln)), ce_i qg cI 16 (lg), ce_i qa cI 4 (nZ (ap)), ce_i qo cI 16 (nZ (uN op a.toNat ((op a.toNat) &&& ((daysF ((0 : Nat) : Int) (d - ((ln a.toNat : Nat) : Int))) * 1049601))))] := hD
        refine lv_goto (tgt := 122) hx hb dX2_takeOne_95 (by decide) ?_
        exact hret _ _ _ _ _ dX2_takeOne_122 ⟨_, _, _, rfl, (by first | rw [tkL, if_pos (by omega)] | rw [tkL, if_neg (by omega)]), (by first | rw [tkA, if_pos (by omega)] | rw [tkA, if_neg (by omega)]), (by first | rw [tkO, if_pos (by omega)] | rw [tkO, if_neg (by omega), if_pos (by omega)] | rw [tkO, if_neg (by omega), if_neg (by omega)])⟩ hP hD hS
    · refine lv_aload_n hx hb dX2_takeOne_38 rfl (lv_at hl 0 rfl) ?_
      refine va_get (D := D) (ci := 2) (v := .ref qa) (C := RX2) (T := TX2) (N := 10) hx hb hts in_X2 hown hK hP 0 rfl rfl 5 (by decide) (hts _ (List.mem_cons_of_mem _ tf_X2_27)) (fun _ h9 => h9) rfl dX2_takeOne_39 ?_
      refine lv_iload_n hx hb dX2_takeOne_42 rfl (lv_at hl 2 rfl) ?_
      refine rz_as (y := ((a.toNat : Nat) : Int)) (by omega) ?_
      refine lv_dup2_11 hx hb dX2_takeOne_43 rfl rfl ?_
      refine rn_aldM hx hb hK hP 3 0 rfl rfl (by omega) (by omega) dX2_takeOne_44 ?_
      refine lv_iconst (v := iI (((1 : Nat) : Int))) hx hb dX2_takeOne_45 (by decide +kernel) ?_
      refine lv_iload_n hx hb dX2_takeOne_46 rfl (lv_at hl 3 rfl) ?_
      refine rz_as (y := ((b.toNat : Nat) : Int)) (by omega) ?_
      refine rz_shl hx hb dX2_takeOne_47 (by omega) (pw_lt (by omega)) ?_
      refine rz_or hx hb dX2_takeOne_48 ?_
      refine rn_astM hx hb hK hP hD hS 3 0 rfl rfl (by omega) (by omega) dX2_takeOne_49 (fun H locs hP hD hS => ?_)
      have hP : va_P D vwCl [(hQ, .inr (2, [.ref qb, .ref ql, .ref qh, .ref qf, .ref qg, .ref qa, .ref qo, .ref qt, .int (iI (((n : Nat) : Int))), .int (iI (((bw : Nat) : Int)))])), ce_i ql cI 4 (nZ (ln)), ce_i qg cI 16 (lg), ce_i qa cI 4 (nZ (uN ap a.toNat ((ap a.toNat) ||| (1 * 2 ^ b.toNat)))), ce_i qo cI 16 (nZ (op))] H := hP
      have hD : va_D A [(hQ, .inr (2, [.ref qb, .ref ql, .ref qh, .ref qf, .ref qg, .ref qa, .ref qo, .ref qt, .int (iI (((n : Nat) : Int))), .int (iI (((bw : Nat) : Int)))])), ce_i ql cI 4 (nZ (ln)), ce_i qg cI 16 (lg), ce_i qa cI 4 (nZ (uN ap a.toNat ((ap a.toNat) ||| (1 * 2 ^ b.toNat)))), ce_i qo cI 16 (nZ (op))] := hD
      refine lv_aload_n hx hb dX2_takeOne_50 rfl (lv_at hl 0 rfl) ?_
      refine va_get (D := D) (ci := 2) (v := .ref qa) (C := RX2) (T := TX2) (N := 10) hx hb hts in_X2 hown hK hP 0 rfl rfl 5 (by decide) (hts _ (List.mem_cons_of_mem _ tf_X2_27)) (fun _ h9 => h9) rfl dX2_takeOne_51 ?_
      refine lv_iload_n hx hb dX2_takeOne_54 rfl (lv_at hl 3 rfl) ?_
      refine rz_as (y := ((b.toNat : Nat) : Int)) (by omega) ?_
      refine lv_dup2_11 hx hb dX2_takeOne_55 rfl rfl ?_
      refine rn_aldM hx hb hK hP 3 0 rfl rfl (by omega) (by omega) dX2_takeOne_56 ?_
      refine lv_iconst (v := iI (((1 : Nat) : Int))) hx hb dX2_takeOne_57 (by decide +kernel) ?_
      refine lv_iload_n hx hb dX2_takeOne_58 rfl (lv_at hl 2 rfl) ?_
      refine rz_as (y := ((a.toNat : Nat) : Int)) (by omega) ?_
      refine rz_shl hx hb dX2_takeOne_59 (by omega) (pw_lt (by omega)) ?_
      refine rz_or hx hb dX2_takeOne_60 ?_
      refine rn_astM hx hb hK hP hD hS 3 0 rfl rfl (by omega) (by omega) dX2_takeOne_61 (fun H locs hP hD hS => ?_)
      have hP : va_P D vwCl [(hQ, .inr (2, [.ref qb, .ref ql, .ref qh, .ref qf, .ref qg, .ref qa, .ref qo, .ref qt, .int (iI (((n : Nat) : Int))), .int (iI (((bw : Nat) : Int)))])), ce_i ql cI 4 (nZ (ln)), ce_i qg cI 16 (lg), ce_i qa cI 4 (nZ (uN (uN ap a.toNat ((ap a.toNat) ||| (1 * 2 ^ b.toNat))) b.toNat (((uN ap a.toNat ((ap a.toNat) ||| (1 * 2 ^ b.toNat))) b.toNat) ||| (1 * 2 ^ a.toNat)))), ce_i qo cI 16 (nZ (op))] H := hP
      have hD : va_D A [(hQ, .inr (2, [.ref qb, .ref ql, .ref qh, .ref qf, .ref qg, .ref qa, .ref qo, .ref qt, .int (iI (((n : Nat) : Int))), .int (iI (((bw : Nat) : Int)))])), ce_i ql cI 4 (nZ (ln)), ce_i qg cI 16 (lg), ce_i qa cI 4 (nZ (uN (uN ap a.toNat ((ap a.toNat) ||| (1 * 2 ^ b.toNat))) b.toNat (((uN ap a.toNat ((ap a.toNat) ||| (1 * 2 ^ b.toNat))) b.toNat) ||| (1 * 2 ^ a.toNat)))), ce_i qo cI 16 (nZ (op))] := hD
      refine lv_goto (tgt := 122) hx hb dX2_takeOne_62 (by decide) ?_
      exact hret _ _ _ _ _ dX2_takeOne_122 ⟨_, _, _, rfl, (by first | rw [tkL, if_pos (by omega)] | rw [tkL, if_neg (by omega)]), (by first | rw [tkA, if_pos (by omega)] | rw [tkA, if_neg (by omega)]), (by first | rw [tkO, if_pos (by omega)] | rw [tkO, if_neg (by omega), if_pos (by omega)] | rw [tkO, if_neg (by omega), if_neg (by omega)])⟩ hP hD hS
  · refine lv_iload_n hx hb dX2_takeOne_4 rfl (lv_at hl 2 rfl) ?_
    refine lv_iconst (v := iI (((4 : Nat) : Int))) hx hb dX2_takeOne_5 (by decide +kernel) ?_
    refine rz_mul hx hb dX2_takeOne_6 ?_
    refine lv_iload_n hx hb dX2_takeOne_7 rfl (lv_at hl 3 rfl) ?_
    refine rz_add hx hb dX2_takeOne_8 ?_
    refine rz_as (y := ((a.toNat * 4 + b.toNat : Nat) : Int)) (by omega) ?_
    refine lv_istore (lv' := [(5, .int (iI (((a.toNat * 4 + b.toNat : Nat) : Int)))), (0, .ref hQ), (1, .int (iI (kd))), (2, .int (iI (a))), (3, .int (iI (b))), (4, .int (iI (d)))]) hx hb dX2_takeOne_9 hl (by decide) rfl (fun ls hl => ?_)
    refine lv_aload_n hx hb dX2_takeOne_11 rfl (lv_at hl 1 rfl) ?_
    refine va_get (D := D) (ci := 2) (v := .ref qg) (C := RX2) (T := TX2) (N := 10) hx hb hts in_X2 hown hK hP 0 rfl rfl 4 (by decide) (hts _ (List.mem_cons_of_mem _ tf_X2_24)) (fun _ h9 => h9) rfl dX2_takeOne_12 ?_
    refine lv_iload hx hb dX2_takeOne_15 (lv_at hl 0 rfl) ?_
    refine lv_aload_n hx hb dX2_takeOne_17 rfl (lv_at hl 1 rfl) ?_
    refine va_get (D := D) (ci := 2) (v := .ref qg) (C := RX2) (T := TX2) (N := 10) hx hb hts in_X2 hown hK hP 0 rfl rfl 4 (by decide) (hts _ (List.mem_cons_of_mem _ tf_X2_24)) (fun _ h9 => h9) rfl dX2_takeOne_18 ?_
    refine lv_iload hx hb dX2_takeOne_21 (lv_at hl 0 rfl) ?_
    refine rn_ald hx hb hK hP 2 0 rfl rfl (by omega) (by omega) dX2_takeOne_23 ?_
    refine lv_iload hx hb dX2_takeOne_24 (lv_at hl 5 rfl) ?_
    refine rz_mmax (rest := [.int (iI (((a.toNat * 4 + b.toNat : Nat) : Int))), .ref qg]) hx hb (hml.trans hl.1.symm) hown hts tm_X2_103 (Nat.le_of_ble_eq_true rfl) (Nat.le_of_ble_eq_true rfl) (Nat.le_refl _) (Nat.le_refl _) dX2_takeOne_26 (by omega) (by omega) ?_
    refine rn_ast hx hb hK hP hD hS 2 0 rfl rfl (by omega) (by omega) dX2_takeOne_29 (fun H locs hP hD hS => ?_)
    have hP : va_P D vwCl [(hQ, .inr (2, [.ref qb, .ref ql, .ref qh, .ref qf, .ref qg, .ref qa, .ref qo, .ref qt, .int (iI (((n : Nat) : Int))), .int (iI (((bw : Nat) : Int)))])), ce_i ql cI 4 (nZ (ln)), ce_i qg cI 16 (uZ lg (a.toNat * 4 + b.toNat) (max (lg (a.toNat * 4 + b.toNat)) d)), ce_i qa cI 4 (nZ (ap)), ce_i qo cI 16 (nZ (op))] H := hP
    have hD : va_D A [(hQ, .inr (2, [.ref qb, .ref ql, .ref qh, .ref qf, .ref qg, .ref qa, .ref qo, .ref qt, .int (iI (((n : Nat) : Int))), .int (iI (((bw : Nat) : Int)))])), ce_i ql cI 4 (nZ (ln)), ce_i qg cI 16 (uZ lg (a.toNat * 4 + b.toNat) (max (lg (a.toNat * 4 + b.toNat)) d)), ce_i qa cI 4 (nZ (ap)), ce_i qo cI 16 (nZ (op))] := hD
    refine lv_goto (tgt := 122) hx hb dX2_takeOne_30 (by decide) ?_
    exact hret _ _ _ _ _ dX2_takeOne_122 ⟨_, _, _, rfl, (by first | rw [tkL, if_pos (by omega)] | rw [tkL, if_neg (by omega)]), (by first | rw [tkA, if_pos (by omega)] | rw [tkA, if_neg (by omega)]), (by first | rw [tkO, if_pos (by omega)] | rw [tkO, if_neg (by omega), if_pos (by omega)] | rw [tkO, if_neg (by omega), if_neg (by omega)])⟩ hP hD hS

set_option maxHeartbeats 4000000 in
set_option maxRecDepth 100000 in
theorem k_X2_closeByLags (l : Launch) (D : va_G) (cI cZ : ClassId) (sz : Nat) (hQ : Nat) (qb : Nat) (ql : Nat) (qh : Nat) (qf : Nat) (qg : Nat) (qa : Nat) (qo : Nat) (qt : Nat) (n : Nat) (bw : Nat) (ln : Nat → Nat) (lg : Nat → Int) (op : Nat → Nat) (hn : n ≤ 4) (hln : ∀ j, ln j ≤ 10) (hlg : ∀ j, -10 ≤ lg j ∧ lg j ≤ 10) (hop : ∀ j, op j < 1073741824) : Cv l yX2_closeByLags wsX2_closeByLags (rmD 3) D vwCl [(cI, .int), (cZ, .boolean)] [.ref hQ] [(hQ, .inr (2, [.ref qb, .ref ql, .ref qh, .ref qf, .ref qg, .ref qa, .ref qo, .ref qt, .int (iI (((n : Nat) : Int))), .int (iI (((bw : Nat) : Int)))])), ce_i ql cI 4 (nZ (ln)), ce_i qg cI 16 (lg), ce_i qo cI 16 (nZ (op))] sz (fun w => ∃ op2 : Nat → Nat, w = [(hQ, .inr (2, [.ref qb, .ref ql, .ref qh, .ref qf, .ref qg, .ref qa, .ref qo, .ref qt, .int (iI (((n : Nat) : Int))), .int (iI (((bw : Nat) : Int)))])), ce_i ql cI 4 (nZ (ln)), ce_i qg cI 16 (lg), ce_i qo cI 16 (nZ (op2))] ∧ (∀ j, op2 j < 1073741824) ∧ (∀ j t, (op2 j).testBit t = true → (op j).testBit t = true) ∧ (∀ P, KeepP ln lg n op P → KeepP ln lg n op2 P)) 0 0 := by
  refine Cv_of (cc := cX2_closeByLags) (nL := 5) (by decide) rfl (Nat.le_of_ble_eq_true rfl) ?_
  intro p e s m below meth c A Q hsz C hK hN hA hP hD hS hin hret ls hl
  obtain ⟨hx, hb, hml, hown, hts⟩ := id C
  have hown : s.vm.findClass RX2 = some m.cls := hown
  have hl : lv_has ls 5 [(0, .ref hQ)] := hl
  have in_X2 : ∀ w ∈ u_ws RX2 TX2 10, w ∈ wsX2_closeByLags := fun w h => List.mem_cons_of_mem _ (inX2 w h)
  have KG : ∀ fu : Nat, (∀ (a : Nat) (o1 : Nat → Nat), (n - a) * 10 + 9 < fu → (a ≤ n) → (∀ j, o1 j < 1073741824) → (∀ j t, (o1 j).testBit t = true → (op j).testBit t = true) → (∀ P, KeepP ln lg n op P → KeepP ln lg n o1 P) → ∀ (H : Heap) (locs : List Loc) (ls : Array Slot), va_P D vwCl [(hQ, .inr (2, [.ref qb, .ref ql, .ref qh, .ref qf, .ref qg, .ref qa, .ref qo, .ref qt, .int (iI (((n : Nat) : Int))), .int (iI (((bw : Nat) : Int)))])), ce_i ql cI 4 (nZ (ln)), ce_i qg cI 16 (lg), ce_i qo cI 16 (nZ (o1))] H → va_D A [(hQ, .inr (2, [.ref qb, .ref ql, .ref qh, .ref qf, .ref qg, .ref qa, .ref qo, .ref qt, .int (iI (((n : Nat) : Int))), .int (iI (((bw : Nat) : Int)))])), ce_i ql cI 4 (nZ (ln)), ce_i qg cI 16 (lg), ce_i qo cI 16 (nZ (o1))] → va_S A s.heap H locs → lv_has ls 5 [(0, .ref hQ), (1, .int (iI (((a : Nat) : Int))))] → W p l e (rmD 3) s m ([.ref hQ] : List Value).toArray below meth c H locs 0 0 Q (F0 m 2 ls [])) ∧ (∀ (a : Nat) (b : Nat) (o1 : Nat → Nat), (n - a) * 10 + (n - b) < fu → (a < n) → (b ≤ n) → (∀ j, o1 j < 1073741824) → (∀ j t, (o1 j).testBit t = true → (op j).testBit t = true) → (∀ P, KeepP ln lg n op P → KeepP ln lg n o1 P) → ∀ (H : Heap) (locs : List Loc) (ls : Array Slot), va_P D vwCl [(hQ, .inr (2, [.ref qb, .ref ql, .ref qh, .ref qf, .ref qg, .ref qa, .ref qo, .ref qt, .int (iI (((n : Nat) : Int))), .int (iI (((bw : Nat) : Int)))])), ce_i ql cI 4 (nZ (ln)), ce_i qg cI 16 (lg), ce_i qo cI 16 (nZ (o1))] H → va_D A [(hQ, .inr (2, [.ref qb, .ref ql, .ref qh, .ref qf, .ref qg, .ref qa, .ref qo, .ref qt, .int (iI (((n : Nat) : Int))), .int (iI (((bw : Nat) : Int)))])), ce_i ql cI 4 (nZ (ln)), ce_i qg cI 16 (lg), ce_i qo cI 16 (nZ (o1))] → va_S A s.heap H locs → lv_has ls 5 [(0, .ref hQ), (1, .int (iI (((a : Nat) : Int)))), (2, .int (iI (((b : Nat) : Int))))] → W p l e (rmD 3) s m ([.ref hQ] : List Value).toArray below meth c H locs 0 0 Q (F0 m 12 ls [])) := by
    intro fu
    induction fu with
    | zero => exact ⟨by intro a o1 hmu; exact absurd hmu (Nat.not_lt_zero _), by intro a b o1 hmu; exact absurd hmu (Nat.not_lt_zero _)⟩
    | succ fu ih =>
      refine ⟨?_, ?_⟩
      · intro a o1 hmu ha hB hU hE H locs ls hP hD hS hl
        refine lv_iload_n hx hb dX2_closeByLags_2 rfl (lv_at hl 1 rfl) ?_
        refine lv_aload_n hx hb dX2_closeByLags_3 rfl (lv_at hl 0 rfl) ?_
        refine va_get (D := D) (ci := 2) (v := .int (iI (((n : Nat) : Int)))) (C := RX2) (T := TX2) (N := 10) hx hb hts in_X2 hown hK hP 0 rfl rfl 8 (by decide) (hts _ (List.mem_cons_of_mem _ tf_X2_45)) (fun _ h9 => h9) rfl dX2_closeByLags_4 ?_
        refine rz_cge (tgt := 116) hx hb dX2_closeByLags_7 (by decide) (by omega) (by omega) (fun c1 => ?_) (fun c1 => ?_)
        · exact hret _ _ _ _ _ dX2_closeByLags_116 ⟨_, rfl, hB, hU, hE⟩ hP hD hS
        · refine lv_iconst (v := iI (((0 : Nat) : Int))) hx hb dX2_closeByLags_10 (by decide +kernel) ?_
          refine lv_istore_n (lv' := [(2, .int (iI (((0 : Nat) : Int)))), (0, .ref hQ), (1, .int (iI (((a : Nat) : Int))))]) hx hb dX2_closeByLags_11 rfl hl (by decide) rfl (fun ls hl => ?_)
          exact ih.2 (a) (0) (o1) (by omega) (by omega) (by omega) (by first | exact hB | exact uN_all (P := fun x => x < 1073741824) (uN_all (P := fun x => x < 1073741824) hB _ (and_lt (hB _))) _ (and_lt (uN_all (P := fun x => x < 1073741824) hB _ (and_lt (hB _)) _))) (by first | exact hU | exact fun j t h => hU j t (sub_and (sub_and h))) (by first | exact hE | exact fun P h => close2 (by omega) (by omega) hcl (close1 (by omega) (by omega) hcl (hE P h))) _ _ _ hP hD hS (lv_sub hl [1, 2, 0] rfl)
      · intro a b o1 hmu ha hb9 hB hU hE H locs ls hP hD hS hl
        have l1 := hln b
        have g1 := hlg (a * 4 + b)
        refine lv_iload_n hx hb dX2_closeByLags_12 rfl (lv_at hl 2 rfl) ?_
        refine lv_aload_n hx hb dX2_closeByLags_13 rfl (lv_at hl 0 rfl) ?_
        refine va_get (D := D) (ci := 2) (v := .int (iI (((n : Nat) : Int)))) (C := RX2) (T := TX2) (N := 10) hx hb hts in_X2 hown hK hP 0 rfl rfl 8 (by decide) (hts _ (List.mem_cons_of_mem _ tf_X2_45)) (fun _ h9 => h9) rfl dX2_closeByLags_14 ?_
        refine rz_cge (tgt := 110) hx hb dX2_closeByLags_17 (by decide) (by omega) (by omega) (fun c2 => ?_) (fun c2 => ?_)
        · refine lv_iinc (v := iI (((a + 1 : Nat) : Int))) (lv' := [(1, .int (iI (((a + 1 : Nat) : Int)))), (0, .ref hQ), (2, .int (iI (((b : Nat) : Int))))]) hx hb dX2_closeByLags_110 hl (k := 1) rfl (iI_inc _) (by decide) rfl (fun ls hl => ?_)
          refine lv_goto (tgt := 2) hx hb dX2_closeByLags_113 (by decide) ?_
          exact ih.1 (a + 1) (o1) (by omega) (by omega) hB hU hE _ _ _ hP hD hS (lv_sub hl [1, 0] rfl)
        · refine lv_aload_n hx hb dX2_closeByLags_20 rfl (lv_at hl 0 rfl) ?_
          refine va_get (D := D) (ci := 2) (v := .ref qg) (C := RX2) (T := TX2) (N := 10) hx hb hts in_X2 hown hK hP 0 rfl rfl 4 (by decide) (hts _ (List.mem_cons_of_mem _ tf_X2_24)) (fun _ h9 => h9) rfl dX2_closeByLags_21 ?_
          refine lv_iload_n hx hb dX2_closeByLags_24 rfl (lv_at hl 1 rfl) ?_
          refine lv_iconst (v := iI (((4 : Nat) : Int))) hx hb dX2_closeByLags_25 (by decide +kernel) ?_
          refine rn_mul hx hb dX2_closeByLags_26 ?_
          refine lv_iload_n hx hb dX2_closeByLags_27 rfl (lv_at hl 2 rfl) ?_
          refine rn_add hx hb dX2_closeByLags_28 ?_
          refine rn_ald hx hb hK hP 2 0 rfl rfl (by omega) (by omega) dX2_closeByLags_29 ?_
          refine lv_istore_n (lv' := [(3, .int (iI (lg ((a * 4) + b)))), (0, .ref hQ), (1, .int (iI (((a : Nat) : Int)))), (2, .int (iI (((b : Nat) : Int))))]) hx hb dX2_closeByLags_30 rfl hl (by decide) rfl (fun ls hl => ?_)
          refine lv_iload_n hx hb dX2_closeByLags_31 rfl (lv_at hl 0 rfl) ?_
          refine lv_bipush (v := iI ((-10 : Int))) hx hb dX2_closeByLags_32 (by decide +kernel) ?_
          refine rz_ceq (tgt := 104) hx hb dX2_closeByLags_34 (by decide) (by omega) (by omega) (fun c3 => ?_) (fun c3 => ?_)
          · refine lv_iinc (v := iI (((b + 1 : Nat) : Int))) (lv' := [(2, .int (iI (((b + 1 : Nat) : Int)))), (3, .int (iI (lg ((a * 4) + b)))), (0, .ref hQ), (1, .int (iI (((a : Nat) : Int))))]) hx hb dX2_closeByLags_104 hl (k := 3) rfl (iI_inc _) (by decide) rfl (fun ls hl => ?_)
            refine lv_goto (tgt := 12) hx hb dX2_closeByLags_107 (by decide) ?_
            exact ih.2 (a) (b + 1) (o1) (by omega) (by omega) (by omega) (by first | exact hB | exact uN_all (P := fun x => x < 1073741824) (uN_all (P := fun x => x < 1073741824) hB _ (and_lt (hB _))) _ (and_lt (uN_all (P := fun x => x < 1073741824) hB _ (and_lt (hB _)) _))) (by first | exact hU | exact fun j t h => hU j t (sub_and (sub_and h))) (by first | exact hE | exact fun P h => close2 (by omega) (by omega) hcl (close1 (by omega) (by omega) hcl (hE P h))) _ _ _ hP hD hS (lv_sub hl [2, 3, 0] rfl)
          · have hcl := c3
            refine lv_aload_n hx hb dX2_closeByLags_37 rfl (lv_at hl 1 rfl) ?_
            refine va_get (D := D) (ci := 2) (v := .ref ql) (C := RX2) (T := TX2) (N := 10) hx hb hts in_X2 hown hK hP 0 rfl rfl 1 (by decide) (hts _ (List.mem_cons_of_mem _ tf_X2_15)) (fun _ h9 => h9) rfl dX2_closeByLags_38 ?_
            refine lv_iload_n hx hb dX2_closeByLags_41 rfl (lv_at hl 3 rfl) ?_
            refine rn_aldM hx hb hK hP 1 0 rfl rfl (by omega) (by omega) dX2_closeByLags_42 ?_
            refine lv_iload_n hx hb dX2_closeByLags_43 rfl (lv_at hl 0 rfl) ?_
            refine rz_add hx hb dX2_closeByLags_44 ?_
            refine lv_istore (lv' := [(4, .int (iI (((ln b : Nat) : Int) + (lg ((a * 4) + b))))), (3, .int (iI (lg ((a * 4) + b)))), (0, .ref hQ), (1, .int (iI (((a : Nat) : Int)))), (2, .int (iI (((b : Nat) : Int))))]) hx hb dX2_closeByLags_45 hl (by decide) rfl (fun ls hl => ?_)
            refine lv_aload_n hx hb dX2_closeByLags_47 rfl (lv_at hl 2 rfl) ?_
            refine va_get (D := D) (ci := 2) (v := .ref qo) (C := RX2) (T := TX2) (N := 10) hx hb hts in_X2 hown hK hP 0 rfl rfl 6 (by decide) (hts _ (List.mem_cons_of_mem _ tf_X2_30)) (fun _ h9 => h9) rfl dX2_closeByLags_48 ?_
            refine lv_iload_n hx hb dX2_closeByLags_51 rfl (lv_at hl 3 rfl) ?_
            refine lv_dup2_11 hx hb dX2_closeByLags_52 rfl rfl ?_
            refine rn_aldM hx hb hK hP 3 0 rfl rfl (by omega) (by omega) dX2_closeByLags_53 ?_
            refine lv_aload_n hx hb dX2_closeByLags_54 rfl (lv_at hl 2 rfl) ?_
            refine va_get (D := D) (ci := 2) (v := .ref qo) (C := RX2) (T := TX2) (N := 10) hx hb hts in_X2 hown hK hP 0 rfl rfl 6 (by decide) (hts _ (List.mem_cons_of_mem _ tf_X2_30)) (fun _ h9 => h9) rfl dX2_closeByLags_55 ?_
            refine lv_iload_n hx hb dX2_closeByLags_58 rfl (lv_at hl 4 rfl) ?_
            refine rn_aldM hx hb hK hP 3 0 rfl rfl (by omega) (by omega) dX2_closeByLags_59 ?_
            have hPc := hP.sub (ws' := []) [] rfl
            have hDc := hD.sub (ws' := []) [] (by decide) rfl
            refine rz_calliR (va_runS (As := [.int (iI (((o1 b : Nat) : Int)))]) (rest := [.int (iI (((o1 a : Nat) : Int))), .int (iI (((a : Nat) : Int))), .ref qo]) ⟨hx, hb, hml, hown, hts⟩ (k_X2_firstStart l D cI cZ H.size (o1 b) (hB _)) (va_cwS 1 hts (gG (g_S tm_X2_111 ts_X2_firstStart tin_X2 cmX2_firstStart)) rfl rfl rfl (by decide +kernel) ⟨Nat.le_of_ble_eq_true rfl, Nat.le_of_ble_eq_true rfl⟩) ⟨cP_blind, cP_pre hPc hK hN hDc⟩ rfl rfl hl.1 rfl (lv_room (Nat.le_of_ble_eq_true rfl)) dX2_closeByLags_60 ⟨Nat.le_refl _, Nat.le_refl _⟩) hP hD hS hA [] rfl (fun z4 H locs hp hP hS => ?_)
            subst hp
            refine lv_iload hx hb dX2_closeByLags_63 (lv_at hl 0 rfl) ?_
            refine rz_add hx hb dX2_closeByLags_65 ?_
            refine lv_bipush (v := iI (((9 : Nat) : Int))) hx hb dX2_closeByLags_66 (by decide +kernel) ?_
            have hPc := hP.sub (ws' := []) [] rfl
            have hDc := hD.sub (ws' := []) [] (by decide) rfl
            refine rz_calliR (va_runSN (As := [.int (iI (((ntzV (stI (o1 b)) : Nat) : Int) + (((ln b : Nat) : Int) + (lg ((a * 4) + b))))), .int (iI (((9 : Nat) : Int)))]) (rest := [.int (iI (((o1 a : Nat) : Int))), .int (iI (((a : Nat) : Int))), .ref qo]) ⟨hx, hb, hml, hown, hts⟩ (k_X4_daysFromTo l D cI cZ H.size (((ntzV (stI (o1 b)) : Nat) : Int) + (((ln b : Nat) : Int) + (lg ((a * 4) + b)))) ((9 : Nat) : Int) (by have := ntz_32 _ (stI_lt (o1 b)); omega) (by omega)) ⟨va_cnB 2 hts (gG (g_c cmX4_daysFromTo)) rfl rfl rfl (nK_X2_50 hN) (hts _ (List.mem_cons_of_mem _ tin_X4)) (by decide +kernel) ⟨Nat.le_of_ble_eq_true rfl, Nat.le_of_ble_eq_true rfl⟩, hts _ (List.mem_cons_of_mem _ ts_X4_daysFromTo), trivial⟩ ⟨cP_blind, cP_pre hPc hK hN hDc⟩ rfl rfl hl.1 rfl (lv_room (Nat.le_of_ble_eq_true rfl)) dX2_closeByLags_68 ⟨Nat.le_refl _, Nat.le_refl _⟩) hP hD hS hA [] rfl (fun z5 H locs hp hP hS => ?_)
            subst hp
            have hPc := hP.sub (ws' := []) [] rfl
            have hDc := hD.sub (ws' := []) [] (by decide) rfl
            refine rz_calliR (va_runS (As := [.int (iI (((daysF (((ntzV (stI (o1 b)) : Nat) : Int) + (((ln b : Nat) : Int) + (lg ((a * 4) + b)))) ((9 : Nat) : Int) : Nat) : Int)))]) (rest := [.int (iI (((o1 a : Nat) : Int))), .int (iI (((a : Nat) : Int))), .ref qo]) ⟨hx, hb, hml, hown, hts⟩ (k_X2_inEveryTank l D cI cZ H.size (daysF (((ntzV (stI (o1 b)) : Nat) : Int) + (((ln b : Nat) : Int) + (lg ((a * 4) + b)))) ((9 : Nat) : Int)) ) (va_cwS 1 hts (gG (g_S tm_X2_108 ts_X2_inEveryTank tin_X2 cmX2_inEveryTank)) rfl rfl rfl (by decide +kernel) ⟨Nat.le_of_ble_eq_true rfl, Nat.le_of_ble_eq_true rfl⟩) ⟨cP_blind, cP_pre hPc hK hN hDc⟩ rfl rfl hl.1 rfl (lv_room (Nat.le_of_ble_eq_true rfl)) dX2_closeByLags_71 ⟨Nat.le_refl _, Nat.le_refl _⟩) hP hD hS hA [] rfl (fun z6 H locs hp hP hS => ?_)
            subst hp
            refine rz_and hx hb dX2_closeByLags_74 ?_
            refine rn_astM hx hb hK hP hD hS 3 0 rfl rfl (by omega) (by omega) dX2_closeByLags_75 (fun H locs hP hD hS => ?_)
            have hP : va_P D vwCl [(hQ, .inr (2, [.ref qb, .ref ql, .ref qh, .ref qf, .ref qg, .ref qa, .ref qo, .ref qt, .int (iI (((n : Nat) : Int))), .int (iI (((bw : Nat) : Int)))])), ce_i ql cI 4 (nZ (ln)), ce_i qg cI 16 (lg), ce_i qo cI 16 (nZ (uN o1 a ((o1 a) &&& ((daysF (((ntzV (stI (o1 b)) : Nat) : Int) + (((ln b : Nat) : Int) + (lg ((a * 4) + b)))) ((9 : Nat) : Int)) * 1049601))))] H := hP
            have hD : va_D A [(hQ, .inr (2, [.ref qb, .ref ql, .ref qh, .ref qf, .ref qg, .ref qa, .ref qo, .ref qt, .int (iI (((n : Nat) : Int))), .int (iI (((bw : Nat) : Int)))])), ce_i ql cI 4 (nZ (ln)), ce_i qg cI 16 (lg), ce_i qo cI 16 (nZ (uN o1 a ((o1 a) &&& ((daysF (((ntzV (stI (o1 b)) : Nat) : Int) + (((ln b : Nat) : Int) + (lg ((a * 4) + b)))) ((9 : Nat) : Int)) * 1049601))))] := hD
            refine lv_aload_n hx hb dX2_closeByLags_76 rfl (lv_at hl 2 rfl) ?_
            refine va_get (D := D) (ci := 2) (v := .ref qo) (C := RX2) (T := TX2) (N := 10) hx hb hts in_X2 hown hK hP 0 rfl rfl 6 (by decide) (hts _ (List.mem_cons_of_mem _ tf_X2_30)) (fun _ h9 => h9) rfl dX2_closeByLags_77 ?_
            refine lv_iload_n hx hb dX2_closeByLags_80 rfl (lv_at hl 4 rfl) ?_
            refine lv_dup2_11 hx hb dX2_closeByLags_81 rfl rfl ?_
            refine rn_aldM hx hb hK hP 3 0 rfl rfl (by omega) (by omega) dX2_closeByLags_82 ?_
            refine lv_iconst (v := iI (((0 : Nat) : Int))) hx hb dX2_closeByLags_83 (by decide +kernel) ?_
            refine lv_aload_n hx hb dX2_closeByLags_84 rfl (lv_at hl 2 rfl) ?_
            refine va_get (D := D) (ci := 2) (v := .ref qo) (C := RX2) (T := TX2) (N := 10) hx hb hts in_X2 hown hK hP 0 rfl rfl 6 (by decide) (hts _ (List.mem_cons_of_mem _ tf_X2_30)) (fun _ h9 => h9) rfl dX2_closeByLags_85 ?_
            refine lv_iload_n hx hb dX2_closeByLags_88 rfl (lv_at hl 3 rfl) ?_
            refine rn_aldM hx hb hK hP 3 0 rfl rfl (by omega) (by omega) dX2_closeByLags_89 ?_
            have hPc := hP.sub (ws' := []) [] rfl
            have hDc := hD.sub (ws' := []) [] (by decide) rfl
            refine rz_calliR (va_runS (As := [.int (iI ((((uN o1 a ((o1 a) &&& ((daysF (((ntzV (stI (o1 b)) : Nat) : Int) + (((ln b : Nat) : Int) + (lg ((a * 4) + b)))) ((9 : Nat) : Int)) * 1049601))) a : Nat) : Int)))]) (rest := [.int (iI (((0 : Nat) : Int))), .int (iI ((((uN o1 a ((o1 a) &&& ((daysF (((ntzV (stI (o1 b)) : Nat) : Int) + (((ln b : Nat) : Int) + (lg ((a * 4) + b)))) ((9 : Nat) : Int)) * 1049601))) b : Nat) : Int))), .int (iI (((b : Nat) : Int))), .ref qo]) ⟨hx, hb, hml, hown, hts⟩ (k_X2_lastStart l D cI cZ H.size ((uN o1 a ((o1 a) &&& ((daysF (((ntzV (stI (o1 b)) : Nat) : Int) + (((ln b : Nat) : Int) + (lg ((a * 4) + b)))) ((9 : Nat) : Int)) * 1049601))) a) (uN_all (P := fun x => x < 1073741824) hB _ (and_lt (hB _)) _)) (va_cwS 1 hts (gG (g_S tm_X2_114 ts_X2_lastStart tin_X2 cmX2_lastStart)) rfl rfl rfl (by decide +kernel) ⟨Nat.le_of_ble_eq_true rfl, Nat.le_of_ble_eq_true rfl⟩) ⟨cP_blind, cP_pre hPc hK hN hDc⟩ rfl rfl hl.1 rfl (lv_room (Nat.le_of_ble_eq_true rfl)) dX2_closeByLags_90 ⟨Nat.le_refl _, Nat.le_refl _⟩) hP hD hS hA [] rfl (fun z7 H locs hp hP hS => ?_)
            subst hp
            refine lv_iload hx hb dX2_closeByLags_93 (lv_at hl 0 rfl) ?_
            refine rz_sub hx hb dX2_closeByLags_95 ?_
            have hPc := hP.sub (ws' := []) [] rfl
            have hDc := hD.sub (ws' := []) [] (by decide) rfl
            refine rz_calliR (va_runSN (As := [.int (iI (((0 : Nat) : Int))), .int (iI ((((31 : Nat) : Int) - ((nlzV (stI ((uN o1 a ((o1 a) &&& ((daysF (((ntzV (stI (o1 b)) : Nat) : Int) + (((ln b : Nat) : Int) + (lg ((a * 4) + b)))) ((9 : Nat) : Int)) * 1049601))) a)) : Nat) : Int)) - (((ln b : Nat) : Int) + (lg ((a * 4) + b)))))]) (rest := [.int (iI ((((uN o1 a ((o1 a) &&& ((daysF (((ntzV (stI (o1 b)) : Nat) : Int) + (((ln b : Nat) : Int) + (lg ((a * 4) + b)))) ((9 : Nat) : Int)) * 1049601))) b : Nat) : Int))), .int (iI (((b : Nat) : Int))), .ref qo]) ⟨hx, hb, hml, hown, hts⟩ (k_X4_daysFromTo l D cI cZ H.size ((0 : Nat) : Int) ((((31 : Nat) : Int) - ((nlzV (stI ((uN o1 a ((o1 a) &&& ((daysF (((ntzV (stI (o1 b)) : Nat) : Int) + (((ln b : Nat) : Int) + (lg ((a * 4) + b)))) ((9 : Nat) : Int)) * 1049601))) a)) : Nat) : Int)) - (((ln b : Nat) : Int) + (lg ((a * 4) + b)))) (by omega) (by have := nlz_32 _ (stI_lt (uN o1 a (o1 a &&& daysF (((ntzV (stI (o1 b)) : Nat) : Int) + (((ln b : Nat) : Int) + lg (a * 4 + b))) ((9 : Nat) : Int) * 1049601) a)); omega)) ⟨va_cnB 2 hts (gG (g_c cmX4_daysFromTo)) rfl rfl rfl (nK_X2_50 hN) (hts _ (List.mem_cons_of_mem _ tin_X4)) (by decide +kernel) ⟨Nat.le_of_ble_eq_true rfl, Nat.le_of_ble_eq_true rfl⟩, hts _ (List.mem_cons_of_mem _ ts_X4_daysFromTo), trivial⟩ ⟨cP_blind, cP_pre hPc hK hN hDc⟩ rfl rfl hl.1 rfl (lv_room (Nat.le_of_ble_eq_true rfl)) dX2_closeByLags_96 ⟨Nat.le_refl _, Nat.le_refl _⟩) hP hD hS hA [] rfl (fun z8 H locs hp hP hS => ?_)
            subst hp
            have hPc := hP.sub (ws' := []) [] rfl
            have hDc := hD.sub (ws' := []) [] (by decide) rfl
            refine rz_calliR (va_runS (As := [.int (iI (((daysF ((0 : Nat) : Int) ((((31 : Nat) : Int) - ((nlzV (stI ((uN o1 a ((o1 a) &&& ((daysF (((ntzV (stI (o1 b)) : Nat) : Int) + (((ln b : Nat) : Int) + (lg ((a * 4) + b)))) ((9 : Nat) : Int)) * 1049601))) a)) : Nat) : Int)) - (((ln b : Nat) : Int) + (lg ((a * 4) + b)))) : Nat) : Int)))]) (rest := [.int (iI ((((uN o1 a ((o1 a) &&& ((daysF (((ntzV (stI (o1 b)) : Nat) : Int) + (((ln b : Nat) : Int) + (lg ((a * 4) + b)))) ((9 : Nat) : Int)) * 1049601))) b : Nat) : Int))), .int (iI (((b : Nat) : Int))), .ref qo]) ⟨hx, hb, hml, hown, hts⟩ (k_X2_inEveryTank l D cI cZ H.size (daysF ((0 : Nat) : Int) ((((31 : Nat) : Int) - ((nlzV (stI ((uN o1 a ((o1 a) &&& ((daysF (((ntzV (stI (o1 b)) : Nat) : Int) + (((ln b : Nat) : Int) + (lg ((a * 4) + b)))) ((9 : Nat) : Int)) * 1049601))) a)) : Nat) : Int)) - (((ln b : Nat) : Int) + (lg ((a * 4) + b))))) ) (va_cwS 1 hts (gG (g_S tm_X2_108 ts_X2_inEveryTank tin_X2 cmX2_inEveryTank)) rfl rfl rfl (by decide +kernel) ⟨Nat.le_of_ble_eq_true rfl, Nat.le_of_ble_eq_true rfl⟩) ⟨cP_blind, cP_pre hPc hK hN hDc⟩ rfl rfl hl.1 rfl (lv_room (Nat.le_of_ble_eq_true rfl)) dX2_closeByLags_99 ⟨Nat.le_refl _, Nat.le_refl _⟩) hP hD hS hA [] rfl (fun z9 H locs hp hP hS => ?_)
            subst hp
            refine rz_and hx hb dX2_closeByLags_102 ?_
            refine rn_astM hx hb hK hP hD hS 3 0 rfl rfl (by omega) (by omega) dX2_closeByLags_103 (fun H locs hP hD hS => ?_)
            have hP : va_P D vwCl [(hQ, .inr (2, [.ref qb, .ref ql, .ref qh, .ref qf, .ref qg, .ref qa, .ref qo, .ref qt, .int (iI (((n : Nat) : Int))), .int (iI (((bw : Nat) : Int)))])), ce_i ql cI 4 (nZ (ln)), ce_i qg cI 16 (lg), ce_i qo cI 16 (nZ (uN (uN o1 a ((o1 a) &&& ((daysF (((ntzV (stI (o1 b)) : Nat) : Int) + (((ln b : Nat) : Int) + (lg ((a * 4) + b)))) ((9 : Nat) : Int)) * 1049601))) b (((uN o1 a ((o1 a) &&& ((daysF (((ntzV (stI (o1 b)) : Nat) : Int) + (((ln b : Nat) : Int) + (lg ((a * 4) + b)))) ((9 : Nat) : Int)) * 1049601))) b) &&& ((daysF ((0 : Nat) : Int) ((((31 : Nat) : Int) - ((nlzV (stI ((uN o1 a ((o1 a) &&& ((daysF (((ntzV (stI (o1 b)) : Nat) : Int) + (((ln b : Nat) : Int) + (lg ((a * 4) + b)))) ((9 : Nat) : Int)) * 1049601))) a)) : Nat) : Int)) - (((ln b : Nat) : Int) + (lg ((a * 4) + b))))) * 1049601))))] H := hP
            have hD : va_D A [(hQ, .inr (2, [.ref qb, .ref ql, .ref qh, .ref qf, .ref qg, .ref qa, .ref qo, .ref qt, .int (iI (((n : Nat) : Int))), .int (iI (((bw : Nat) : Int)))])), ce_i ql cI 4 (nZ (ln)), ce_i qg cI 16 (lg), ce_i qo cI 16 (nZ (uN (uN o1 a ((o1 a) &&& ((daysF (((ntzV (stI (o1 b)) : Nat) : Int) + (((ln b : Nat) : Int) + (lg ((a * 4) + b)))) ((9 : Nat) : Int)) * 1049601))) b (((uN o1 a ((o1 a) &&& ((daysF (((ntzV (stI (o1 b)) : Nat) : Int) + (((ln b : Nat) : Int) + (lg ((a * 4) + b)))) ((9 : Nat) : Int)) * 1049601))) b) &&& ((daysF ((0 : Nat) : Int) ((((31 : Nat) : Int) - ((nlzV (stI ((uN o1 a ((o1 a) &&& ((daysF (((ntzV (stI (o1 b)) : Nat) : Int) + (((ln b : Nat) : Int) + (lg ((a * 4) + b)))) ((9 : Nat) : Int)) * 1049601))) a)) : Nat) : Int)) - (((ln b : Nat) : Int) + (lg ((a * 4) + b))))) * 1049601))))] := hD
            refine lv_iinc (v := iI (((b + 1 : Nat) : Int))) (lv' := [(2, .int (iI (((b + 1 : Nat) : Int)))), (4, .int (iI (((ln b : Nat) : Int) + (lg ((a * 4) + b))))), (3, .int (iI (lg ((a * 4) + b)))), (0, .ref hQ), (1, .int (iI (((a : Nat) : Int))))]) hx hb dX2_closeByLags_104 hl (k := 4) rfl (iI_inc _) (by decide) rfl (fun ls hl => ?_)
            refine lv_goto (tgt := 12) hx hb dX2_closeByLags_107 (by decide) ?_
            exact ih.2 (a) (b + 1) (uN (uN o1 a ((o1 a) &&& ((daysF (((ntzV (stI (o1 b)) : Nat) : Int) + (((ln b : Nat) : Int) + (lg ((a * 4) + b)))) ((9 : Nat) : Int)) * 1049601))) b (((uN o1 a ((o1 a) &&& ((daysF (((ntzV (stI (o1 b)) : Nat) : Int) + (((ln b : Nat) : Int) + (lg ((a * 4) + b)))) ((9 : Nat) : Int)) * 1049601))) b) &&& ((daysF ((0 : Nat) : Int) ((((31 : Nat) : Int) - ((nlzV (stI ((uN o1 a ((o1 a) &&& ((daysF (((ntzV (stI (o1 b)) : Nat) : Int) + (((ln b : Nat) : Int) + (lg ((a * 4) + b)))) ((9 : Nat) : Int)) * 1049601))) a)) : Nat) : Int)) - (((ln b : Nat) : Int) + (lg ((a * 4) + b))))) * 1049601))) (by omega) (by omega) (by omega) (by first | exact hB | exact uN_all (P := fun x => x < 1073741824) (uN_all (P := fun x => x < 1073741824) hB _ (and_lt (hB _))) _ (and_lt (uN_all (P := fun x => x < 1073741824) hB _ (and_lt (hB _)) _))) (by first | exact hU | exact fun j t h => hU j t (sub_and (sub_and h))) (by first | exact hE | exact fun P h => close2 (by omega) (by omega) hcl (close1 (by omega) (by omega) hcl (hE P h))) _ _ _ hP hD hS (lv_sub hl [3, 4, 0] rfl)
  have K2 := fun fu => (KG fu).1
  have K12 := fun fu => (KG fu).2
  refine lv_iconst (v := iI (((0 : Nat) : Int))) hx hb dX2_closeByLags_0 (by decide +kernel) ?_
  refine lv_istore_n (lv' := [(1, .int (iI (((0 : Nat) : Int)))), (0, .ref hQ)]) hx hb dX2_closeByLags_1 rfl hl (by decide) rfl (fun ls hl => ?_)
  exact K2 ((n - (0)) * 10 + 9 + 1) (0) (op) (Nat.lt_succ_self _) (by omega) hop (fun j t h => h) (fun P h => h) _ _ _ hP hD hS (lv_sub hl [1, 0] rfl)
end
section
/-! Search: take, load, leavesRoom -/
theorem frF_lt {bl pl ea : Nat → Nat} {fz : Nat → Bool} {T dd sh j : Nat} (hT : T ≤ 3) : frF bl pl ea fz T dd sh j < 1073741824 := by
  have h : ∀ S nd, freeF S nd sh (T * 10) < 1073741824 := fun S nd => Nat.lt_of_lt_of_le (freeF_lt S nd sh (T * 10)) (show 2 ^ (T * 10) ≤ 2 ^ 30 from Nat.pow_le_pow_right (by decide) (by omega))
  unfold frF; split
  · exact and_lt (h _ _)
  · exact h _ _
theorem mixN_all {Q : Nat → Prop} {k : Nat} {f g : Nat → Nat} (hf : ∀ j, Q (f j)) (hg : ∀ j, Q (g j)) : ∀ j, Q (mixN k f g j) := by
  intro j; unfold mixN; split
  · exact hf j
  · exact hg j

set_option maxHeartbeats 4000000 in
set_option maxRecDepth 100000 in
theorem k_X2_take (l : Launch) (D : va_G) (cI cZ : ClassId) (sz : Nat) (hQ : Nat) (qb : Nat) (ql : Nat) (qh : Nat) (qf : Nat) (qg : Nat) (qa : Nat) (qo : Nat) (qt : Nat) (n : Nat) (bw : Nat) (fr : Nat → Nat) (ln : Nat → Nat) (lg : Nat → Int) (ap : Nat → Nat) (op : Nat → Nat) (hR : Nat) (qK : Nat) (qA : Nat) (qB : Nat) (qN : Nat) (nr : Nat) (rk : Nat → Int) (ra : Nat → Int) (rb : Nat → Int) (rd : Nat → Int) (wo : Int) (hn : n ≤ 4) (hnr : nr ≤ 8) (hln : ∀ j, ln j ≤ 10) (hlg : ∀ j, -10 ≤ lg j ∧ lg j ≤ 10) (hap : ∀ j, ap j < 16) (hop : ∀ j, op j < 1073741824) (hfr : ∀ j, fr j < 1073741824) (hru : ∀ j, j < nr → (0 ≤ rk j ∧ rk j ≤ 3) ∧ (0 ≤ ra j ∧ ra j < 4) ∧ (rk j ≤ 1 → 0 ≤ rb j ∧ rb j < 4) ∧ (rk j ≠ 1 → 0 ≤ rd j ∧ rd j ≤ 10)) (hrr : ∀ j, (-2147483648 ≤ rb j ∧ rb j < 2147483648) ∧ (-2147483648 ≤ rd j ∧ rd j < 2147483648)) (hwo : -2147483648 ≤ wo ∧ wo < 2147483648) : Cv l yX2_take wsX2_take (rmD 4) D vwCl [(cI, .int), (cZ, .boolean)] [.ref hQ, .ref hR, .int (iI (wo))] [(hQ, .inr (2, [.ref qb, .ref ql, .ref qh, .ref qf, .ref qg, .ref qa, .ref qo, .ref qt, .int (iI (((n : Nat) : Int))), .int (iI (((bw : Nat) : Int)))])), ce_i qf cI 4 (nZ (fr)), ce_i ql cI 4 (nZ (ln)), ce_i qg cI 16 (lg), ce_i qa cI 4 (nZ (ap)), ce_i qo cI 16 (nZ (op)), (hR, .inr (1, [.ref qK, .ref qA, .ref qB, .ref qN, .int (iI (((nr : Nat) : Int)))])), ce_i qK cI 8 (rk), ce_i qA cI 8 (ra), ce_i qB cI 8 (rb), ce_i qN cI 8 (rd)] sz (fun w => ∃ lg0 : Nat → Int, ∃ ap0 : Nat → Nat, ∃ op0 : Nat → Nat, ∃ lg2 : Nat → Int, ∃ ap2 : Nat → Nat, ∃ op2 : Nat → Nat, w = [(hQ, .inr (2, [.ref qb, .ref ql, .ref qh, .ref qf, .ref qg, .ref qa, .ref qo, .ref qt, .int (iI (((n : Nat) : Int))), .int (iI (((bw : Nat) : Int)))])), ce_i qf cI 4 (nZ (fr)), ce_i ql cI 4 (nZ (ln)), ce_i qg cI 16 (lg2), ce_i qa cI 4 (nZ (ap2)), ce_i qo cI 16 (nZ (op2)), (hR, .inr (1, [.ref qK, .ref qA, .ref qB, .ref qN, .int (iI (((nr : Nat) : Int)))])), ce_i qK cI 8 (rk), ce_i qA cI 8 (ra), ce_i qB cI 8 (rb), ce_i qN cI 8 (rd)] ∧ (∀ j, j < 16 → lg0 j = -10) ∧ (∀ j, j < 4 → ap0 j = 0) ∧ (∀ j, j < n → op0 j = fr j) ∧ (lg2 = TL rk ra rb rd wo lg0 nr) ∧ (ap2 = TA rk ra rb wo ap0 nr) ∧ (∀ j, -10 ≤ lg2 j ∧ lg2 j ≤ 10) ∧ (∀ j, ap2 j < 16) ∧ (∀ j, op2 j < 1073741824) ∧ (∀ j t, (op2 j).testBit t = true → (TO ln rk ra rd wo op0 nr j).testBit t = true) ∧ (∀ P, KeepP ln lg2 n (TO ln rk ra rd wo op0 nr) P → KeepP ln lg2 n op2 P)) 0 0 := by
  refine Cv_of (cc := cX2_take) (nL := 4) (by decide) rfl (Nat.le_of_ble_eq_true rfl) ?_
  intro p e s m below meth c A Q hsz C hK hN hA hP hD hS hin hret ls hl
  obtain ⟨hx, hb, hml, hown, hts⟩ := id C
  have hown : s.vm.findClass RX2 = some m.cls := hown
  have hl : lv_has ls 4 [(0, .ref hQ), (1, .ref hR), (2, .int (iI (wo)))] := hl
  have in_X1 : ∀ w ∈ u_ws RX1 TX1 5, w ∈ wsX2_take := fun w h => List.mem_cons_of_mem _ (inX1 w h)
  have in_X2 : ∀ w ∈ u_ws RX2 TX2 10, w ∈ wsX2_take := fun w h => List.mem_cons_of_mem _ (inX2 w h)
  have K85 : ∀ (fu : Nat) (i : Nat) (lg0 : Nat → Int) (ap0 : Nat → Nat) (op0 : Nat → Nat) (lg1 : Nat → Int) (ap1 : Nat → Nat) (o1 : Nat → Nat), 10 - i < fu → (∀ j, j < 16 → lg0 j = -10) → (∀ j, j < 4 → ap0 j = 0) → (∀ j, j < n → op0 j = fr j) → (∀ j, -10 ≤ lg1 j ∧ lg1 j ≤ 10) → (∀ j, ap1 j < 16) → (∀ j, o1 j < 1073741824) → (i ≤ 10) → (lg1 = TL rk ra rb rd wo lg0 nr) → (ap1 = TA rk ra rb wo ap0 nr) → (∀ j t, (o1 j).testBit t = true → (TO ln rk ra rd wo op0 nr j).testBit t = true) → (∀ P, KeepP ln lg1 n (TO ln rk ra rd wo op0 nr) P → KeepP ln lg1 n o1 P) → ∀ (H : Heap) (locs : List Loc) (ls : Array Slot), va_P D vwCl [(hQ, .inr (2, [.ref qb, .ref ql, .ref qh, .ref qf, .ref qg, .ref qa, .ref qo, .ref qt, .int (iI (((n : Nat) : Int))), .int (iI (((bw : Nat) : Int)))])), ce_i qf cI 4 (nZ (fr)), ce_i ql cI 4 (nZ (ln)), ce_i qg cI 16 (lg1), ce_i qa cI 4 (nZ (ap1)), ce_i qo cI 16 (nZ (o1)), (hR, .inr (1, [.ref qK, .ref qA, .ref qB, .ref qN, .int (iI (((nr : Nat) : Int)))])), ce_i qK cI 8 (rk), ce_i qA cI 8 (ra), ce_i qB cI 8 (rb), ce_i qN cI 8 (rd)] H → va_D A [(hQ, .inr (2, [.ref qb, .ref ql, .ref qh, .ref qf, .ref qg, .ref qa, .ref qo, .ref qt, .int (iI (((n : Nat) : Int))), .int (iI (((bw : Nat) : Int)))])), ce_i qf cI 4 (nZ (fr)), ce_i ql cI 4 (nZ (ln)), ce_i qg cI 16 (lg1), ce_i qa cI 4 (nZ (ap1)), ce_i qo cI 16 (nZ (o1)), (hR, .inr (1, [.ref qK, .ref qA, .ref qB, .ref qN, .int (iI (((nr : Nat) : Int)))])), ce_i qK cI 8 (rk), ce_i qA cI 8 (ra), ce_i qB cI 8 (rb), ce_i qN cI 8 (rd)] → va_S A s.heap H locs → lv_has ls 4 [(0, .ref hQ), (1, .ref hR), (3, .int (iI (((i : Nat) : Int))))] → W p l e (rmD 4) s m ([.ref hQ, .ref hR, .int (iI (wo))] : List Value).toArray below meth c H locs 0 0 Q (F0 m 85 ls []) := by
    intro fu
    induction fu with
    | zero => intro i lg0 ap0 op0 lg1 ap1 o1 hmu; exact absurd hmu (Nat.not_lt_zero _)
    | succ fu ih =>
      intro i lg0 ap0 op0 lg1 ap1 o1 hmu h1 h2 h3 hbl hba hB hi hL hA1 hU hE H locs ls hP hD hS hl
      refine lv_iload_n hx hb dX2_take_85 rfl (lv_at hl 2 rfl) ?_
      refine lv_bipush (v := iI (((10 : Nat) : Int))) hx hb dX2_take_86 (by decide +kernel) ?_
      refine rz_cge (tgt := 101) hx hb dX2_take_88 (by decide) (by omega) (by omega) (fun c1 => ?_) (fun c1 => ?_)
      · exact hret _ _ _ _ _ dX2_take_101 ⟨lg0, ap0, op0, _, _, _, rfl, h1, h2, h3, hL, hA1, hbl, hba, hB, hU, hE⟩ hP hD hS
      · refine lv_aload_n hx hb dX2_take_91 rfl (lv_at hl 0 rfl) ?_
        have hPc := hP.sub (ws' := [(hQ, .inr (2, [.ref qb, .ref ql, .ref qh, .ref qf, .ref qg, .ref qa, .ref qo, .ref qt, .int (iI (((n : Nat) : Int))), .int (iI (((bw : Nat) : Int)))])), ce_i ql cI 4 (nZ (ln)), ce_i qg cI 16 (lg1), ce_i qo cI 16 (nZ (o1))]) [0, 2, 3, 5] rfl
        have hDc := hD.sub (ws' := [(hQ, .inr (2, [.ref qb, .ref ql, .ref qh, .ref qf, .ref qg, .ref qa, .ref qo, .ref qt, .int (iI (((n : Nat) : Int))), .int (iI (((bw : Nat) : Int)))])), ce_i ql cI 4 (nZ (ln)), ce_i qg cI 16 (lg1), ce_i qo cI 16 (nZ (o1))]) [0, 2, 3, 5] (by decide) rfl
        refine rz_callv (va_runV (As := []) (rest := []) ⟨hx, hb, hml, hown, hts⟩ (k_X2_closeByLags l D cI cZ H.size hQ qb ql qh qf qg qa qo qt n bw ln lg1 o1 (by omega) hln hbl hB) (cwV 0 hts (gG (g_V tm_X2_100 ti_X2_closeByLags tse_X2_closeByLags tin_X2 cmX2_closeByLags)) rfl rfl rfl (by decide +kernel) ⟨Nat.le_of_ble_eq_true rfl, Nat.le_of_ble_eq_true rfl⟩) ⟨cP_blind, va_recv hK hPc (ci := 2) (q0 := 0) rfl rfl, cP_pre hPc hK hN hDc⟩ rfl rfl hl.1 rfl (lv_room (Nat.le_of_ble_eq_true rfl)) dX2_take_92 ⟨Nat.le_refl _, Nat.le_refl _⟩) hP hD hS hA [0, 2, 3, 5] [1, 4, 6, 7, 8, 9, 10] rfl (wr := [ce_i qf cI 4 (nZ (fr)), ce_i qa cI 4 (nZ (ap1)), (hR, .inr (1, [.ref qK, .ref qA, .ref qB, .ref qN, .int (iI (((nr : Nat) : Int)))])), ce_i qK cI 8 (rk), ce_i qA cI 8 (ra), ce_i qB cI 8 (rb), ce_i qN cI 8 (rd)]) rfl (by decide) (by decide) (fun w H locs hp hP hD hS => ?_)
        obtain ⟨o2, rfl, f1, f2, f3⟩ := hp
        have hP : va_P D vwCl [(hQ, .inr (2, [.ref qb, .ref ql, .ref qh, .ref qf, .ref qg, .ref qa, .ref qo, .ref qt, .int (iI (((n : Nat) : Int))), .int (iI (((bw : Nat) : Int)))])), ce_i qf cI 4 (nZ (fr)), ce_i ql cI 4 (nZ (ln)), ce_i qg cI 16 (lg1), ce_i qa cI 4 (nZ (ap1)), ce_i qo cI 16 (nZ (o2)), (hR, .inr (1, [.ref qK, .ref qA, .ref qB, .ref qN, .int (iI (((nr : Nat) : Int)))])), ce_i qK cI 8 (rk), ce_i qA cI 8 (ra), ce_i qB cI 8 (rb), ce_i qN cI 8 (rd)] H := hP.sub (ws' := [(hQ, .inr (2, [.ref qb, .ref ql, .ref qh, .ref qf, .ref qg, .ref qa, .ref qo, .ref qt, .int (iI (((n : Nat) : Int))), .int (iI (((bw : Nat) : Int)))])), ce_i qf cI 4 (nZ (fr)), ce_i ql cI 4 (nZ (ln)), ce_i qg cI 16 (lg1), ce_i qa cI 4 (nZ (ap1)), ce_i qo cI 16 (nZ (o2)), (hR, .inr (1, [.ref qK, .ref qA, .ref qB, .ref qN, .int (iI (((nr : Nat) : Int)))])), ce_i qK cI 8 (rk), ce_i qA cI 8 (ra), ce_i qB cI 8 (rb), ce_i qN cI 8 (rd)]) [7, 0, 8, 9, 1, 10, 2, 3, 4, 5, 6] rfl
        have hD : va_D A [(hQ, .inr (2, [.ref qb, .ref ql, .ref qh, .ref qf, .ref qg, .ref qa, .ref qo, .ref qt, .int (iI (((n : Nat) : Int))), .int (iI (((bw : Nat) : Int)))])), ce_i qf cI 4 (nZ (fr)), ce_i ql cI 4 (nZ (ln)), ce_i qg cI 16 (lg1), ce_i qa cI 4 (nZ (ap1)), ce_i qo cI 16 (nZ (o2)), (hR, .inr (1, [.ref qK, .ref qA, .ref qB, .ref qN, .int (iI (((nr : Nat) : Int)))])), ce_i qK cI 8 (rk), ce_i qA cI 8 (ra), ce_i qB cI 8 (rb), ce_i qN cI 8 (rd)] := hD.sub (ws' := [(hQ, .inr (2, [.ref qb, .ref ql, .ref qh, .ref qf, .ref qg, .ref qa, .ref qo, .ref qt, .int (iI (((n : Nat) : Int))), .int (iI (((bw : Nat) : Int)))])), ce_i qf cI 4 (nZ (fr)), ce_i ql cI 4 (nZ (ln)), ce_i qg cI 16 (lg1), ce_i qa cI 4 (nZ (ap1)), ce_i qo cI 16 (nZ (o2)), (hR, .inr (1, [.ref qK, .ref qA, .ref qB, .ref qN, .int (iI (((nr : Nat) : Int)))])), ce_i qK cI 8 (rk), ce_i qA cI 8 (ra), ce_i qB cI 8 (rb), ce_i qN cI 8 (rd)]) [7, 0, 8, 9, 1, 10, 2, 3, 4, 5, 6] (by decide) rfl
        refine lv_iinc (v := iI (((i + 1 : Nat) : Int))) (lv' := [(3, .int (iI (((i + 1 : Nat) : Int)))), (0, .ref hQ), (1, .ref hR)]) hx hb dX2_take_95 hl (k := 2) rfl (iI_inc _) (by decide) rfl (fun ls hl => ?_)
        refine lv_goto (tgt := 85) hx hb dX2_take_98 (by decide) ?_
        exact ih (i + 1) (lg0) (ap0) (op0) (lg1) (ap1) (o2) (by omega) h1 h2 h3 hbl hba f1 (by omega) hL hA1 (fun j t h => hU j t (f2 j t h)) (fun P h => f3 P (hE P h)) _ _ _ hP hD hS (lv_sub hl [1, 2, 0] rfl)
  have K36 : ∀ (fu : Nat) (i : Nat) (lg0 : Nat → Int) (ap0 : Nat → Nat) (op0 : Nat → Nat) (lg1 : Nat → Int) (ap1 : Nat → Nat) (o1 : Nat → Nat), nr - i < fu → (∀ j, j < 16 → lg0 j = -10) → (∀ j, j < 4 → ap0 j = 0) → (∀ j, j < n → op0 j = fr j) → (∀ j, -10 ≤ lg1 j ∧ lg1 j ≤ 10) → (∀ j, ap1 j < 16) → (∀ j, o1 j < 1073741824) → (i ≤ nr) → (lg1 = TL rk ra rb rd wo lg0 i) → (ap1 = TA rk ra rb wo ap0 i) → (o1 = TO ln rk ra rd wo op0 i) → ∀ (H : Heap) (locs : List Loc) (ls : Array Slot), va_P D vwCl [(hQ, .inr (2, [.ref qb, .ref ql, .ref qh, .ref qf, .ref qg, .ref qa, .ref qo, .ref qt, .int (iI (((n : Nat) : Int))), .int (iI (((bw : Nat) : Int)))])), ce_i qf cI 4 (nZ (fr)), ce_i ql cI 4 (nZ (ln)), ce_i qg cI 16 (lg1), ce_i qa cI 4 (nZ (ap1)), ce_i qo cI 16 (nZ (o1)), (hR, .inr (1, [.ref qK, .ref qA, .ref qB, .ref qN, .int (iI (((nr : Nat) : Int)))])), ce_i qK cI 8 (rk), ce_i qA cI 8 (ra), ce_i qB cI 8 (rb), ce_i qN cI 8 (rd)] H → va_D A [(hQ, .inr (2, [.ref qb, .ref ql, .ref qh, .ref qf, .ref qg, .ref qa, .ref qo, .ref qt, .int (iI (((n : Nat) : Int))), .int (iI (((bw : Nat) : Int)))])), ce_i qf cI 4 (nZ (fr)), ce_i ql cI 4 (nZ (ln)), ce_i qg cI 16 (lg1), ce_i qa cI 4 (nZ (ap1)), ce_i qo cI 16 (nZ (o1)), (hR, .inr (1, [.ref qK, .ref qA, .ref qB, .ref qN, .int (iI (((nr : Nat) : Int)))])), ce_i qK cI 8 (rk), ce_i qA cI 8 (ra), ce_i qB cI 8 (rb), ce_i qN cI 8 (rd)] → va_S A s.heap H locs → lv_has ls 4 [(0, .ref hQ), (1, .ref hR), (2, .int (iI (wo))), (3, .int (iI (((i : Nat) : Int))))] → W p l e (rmD 4) s m ([.ref hQ, .ref hR, .int (iI (wo))] : List Value).toArray below meth c H locs 0 0 Q (F0 m 36 ls []) := by
    intro fu
    induction fu with
    | zero => intro i lg0 ap0 op0 lg1 ap1 o1 hmu; exact absurd hmu (Nat.not_lt_zero _)
    | succ fu ih =>
      intro i lg0 ap0 op0 lg1 ap1 o1 hmu h1 h2 h3 hbl hba hB hi hL hA1 hO H locs ls hP hD hS hl
      refine lv_iload_n hx hb dX2_take_36 rfl (lv_at hl 3 rfl) ?_
      refine lv_aload_n hx hb dX2_take_37 rfl (lv_at hl 1 rfl) ?_
      refine va_get (D := D) (ci := 1) (v := .int (iI (((nr : Nat) : Int)))) (C := RX1) (T := TX1) (N := 5) hx hb hts in_X1 hown hK hP 6 rfl rfl 4 (by decide) (hts _ (List.mem_cons_of_mem _ tf_X2_81)) (fun _ h9 => h9) rfl dX2_take_38 ?_
      refine rz_cge (tgt := 83) hx hb dX2_take_41 (by decide) (by omega) (by omega) (fun c3 => ?_) (fun c3 => ?_)
      · refine lv_iconst (v := iI (((0 : Nat) : Int))) hx hb dX2_take_83 (by decide +kernel) ?_
        refine lv_istore_n (lv' := [(3, .int (iI (((0 : Nat) : Int)))), (0, .ref hQ), (1, .ref hR), (2, .int (iI (wo)))]) hx hb dX2_take_84 rfl hl (by decide) rfl (fun ls hl => ?_)
        exact K85 (10 - (0) + 1) (0) (lg0) (ap0) (op0) (lg1) (ap1) (o1) (Nat.lt_succ_self _) h1 h2 h3 hbl hba hB (by omega) (by rw [hL, show i = nr by omega]) (by rw [hA1, show i = nr by omega]) (fun j t h => by rw [hO, show i = nr by omega] at h; exact h) (fun P h => by rw [hO, show i = nr by omega]; exact h) _ _ _ hP hD hS (lv_sub hl [1, 2, 0] rfl)
      · refine lv_iload_n hx hb dX2_take_44 rfl (lv_at hl 3 rfl) ?_
        refine lv_iload_n hx hb dX2_take_45 rfl (lv_at hl 2 rfl) ?_
        refine rz_ceq (tgt := 77) hx hb dX2_take_46 (by decide) (by omega) (by omega) (fun c4 => ?_) (fun c4 => ?_)
        · refine lv_iinc (v := iI (((i + 1 : Nat) : Int))) (lv' := [(3, .int (iI (((i + 1 : Nat) : Int)))), (0, .ref hQ), (1, .ref hR), (2, .int (iI (wo)))]) hx hb dX2_take_77 hl (k := 3) rfl (iI_inc _) (by decide) rfl (fun ls hl => ?_)
          refine lv_goto (tgt := 36) hx hb dX2_take_80 (by decide) ?_
          exact ih (i + 1) (lg0) (ap0) (op0) (lg1) (ap1) (o1) (by omega) h1 h2 h3 (by first | (rw [e1]; exact tkL_b hbl (hru i (by omega)).2.2.2) | exact hbl) (by first | (rw [e2]; exact tkA_b hba (hru i (by omega)).2.1 (hru i (by omega)).2.2.1) | exact hba) (by first | (rw [e3]; exact tkO_b hB) | exact hB) (by omega) (by first | (rw [e1, TL, if_neg (by omega), hL]) | (rw [TL, if_pos (by omega)]; exact hL)) (by first | (rw [e2, TA, if_neg (by omega), hA1]) | (rw [TA, if_pos (by omega)]; exact hA1)) (by first | (rw [e3, TO, if_neg (by omega), hO]) | (rw [TO, if_pos (by omega)]; exact hO)) _ _ _ hP hD hS (lv_sub hl [1, 2, 3, 0] rfl)
        · refine lv_aload_n hx hb dX2_take_49 rfl (lv_at hl 0 rfl) ?_
          refine lv_aload_n hx hb dX2_take_50 rfl (lv_at hl 1 rfl) ?_
          refine va_get (D := D) (ci := 1) (v := .ref qK) (C := RX1) (T := TX1) (N := 5) hx hb hts in_X1 hown hK hP 6 rfl rfl 0 (by decide) (hts _ (List.mem_cons_of_mem _ tf_X2_84)) (fun _ h9 => h9) rfl dX2_take_51 ?_
          refine lv_iload_n hx hb dX2_take_54 rfl (lv_at hl 3 rfl) ?_
          refine rn_ald hx hb hK hP 7 0 rfl rfl (by omega) (by omega) dX2_take_55 ?_
          refine lv_aload_n hx hb dX2_take_56 rfl (lv_at hl 1 rfl) ?_
          refine va_get (D := D) (ci := 1) (v := .ref qA) (C := RX1) (T := TX1) (N := 5) hx hb hts in_X1 hown hK hP 6 rfl rfl 1 (by decide) (hts _ (List.mem_cons_of_mem _ tf_X2_87)) (fun _ h9 => h9) rfl dX2_take_57 ?_
          refine lv_iload_n hx hb dX2_take_60 rfl (lv_at hl 3 rfl) ?_
          refine rn_ald hx hb hK hP 8 0 rfl rfl (by omega) (by omega) dX2_take_61 ?_
          refine lv_aload_n hx hb dX2_take_62 rfl (lv_at hl 1 rfl) ?_
          refine va_get (D := D) (ci := 1) (v := .ref qB) (C := RX1) (T := TX1) (N := 5) hx hb hts in_X1 hown hK hP 6 rfl rfl 2 (by decide) (hts _ (List.mem_cons_of_mem _ tf_X2_90)) (fun _ h9 => h9) rfl dX2_take_63 ?_
          refine lv_iload_n hx hb dX2_take_66 rfl (lv_at hl 3 rfl) ?_
          refine rn_ald hx hb hK hP 9 0 rfl rfl (by omega) (by omega) dX2_take_67 ?_
          refine lv_aload_n hx hb dX2_take_68 rfl (lv_at hl 1 rfl) ?_
          refine va_get (D := D) (ci := 1) (v := .ref qN) (C := RX1) (T := TX1) (N := 5) hx hb hts in_X1 hown hK hP 6 rfl rfl 3 (by decide) (hts _ (List.mem_cons_of_mem _ tf_X2_93)) (fun _ h9 => h9) rfl dX2_take_69 ?_
          refine lv_iload_n hx hb dX2_take_72 rfl (lv_at hl 3 rfl) ?_
          refine rn_ald hx hb hK hP 10 0 rfl rfl (by omega) (by omega) dX2_take_73 ?_
          have hPc := hP.sub (ws' := [(hQ, .inr (2, [.ref qb, .ref ql, .ref qh, .ref qf, .ref qg, .ref qa, .ref qo, .ref qt, .int (iI (((n : Nat) : Int))), .int (iI (((bw : Nat) : Int)))])), ce_i ql cI 4 (nZ (ln)), ce_i qg cI 16 (lg1), ce_i qa cI 4 (nZ (ap1)), ce_i qo cI 16 (nZ (o1))]) [0, 2, 3, 4, 5] rfl
          have hDc := hD.sub (ws' := [(hQ, .inr (2, [.ref qb, .ref ql, .ref qh, .ref qf, .ref qg, .ref qa, .ref qo, .ref qt, .int (iI (((n : Nat) : Int))), .int (iI (((bw : Nat) : Int)))])), ce_i ql cI 4 (nZ (ln)), ce_i qg cI 16 (lg1), ce_i qa cI 4 (nZ (ap1)), ce_i qo cI 16 (nZ (o1))]) [0, 2, 3, 4, 5] (by decide) rfl
          refine rz_callv (va_runV (As := [.int (iI (rk i)), .int (iI (ra i)), .int (iI (rb i)), .int (iI (rd i))]) (rest := []) ⟨hx, hb, hml, hown, hts⟩ (k_X2_takeOne l D cI cZ H.size hQ qb ql qh qf qg qa qo qt n bw ln lg1 ap1 o1 (rk i) (ra i) (rb i) (rd i) (hru i (by omega)).1 (hru i (by omega)).2.1 (hru i (by omega)).2.2.1 (hrr i).1 (hru i (by omega)).2.2.2 (hrr i).2 hln hbl hba hB) (cwV 4 hts (gG (g_V tm_X2_96 ti_X2_takeOne tse_X2_takeOne tin_X2 cmX2_takeOne)) rfl rfl rfl (by decide +kernel) ⟨Nat.le_of_ble_eq_true rfl, Nat.le_of_ble_eq_true rfl⟩) ⟨cP_blind, va_recv hK hPc (ci := 2) (q0 := 0) rfl rfl, cP_pre hPc hK hN hDc⟩ rfl rfl hl.1 rfl (lv_room (Nat.le_of_ble_eq_true rfl)) dX2_take_74 ⟨Nat.le_refl _, Nat.le_refl _⟩) hP hD hS hA [0, 2, 3, 4, 5] [1, 6, 7, 8, 9, 10] rfl (wr := [ce_i qf cI 4 (nZ (fr)), (hR, .inr (1, [.ref qK, .ref qA, .ref qB, .ref qN, .int (iI (((nr : Nat) : Int)))])), ce_i qK cI 8 (rk), ce_i qA cI 8 (ra), ce_i qB cI 8 (rb), ce_i qN cI 8 (rd)]) rfl (by decide) (by decide) (fun w H locs hp hP hD hS => ?_)
          obtain ⟨lg2, ap2, op2, rfl, e1, e2, e3⟩ := hp
          have hP : va_P D vwCl [(hQ, .inr (2, [.ref qb, .ref ql, .ref qh, .ref qf, .ref qg, .ref qa, .ref qo, .ref qt, .int (iI (((n : Nat) : Int))), .int (iI (((bw : Nat) : Int)))])), ce_i qf cI 4 (nZ (fr)), ce_i ql cI 4 (nZ (ln)), ce_i qg cI 16 (lg2), ce_i qa cI 4 (nZ (ap2)), ce_i qo cI 16 (nZ (op2)), (hR, .inr (1, [.ref qK, .ref qA, .ref qB, .ref qN, .int (iI (((nr : Nat) : Int)))])), ce_i qK cI 8 (rk), ce_i qA cI 8 (ra), ce_i qB cI 8 (rb), ce_i qN cI 8 (rd)] H := hP.sub (ws' := [(hQ, .inr (2, [.ref qb, .ref ql, .ref qh, .ref qf, .ref qg, .ref qa, .ref qo, .ref qt, .int (iI (((n : Nat) : Int))), .int (iI (((bw : Nat) : Int)))])), ce_i qf cI 4 (nZ (fr)), ce_i ql cI 4 (nZ (ln)), ce_i qg cI 16 (lg2), ce_i qa cI 4 (nZ (ap2)), ce_i qo cI 16 (nZ (op2)), (hR, .inr (1, [.ref qK, .ref qA, .ref qB, .ref qN, .int (iI (((nr : Nat) : Int)))])), ce_i qK cI 8 (rk), ce_i qA cI 8 (ra), ce_i qB cI 8 (rb), ce_i qN cI 8 (rd)]) [6, 0, 7, 8, 9, 10, 1, 2, 3, 4, 5] rfl
          have hD : va_D A [(hQ, .inr (2, [.ref qb, .ref ql, .ref qh, .ref qf, .ref qg, .ref qa, .ref qo, .ref qt, .int (iI (((n : Nat) : Int))), .int (iI (((bw : Nat) : Int)))])), ce_i qf cI 4 (nZ (fr)), ce_i ql cI 4 (nZ (ln)), ce_i qg cI 16 (lg2), ce_i qa cI 4 (nZ (ap2)), ce_i qo cI 16 (nZ (op2)), (hR, .inr (1, [.ref qK, .ref qA, .ref qB, .ref qN, .int (iI (((nr : Nat) : Int)))])), ce_i qK cI 8 (rk), ce_i qA cI 8 (ra), ce_i qB cI 8 (rb), ce_i qN cI 8 (rd)] := hD.sub (ws' := [(hQ, .inr (2, [.ref qb, .ref ql, .ref qh, .ref qf, .ref qg, .ref qa, .ref qo, .ref qt, .int (iI (((n : Nat) : Int))), .int (iI (((bw : Nat) : Int)))])), ce_i qf cI 4 (nZ (fr)), ce_i ql cI 4 (nZ (ln)), ce_i qg cI 16 (lg2), ce_i qa cI 4 (nZ (ap2)), ce_i qo cI 16 (nZ (op2)), (hR, .inr (1, [.ref qK, .ref qA, .ref qB, .ref qN, .int (iI (((nr : Nat) : Int)))])), ce_i qK cI 8 (rk), ce_i qA cI 8 (ra), ce_i qB cI 8 (rb), ce_i qN cI 8 (rd)]) [6, 0, 7, 8, 9, 10, 1, 2, 3, 4, 5] (by decide) rfl
          refine lv_iinc (v := iI (((i + 1 : Nat) : Int))) (lv' := [(3, .int (iI (((i + 1 : Nat) : Int)))), (0, .ref hQ), (1, .ref hR), (2, .int (iI (wo)))]) hx hb dX2_take_77 hl (k := 3) rfl (iI_inc _) (by decide) rfl (fun ls hl => ?_)
          refine lv_goto (tgt := 36) hx hb dX2_take_80 (by decide) ?_
          exact ih (i + 1) (lg0) (ap0) (op0) (lg2) (ap2) (op2) (by omega) h1 h2 h3 (by first | (rw [e1]; exact tkL_b hbl (hru i (by omega)).2.2.2) | exact hbl) (by first | (rw [e2]; exact tkA_b hba (hru i (by omega)).2.1 (hru i (by omega)).2.2.1) | exact hba) (by first | (rw [e3]; exact tkO_b hB) | exact hB) (by omega) (by first | (rw [e1, TL, if_neg (by omega), hL]) | (rw [TL, if_pos (by omega)]; exact hL)) (by first | (rw [e2, TA, if_neg (by omega), hA1]) | (rw [TA, if_pos (by omega)]; exact hA1)) (by first | (rw [e3, TO, if_neg (by omega), hO]) | (rw [TO, if_pos (by omega)]; exact hO)) _ _ _ hP hD hS (lv_sub hl [1, 2, 3, 0] rfl)
  refine lv_aload_n hx hb dX2_take_0 rfl (lv_at hl 0 rfl) ?_
  refine va_get (D := D) (ci := 2) (v := .ref qg) (C := RX2) (T := TX2) (N := 10) hx hb hts in_X2 hown hK hP 0 rfl rfl 4 (by decide) (hts _ (List.mem_cons_of_mem _ tf_X2_24)) (fun _ h9 => h9) rfl dX2_take_1 ?_
  refine lv_bipush (v := iI ((-10 : Int))) hx hb dX2_take_4 (by decide +kernel) ?_
  have hPc := hP.sub (ws' := [ce_i qg cI 16 (lg)]) [3] rfl
  have hDc := hD.sub (ws' := [ce_i qg cI 16 (lg)]) [3] (by decide) rfl
  refine rz_callv (va_runS (As := [.ref qg, .int (iI ((-10 : Int)))]) (rest := []) ⟨hx, hb, hml, hown, hts⟩ (k_J7_fill l D cI cZ s.heap.size qg 16 lg (-10 : Int) (by omega)) (va_cwS 2 hts (gG (g_S tm_X2_69 ts_J7_fill tin_J7 cmJ7_fill)) rfl rfl rfl (by decide +kernel) ⟨Nat.le_of_ble_eq_true rfl, Nat.le_of_ble_eq_true rfl⟩) ⟨cP_blind, cP_pre hPc hK hN hDc⟩ rfl rfl hl.1 rfl (lv_room (Nat.le_of_ble_eq_true rfl)) dX2_take_6 ⟨Nat.le_refl _, Nat.le_refl _⟩) hP hD hS hA [3] [0, 1, 2, 4, 5, 6, 7, 8, 9, 10] rfl (wr := [(hQ, .inr (2, [.ref qb, .ref ql, .ref qh, .ref qf, .ref qg, .ref qa, .ref qo, .ref qt, .int (iI (((n : Nat) : Int))), .int (iI (((bw : Nat) : Int)))])), ce_i qf cI 4 (nZ (fr)), ce_i ql cI 4 (nZ (ln)), ce_i qa cI 4 (nZ (ap)), ce_i qo cI 16 (nZ (op)), (hR, .inr (1, [.ref qK, .ref qA, .ref qB, .ref qN, .int (iI (((nr : Nat) : Int)))])), ce_i qK cI 8 (rk), ce_i qA cI 8 (ra), ce_i qB cI 8 (rb), ce_i qN cI 8 (rd)]) rfl (by decide) (by decide) (fun w H locs hp hP hD hS => ?_)
  obtain ⟨lg0, rfl, hlg0⟩ := hp
  have hP : va_P D vwCl [(hQ, .inr (2, [.ref qb, .ref ql, .ref qh, .ref qf, .ref qg, .ref qa, .ref qo, .ref qt, .int (iI (((n : Nat) : Int))), .int (iI (((bw : Nat) : Int)))])), ce_i qf cI 4 (nZ (fr)), ce_i ql cI 4 (nZ (ln)), ce_i qg cI 16 (lg0), ce_i qa cI 4 (nZ (ap)), ce_i qo cI 16 (nZ (op)), (hR, .inr (1, [.ref qK, .ref qA, .ref qB, .ref qN, .int (iI (((nr : Nat) : Int)))])), ce_i qK cI 8 (rk), ce_i qA cI 8 (ra), ce_i qB cI 8 (rb), ce_i qN cI 8 (rd)] H := hP.sub (ws' := [(hQ, .inr (2, [.ref qb, .ref ql, .ref qh, .ref qf, .ref qg, .ref qa, .ref qo, .ref qt, .int (iI (((n : Nat) : Int))), .int (iI (((bw : Nat) : Int)))])), ce_i qf cI 4 (nZ (fr)), ce_i ql cI 4 (nZ (ln)), ce_i qg cI 16 (lg0), ce_i qa cI 4 (nZ (ap)), ce_i qo cI 16 (nZ (op)), (hR, .inr (1, [.ref qK, .ref qA, .ref qB, .ref qN, .int (iI (((nr : Nat) : Int)))])), ce_i qK cI 8 (rk), ce_i qA cI 8 (ra), ce_i qB cI 8 (rb), ce_i qN cI 8 (rd)]) [0, 1, 2, 10, 3, 4, 5, 6, 7, 8, 9] rfl
  have hD : va_D A [(hQ, .inr (2, [.ref qb, .ref ql, .ref qh, .ref qf, .ref qg, .ref qa, .ref qo, .ref qt, .int (iI (((n : Nat) : Int))), .int (iI (((bw : Nat) : Int)))])), ce_i qf cI 4 (nZ (fr)), ce_i ql cI 4 (nZ (ln)), ce_i qg cI 16 (lg0), ce_i qa cI 4 (nZ (ap)), ce_i qo cI 16 (nZ (op)), (hR, .inr (1, [.ref qK, .ref qA, .ref qB, .ref qN, .int (iI (((nr : Nat) : Int)))])), ce_i qK cI 8 (rk), ce_i qA cI 8 (ra), ce_i qB cI 8 (rb), ce_i qN cI 8 (rd)] := hD.sub (ws' := [(hQ, .inr (2, [.ref qb, .ref ql, .ref qh, .ref qf, .ref qg, .ref qa, .ref qo, .ref qt, .int (iI (((n : Nat) : Int))), .int (iI (((bw : Nat) : Int)))])), ce_i qf cI 4 (nZ (fr)), ce_i ql cI 4 (nZ (ln)), ce_i qg cI 16 (lg0), ce_i qa cI 4 (nZ (ap)), ce_i qo cI 16 (nZ (op)), (hR, .inr (1, [.ref qK, .ref qA, .ref qB, .ref qN, .int (iI (((nr : Nat) : Int)))])), ce_i qK cI 8 (rk), ce_i qA cI 8 (ra), ce_i qB cI 8 (rb), ce_i qN cI 8 (rd)]) [0, 1, 2, 10, 3, 4, 5, 6, 7, 8, 9] (by decide) rfl
  refine lv_aload_n hx hb dX2_take_9 rfl (lv_at hl 0 rfl) ?_
  refine va_get (D := D) (ci := 2) (v := .ref qa) (C := RX2) (T := TX2) (N := 10) hx hb hts in_X2 hown hK hP 0 rfl rfl 5 (by decide) (hts _ (List.mem_cons_of_mem _ tf_X2_27)) (fun _ h9 => h9) rfl dX2_take_10 ?_
  refine lv_iconst (v := iI (((0 : Nat) : Int))) hx hb dX2_take_13 (by decide +kernel) ?_
  have hPc := hP.sub (ws' := [ce_i qa cI 4 (nZ (ap))]) [4] rfl
  have hDc := hD.sub (ws' := [ce_i qa cI 4 (nZ (ap))]) [4] (by decide) rfl
  refine rz_callv (va_runS (As := [.ref qa, .int (iI (((0 : Nat) : Int)))]) (rest := []) ⟨hx, hb, hml, hown, hts⟩ (k_J7_fillM l D cI cZ H.size qa 4 ap (by omega)) (va_cwS 2 hts (gG (g_S tm_X2_69 ts_J7_fill tin_J7 cmJ7_fill)) rfl rfl rfl (by decide +kernel) ⟨Nat.le_of_ble_eq_true rfl, Nat.le_of_ble_eq_true rfl⟩) ⟨cP_blind, cP_pre hPc hK hN hDc⟩ rfl rfl hl.1 rfl (lv_room (Nat.le_of_ble_eq_true rfl)) dX2_take_14 ⟨Nat.le_refl _, Nat.le_refl _⟩) hP hD hS hA [4] [0, 1, 2, 3, 5, 6, 7, 8, 9, 10] rfl (wr := [(hQ, .inr (2, [.ref qb, .ref ql, .ref qh, .ref qf, .ref qg, .ref qa, .ref qo, .ref qt, .int (iI (((n : Nat) : Int))), .int (iI (((bw : Nat) : Int)))])), ce_i qf cI 4 (nZ (fr)), ce_i ql cI 4 (nZ (ln)), ce_i qg cI 16 (lg0), ce_i qo cI 16 (nZ (op)), (hR, .inr (1, [.ref qK, .ref qA, .ref qB, .ref qN, .int (iI (((nr : Nat) : Int)))])), ce_i qK cI 8 (rk), ce_i qA cI 8 (ra), ce_i qB cI 8 (rb), ce_i qN cI 8 (rd)]) rfl (by decide) (by decide) (fun w H locs hp hP hD hS => ?_)
  obtain ⟨ap0, rfl, hap0⟩ := hp
  have hP : va_P D vwCl [(hQ, .inr (2, [.ref qb, .ref ql, .ref qh, .ref qf, .ref qg, .ref qa, .ref qo, .ref qt, .int (iI (((n : Nat) : Int))), .int (iI (((bw : Nat) : Int)))])), ce_i qf cI 4 (nZ (fr)), ce_i ql cI 4 (nZ (ln)), ce_i qg cI 16 (lg0), ce_i qa cI 4 (nZ (ap0)), ce_i qo cI 16 (nZ (op)), (hR, .inr (1, [.ref qK, .ref qA, .ref qB, .ref qN, .int (iI (((nr : Nat) : Int)))])), ce_i qK cI 8 (rk), ce_i qA cI 8 (ra), ce_i qB cI 8 (rb), ce_i qN cI 8 (rd)] H := hP.sub (ws' := [(hQ, .inr (2, [.ref qb, .ref ql, .ref qh, .ref qf, .ref qg, .ref qa, .ref qo, .ref qt, .int (iI (((n : Nat) : Int))), .int (iI (((bw : Nat) : Int)))])), ce_i qf cI 4 (nZ (fr)), ce_i ql cI 4 (nZ (ln)), ce_i qg cI 16 (lg0), ce_i qa cI 4 (nZ (ap0)), ce_i qo cI 16 (nZ (op)), (hR, .inr (1, [.ref qK, .ref qA, .ref qB, .ref qN, .int (iI (((nr : Nat) : Int)))])), ce_i qK cI 8 (rk), ce_i qA cI 8 (ra), ce_i qB cI 8 (rb), ce_i qN cI 8 (rd)]) [0, 1, 2, 3, 10, 4, 5, 6, 7, 8, 9] rfl
  have hD : va_D A [(hQ, .inr (2, [.ref qb, .ref ql, .ref qh, .ref qf, .ref qg, .ref qa, .ref qo, .ref qt, .int (iI (((n : Nat) : Int))), .int (iI (((bw : Nat) : Int)))])), ce_i qf cI 4 (nZ (fr)), ce_i ql cI 4 (nZ (ln)), ce_i qg cI 16 (lg0), ce_i qa cI 4 (nZ (ap0)), ce_i qo cI 16 (nZ (op)), (hR, .inr (1, [.ref qK, .ref qA, .ref qB, .ref qN, .int (iI (((nr : Nat) : Int)))])), ce_i qK cI 8 (rk), ce_i qA cI 8 (ra), ce_i qB cI 8 (rb), ce_i qN cI 8 (rd)] := hD.sub (ws' := [(hQ, .inr (2, [.ref qb, .ref ql, .ref qh, .ref qf, .ref qg, .ref qa, .ref qo, .ref qt, .int (iI (((n : Nat) : Int))), .int (iI (((bw : Nat) : Int)))])), ce_i qf cI 4 (nZ (fr)), ce_i ql cI 4 (nZ (ln)), ce_i qg cI 16 (lg0), ce_i qa cI 4 (nZ (ap0)), ce_i qo cI 16 (nZ (op)), (hR, .inr (1, [.ref qK, .ref qA, .ref qB, .ref qN, .int (iI (((nr : Nat) : Int)))])), ce_i qK cI 8 (rk), ce_i qA cI 8 (ra), ce_i qB cI 8 (rb), ce_i qN cI 8 (rd)]) [0, 1, 2, 3, 10, 4, 5, 6, 7, 8, 9] (by decide) rfl
  refine lv_aload_n hx hb dX2_take_17 rfl (lv_at hl 0 rfl) ?_
  refine va_get (D := D) (ci := 2) (v := .ref qf) (C := RX2) (T := TX2) (N := 10) hx hb hts in_X2 hown hK hP 0 rfl rfl 3 (by decide) (hts _ (List.mem_cons_of_mem _ tf_X2_21)) (fun _ h9 => h9) rfl dX2_take_18 ?_
  refine lv_iconst (v := iI (((0 : Nat) : Int))) hx hb dX2_take_21 (by decide +kernel) ?_
  refine lv_aload_n hx hb dX2_take_22 rfl (lv_at hl 0 rfl) ?_
  refine va_get (D := D) (ci := 2) (v := .ref qo) (C := RX2) (T := TX2) (N := 10) hx hb hts in_X2 hown hK hP 0 rfl rfl 6 (by decide) (hts _ (List.mem_cons_of_mem _ tf_X2_30)) (fun _ h9 => h9) rfl dX2_take_23 ?_
  refine lv_iconst (v := iI (((0 : Nat) : Int))) hx hb dX2_take_26 (by decide +kernel) ?_
  refine lv_aload_n hx hb dX2_take_27 rfl (lv_at hl 0 rfl) ?_
  refine va_get (D := D) (ci := 2) (v := .int (iI (((n : Nat) : Int)))) (C := RX2) (T := TX2) (N := 10) hx hb hts in_X2 hown hK hP 0 rfl rfl 8 (by decide) (hts _ (List.mem_cons_of_mem _ tf_X2_45)) (fun _ h9 => h9) rfl dX2_take_28 ?_
  refine rn_copyM (rest := []) hx hb (hml.trans hl.1.symm) hown hts tm_X2_75 hK hP hD hS 1 5 0 rfl rfl rfl (by omega) (by omega) (by omega) (by omega) (Nat.le_of_ble_eq_true rfl) (Nat.le_of_ble_eq_true rfl) dX2_take_31 (fun H locs hP hD hS => ?_)
  have hP : va_P D vwCl [(hQ, .inr (2, [.ref qb, .ref ql, .ref qh, .ref qf, .ref qg, .ref qa, .ref qo, .ref qt, .int (iI (((n : Nat) : Int))), .int (iI (((bw : Nat) : Int)))])), ce_i qf cI 4 (nZ (fr)), ce_i ql cI 4 (nZ (ln)), ce_i qg cI 16 (lg0), ce_i qa cI 4 (nZ (ap0)), ce_i qo cI 16 (nZ (va_cpy fr op 0 0 n)), (hR, .inr (1, [.ref qK, .ref qA, .ref qB, .ref qN, .int (iI (((nr : Nat) : Int)))])), ce_i qK cI 8 (rk), ce_i qA cI 8 (ra), ce_i qB cI 8 (rb), ce_i qN cI 8 (rd)] H := hP
  have hD : va_D A [(hQ, .inr (2, [.ref qb, .ref ql, .ref qh, .ref qf, .ref qg, .ref qa, .ref qo, .ref qt, .int (iI (((n : Nat) : Int))), .int (iI (((bw : Nat) : Int)))])), ce_i qf cI 4 (nZ (fr)), ce_i ql cI 4 (nZ (ln)), ce_i qg cI 16 (lg0), ce_i qa cI 4 (nZ (ap0)), ce_i qo cI 16 (nZ (va_cpy fr op 0 0 n)), (hR, .inr (1, [.ref qK, .ref qA, .ref qB, .ref qN, .int (iI (((nr : Nat) : Int)))])), ce_i qK cI 8 (rk), ce_i qA cI 8 (ra), ce_i qB cI 8 (rb), ce_i qN cI 8 (rd)] := hD
  refine lv_iconst (v := iI (((0 : Nat) : Int))) hx hb dX2_take_34 (by decide +kernel) ?_
  refine lv_istore_n (lv' := [(3, .int (iI (((0 : Nat) : Int)))), (0, .ref hQ), (1, .ref hR), (2, .int (iI (wo)))]) hx hb dX2_take_35 rfl hl (by decide) rfl (fun ls hl => ?_)
  exact K36 (nr - (0) + 1) (0) (lg0) (ap0) (va_cpy fr op 0 0 n) (lg0) (ap0) (va_cpy fr op 0 0 n) (Nat.lt_succ_self _) (fun j h => by rw [hlg0 j, if_pos h]) (fun j h => by rw [hap0 j, if_pos h]) (fun j h => by rw [pk_cpy_in (by omega) (by omega)]; simp) (fun j => by rw [hlg0 j]; have := hlg j; split <;> omega) (fun j => by rw [hap0 j]; have := hap j; split <;> omega) (fun j => by simp only [va_cpy]; split; exact hfr _; exact hop _) (by omega) rfl rfl rfl _ _ _ hP hD hS (lv_sub hl [1, 2, 3, 0] rfl)

set_option maxHeartbeats 4000000 in
set_option maxRecDepth 100000 in
theorem k_X2_load (l : Launch) (D : va_G) (cI cZ : ClassId) (sz : Nat) (hQ : Nat) (qb : Nat) (ql : Nat) (qh : Nat) (qf : Nat) (qg : Nat) (qa : Nat) (qo : Nat) (qt : Nat) (n0 : Nat) (bw : Nat) (ln : Nat → Nat) (hm : Nat → Nat) (fr : Nat → Nat) (hB : Nat) (qL : Nat) (qP : Nat) (qE : Nat) (qF : Nat) (n : Nat) (bl : Nat → Nat) (pl : Nat → Nat) (ea : Nat → Nat) (fz : Nat → Bool) (T : Nat) (dd : Nat) (sh : Nat) (hn : n ≤ 4) (hT : T ≤ 3) (hdd : dd ≤ 10) (hsh : sh < 1073741824) (hbl : ∀ j, bl j ≤ 10) (hpl : ∀ j, pl j < 30) (hea : ∀ j, ea j ≤ 20) : Cv l yX2_load wsX2_load (rmD 3) D vwCl [(cI, .int), (cZ, .boolean)] [.ref hQ, .ref hB, .int (iI (((T : Nat) : Int))), .int (iI (((dd : Nat) : Int))), .int (iI (((sh : Nat) : Int)))] [(hQ, .inr (2, [.ref qb, .ref ql, .ref qh, .ref qf, .ref qg, .ref qa, .ref qo, .ref qt, .int (iI (((n0 : Nat) : Int))), .int (iI (((bw : Nat) : Int)))])), ce_i ql cI 4 (nZ (ln)), ce_i qh cI 4 (nZ (hm)), ce_i qf cI 4 (nZ (fr)), (hB, .inr (0, [.ref qL, .ref qP, .ref qE, .ref qF, .int (iI (((n : Nat) : Int)))])), ce_i qL cI 4 (nZ (bl)), ce_i qP cI 4 (nZ (pl)), ce_i qE cI 4 (nZ (ea)), ce_i qF cZ 4 (bZ (fz))] sz (fun w => w = [(hQ, .inr (2, [.ref qb, .ref ql, .ref qh, .ref qf, .ref qg, .ref qa, .ref qo, .ref qt, .int (iI (((n : Nat) : Int))), .int (iI (((bw : Nat) : Int)))])), ce_i ql cI 4 (nZ (mixN n bl ln)), ce_i qh cI 4 (nZ (mixN n pl hm)), ce_i qf cI 4 (nZ (mixN n (frF bl pl ea fz T dd sh) fr)), (hB, .inr (0, [.ref qL, .ref qP, .ref qE, .ref qF, .int (iI (((n : Nat) : Int)))])), ce_i qL cI 4 (nZ (bl)), ce_i qP cI 4 (nZ (pl)), ce_i qE cI 4 (nZ (ea)), ce_i qF cZ 4 (bZ (fz))]) 0 0 := by
  refine Cv_of (cc := cX2_load) (nL := 10) (by decide) rfl (Nat.le_of_ble_eq_true rfl) ?_
  intro p e s m below meth c A Q hsz C hK hN hA hP hD hS hin hret ls hl
  obtain ⟨hx, hb, hml, hown, hts⟩ := id C
  have hown : s.vm.findClass RX2 = some m.cls := hown
  have hl : lv_has ls 10 [(0, .ref hQ), (1, .ref hB), (2, .int (iI (((T : Nat) : Int)))), (3, .int (iI (((dd : Nat) : Int)))), (4, .int (iI (((sh : Nat) : Int))))] := hl
  have in_X2 : ∀ w ∈ u_ws RX2 TX2 10, w ∈ wsX2_load := fun w h => List.mem_cons_of_mem _ (inX2 w h)
  have in_X0 : ∀ w ∈ u_ws RX0 TX0 5, w ∈ wsX2_load := fun w h => List.mem_cons_of_mem _ (inX0 w h)
  have K11 : ∀ (fu : Nat) (i : Nat), n - i < fu → (i ≤ n) → ∀ (H : Heap) (locs : List Loc) (ls : Array Slot), va_P D vwCl [(hQ, .inr (2, [.ref qb, .ref ql, .ref qh, .ref qf, .ref qg, .ref qa, .ref qo, .ref qt, .int (iI (((n : Nat) : Int))), .int (iI (((bw : Nat) : Int)))])), ce_i ql cI 4 (nZ (mixN i bl ln)), ce_i qh cI 4 (nZ (mixN i pl hm)), ce_i qf cI 4 (nZ (mixN i (frF bl pl ea fz T dd sh) fr)), (hB, .inr (0, [.ref qL, .ref qP, .ref qE, .ref qF, .int (iI (((n : Nat) : Int)))])), ce_i qL cI 4 (nZ (bl)), ce_i qP cI 4 (nZ (pl)), ce_i qE cI 4 (nZ (ea)), ce_i qF cZ 4 (bZ (fz))] H → va_D A [(hQ, .inr (2, [.ref qb, .ref ql, .ref qh, .ref qf, .ref qg, .ref qa, .ref qo, .ref qt, .int (iI (((n : Nat) : Int))), .int (iI (((bw : Nat) : Int)))])), ce_i ql cI 4 (nZ (mixN i bl ln)), ce_i qh cI 4 (nZ (mixN i pl hm)), ce_i qf cI 4 (nZ (mixN i (frF bl pl ea fz T dd sh) fr)), (hB, .inr (0, [.ref qL, .ref qP, .ref qE, .ref qF, .int (iI (((n : Nat) : Int)))])), ce_i qL cI 4 (nZ (bl)), ce_i qP cI 4 (nZ (pl)), ce_i qE cI 4 (nZ (ea)), ce_i qF cZ 4 (bZ (fz))] → va_S A s.heap H locs → lv_has ls 10 [(0, .ref hQ), (1, .ref hB), (2, .int (iI (((T : Nat) : Int)))), (3, .int (iI (((dd : Nat) : Int)))), (4, .int (iI (((sh : Nat) : Int)))), (5, .int (iI (((i : Nat) : Int))))] → W p l e (rmD 3) s m ([.ref hQ, .ref hB, .int (iI (((T : Nat) : Int))), .int (iI (((dd : Nat) : Int))), .int (iI (((sh : Nat) : Int)))] : List Value).toArray below meth c H locs 0 0 Q (F0 m 11 ls []) := by
    intro fu
    induction fu with
    | zero => intro i hmu; exact absurd hmu (Nat.not_lt_zero _)
    | succ fu ih =>
      intro i hmu hi H locs ls hP hD hS hl
      have b1 := hbl i
      have b2 := hpl i
      have b3 := hea i
      refine lv_iload hx hb dX2_load_11 (lv_at hl 5 rfl) ?_
      refine lv_aload_n hx hb dX2_load_13 rfl (lv_at hl 0 rfl) ?_
      refine va_get (D := D) (ci := 2) (v := .int (iI (((n : Nat) : Int)))) (C := RX2) (T := TX2) (N := 10) hx hb hts in_X2 hown hK hP 0 rfl rfl 8 (by decide) (hts _ (List.mem_cons_of_mem _ tf_X2_45)) (fun _ h9 => h9) rfl dX2_load_14 ?_
      refine rz_cge (tgt := 119) hx hb dX2_load_17 (by decide) (by omega) (by omega) (fun c1 => ?_) (fun c1 => ?_)
      · exact hret _ _ _ _ _ dX2_load_119 (by rw [show i = n by omega]) hP hD hS
      · refine lv_aload_n hx hb dX2_load_20 rfl (lv_at hl 1 rfl) ?_
        refine va_get (D := D) (ci := 0) (v := .ref qL) (C := RX0) (T := TX0) (N := 5) hx hb hts in_X0 hown hK hP 4 rfl rfl 0 (by decide) (hts _ (List.mem_cons_of_mem _ tf_X2_46)) (fun _ h9 => h9) rfl dX2_load_21 ?_
        refine lv_iload hx hb dX2_load_24 (lv_at hl 5 rfl) ?_
        refine rn_aldM hx hb hK hP 5 0 rfl rfl (by omega) (by omega) dX2_load_26 ?_
        refine lv_istore (lv' := [(6, .int (iI (((bl i : Nat) : Int)))), (0, .ref hQ), (1, .ref hB), (2, .int (iI (((T : Nat) : Int)))), (3, .int (iI (((dd : Nat) : Int)))), (4, .int (iI (((sh : Nat) : Int)))), (5, .int (iI (((i : Nat) : Int))))]) hx hb dX2_load_27 hl (by decide) rfl (fun ls hl => ?_)
        refine lv_aload_n hx hb dX2_load_29 rfl (lv_at hl 2 rfl) ?_
        refine va_get (D := D) (ci := 0) (v := .ref qE) (C := RX0) (T := TX0) (N := 5) hx hb hts in_X0 hown hK hP 4 rfl rfl 2 (by decide) (hts _ (List.mem_cons_of_mem _ tf_X2_47)) (fun _ h9 => h9) rfl dX2_load_30 ?_
        refine lv_iload hx hb dX2_load_33 (lv_at hl 6 rfl) ?_
        refine rn_aldM hx hb hK hP 7 0 rfl rfl (by omega) (by omega) dX2_load_35 ?_
        refine lv_iload_n hx hb dX2_load_36 rfl (lv_at hl 4 rfl) ?_
        refine lv_iload hx hb dX2_load_37 (lv_at hl 0 rfl) ?_
        refine rz_sub hx hb dX2_load_39 ?_
        have hPc := hP.sub (ws' := []) [] rfl
        have hDc := hD.sub (ws' := []) [] (by decide) rfl
        refine rz_calliR (va_runSN (As := [.int (iI (((ea i : Nat) : Int))), .int (iI (((dd : Nat) : Int) - ((bl i : Nat) : Int)))]) (rest := []) ⟨hx, hb, hml, hown, hts⟩ (k_X4_daysFromTo l D cI cZ H.size ((ea i : Nat) : Int) (((dd : Nat) : Int) - ((bl i : Nat) : Int)) (by omega) (by omega)) ⟨va_cnB 2 hts (gG (g_c cmX4_daysFromTo)) rfl rfl rfl (nK_X2_50 hN) (hts _ (List.mem_cons_of_mem _ tin_X4)) (by decide +kernel) ⟨Nat.le_of_ble_eq_true rfl, Nat.le_of_ble_eq_true rfl⟩, hts _ (List.mem_cons_of_mem _ ts_X4_daysFromTo), trivial⟩ ⟨cP_blind, cP_pre hPc hK hN hDc⟩ rfl rfl hl.1 rfl (lv_room (Nat.le_of_ble_eq_true rfl)) dX2_load_40 ⟨Nat.le_refl _, Nat.le_refl _⟩) hP hD hS hA [] rfl (fun z2 H locs hp hP hS => ?_)
        subst hp
        refine lv_istore (lv' := [(7, .int (iI (((daysF ((ea i : Nat) : Int) (((dd : Nat) : Int) - ((bl i : Nat) : Int)) : Nat) : Int)))), (6, .int (iI (((bl i : Nat) : Int)))), (0, .ref hQ), (1, .ref hB), (2, .int (iI (((T : Nat) : Int)))), (3, .int (iI (((dd : Nat) : Int)))), (4, .int (iI (((sh : Nat) : Int)))), (5, .int (iI (((i : Nat) : Int))))]) hx hb dX2_load_43 hl (by decide) rfl (fun ls hl => ?_)
        refine lv_iload hx hb dX2_load_45 (lv_at hl 0 rfl) ?_
        refine lv_iload hx hb dX2_load_47 (lv_at hl 1 rfl) ?_
        refine lv_iload_n hx hb dX2_load_49 rfl (lv_at hl 4 rfl) ?_
        refine lv_iload hx hb dX2_load_50 (lv_at hl 6 rfl) ?_
        have hPc := hP.sub (ws' := []) [] rfl
        have hDc := hD.sub (ws' := []) [] (by decide) rfl
        refine rz_calliR (va_runS (As := [.int (iI (((daysF ((ea i : Nat) : Int) (((dd : Nat) : Int) - ((bl i : Nat) : Int)) : Nat) : Int))), .int (iI (((bl i : Nat) : Int))), .int (iI (((T : Nat) : Int))), .int (iI (((sh : Nat) : Int)))]) (rest := []) ⟨hx, hb, hml, hown, hts⟩ (k_X2_freePlaces l D cI cZ H.size (daysF ((ea i : Nat) : Int) (((dd : Nat) : Int) - ((bl i : Nat) : Int))) (bl i) T sh (daysF_lt _ _) (by omega) (by omega) (by omega)) (va_cwS 4 hts (gG (g_S tm_X2_54 ts_X2_freePlaces tin_X2 cmX2_freePlaces)) rfl rfl rfl (by decide +kernel) ⟨Nat.le_of_ble_eq_true rfl, Nat.le_of_ble_eq_true rfl⟩) ⟨cP_blind, cP_pre hPc hK hN hDc⟩ rfl rfl hl.1 rfl (lv_room (Nat.le_of_ble_eq_true rfl)) dX2_load_52 ⟨Nat.le_refl _, Nat.le_refl _⟩) hP hD hS hA [] rfl (fun z3 H locs hp hP hS => ?_)
        subst hp
        refine lv_istore (lv' := [(8, .int (iI (((freeF (daysF ((ea i : Nat) : Int) (((dd : Nat) : Int) - ((bl i : Nat) : Int))) (daysF 0 (((bl i : Nat) : Int) - ((1 : Nat) : Int))) sh (T * 10) : Nat) : Int)))), (7, .int (iI (((daysF ((ea i : Nat) : Int) (((dd : Nat) : Int) - ((bl i : Nat) : Int)) : Nat) : Int)))), (6, .int (iI (((bl i : Nat) : Int)))), (0, .ref hQ), (1, .ref hB), (2, .int (iI (((T : Nat) : Int)))), (3, .int (iI (((dd : Nat) : Int)))), (4, .int (iI (((sh : Nat) : Int)))), (5, .int (iI (((i : Nat) : Int))))]) hx hb dX2_load_55 hl (by decide) rfl (fun ls hl => ?_)
        refine lv_aload_n hx hb dX2_load_57 rfl (lv_at hl 4 rfl) ?_
        refine va_get (D := D) (ci := 0) (v := .ref qP) (C := RX0) (T := TX0) (N := 5) hx hb hts in_X0 hown hK hP 4 rfl rfl 1 (by decide) (hts _ (List.mem_cons_of_mem _ tf_X2_58)) (fun _ h9 => h9) rfl dX2_load_58 ?_
        refine lv_iload hx hb dX2_load_61 (lv_at hl 8 rfl) ?_
        refine rn_aldM hx hb hK hP 6 0 rfl rfl (by omega) (by omega) dX2_load_63 ?_
        refine lv_istore (lv' := [(9, .int (iI (((pl i : Nat) : Int)))), (8, .int (iI (((freeF (daysF ((ea i : Nat) : Int) (((dd : Nat) : Int) - ((bl i : Nat) : Int))) (daysF 0 (((bl i : Nat) : Int) - ((1 : Nat) : Int))) sh (T * 10) : Nat) : Int)))), (7, .int (iI (((daysF ((ea i : Nat) : Int) (((dd : Nat) : Int) - ((bl i : Nat) : Int)) : Nat) : Int)))), (6, .int (iI (((bl i : Nat) : Int)))), (0, .ref hQ), (1, .ref hB), (2, .int (iI (((T : Nat) : Int)))), (3, .int (iI (((dd : Nat) : Int)))), (4, .int (iI (((sh : Nat) : Int)))), (5, .int (iI (((i : Nat) : Int))))]) hx hb dX2_load_64 hl (by decide) rfl (fun ls hl => ?_)
        refine lv_aload_n hx hb dX2_load_66 rfl (lv_at hl 4 rfl) ?_
        refine va_get (D := D) (ci := 2) (v := .ref ql) (C := RX2) (T := TX2) (N := 10) hx hb hts in_X2 hown hK hP 0 rfl rfl 1 (by decide) (hts _ (List.mem_cons_of_mem _ tf_X2_15)) (fun _ h9 => h9) rfl dX2_load_67 ?_
        refine lv_iload hx hb dX2_load_70 (lv_at hl 9 rfl) ?_
        refine lv_iload hx hb dX2_load_72 (lv_at hl 3 rfl) ?_
        refine rn_astM hx hb hK hP hD hS 1 0 rfl rfl (by omega) (by omega) dX2_load_74 (fun H locs hP hD hS => ?_)
        have hP : va_P D vwCl [(hQ, .inr (2, [.ref qb, .ref ql, .ref qh, .ref qf, .ref qg, .ref qa, .ref qo, .ref qt, .int (iI (((n : Nat) : Int))), .int (iI (((bw : Nat) : Int)))])), ce_i ql cI 4 (nZ (uN (mixN i bl ln) i (bl i))), ce_i qh cI 4 (nZ (mixN i pl hm)), ce_i qf cI 4 (nZ (mixN i (frF bl pl ea fz T dd sh) fr)), (hB, .inr (0, [.ref qL, .ref qP, .ref qE, .ref qF, .int (iI (((n : Nat) : Int)))])), ce_i qL cI 4 (nZ (bl)), ce_i qP cI 4 (nZ (pl)), ce_i qE cI 4 (nZ (ea)), ce_i qF cZ 4 (bZ (fz))] H := hP
        have hD : va_D A [(hQ, .inr (2, [.ref qb, .ref ql, .ref qh, .ref qf, .ref qg, .ref qa, .ref qo, .ref qt, .int (iI (((n : Nat) : Int))), .int (iI (((bw : Nat) : Int)))])), ce_i ql cI 4 (nZ (uN (mixN i bl ln) i (bl i))), ce_i qh cI 4 (nZ (mixN i pl hm)), ce_i qf cI 4 (nZ (mixN i (frF bl pl ea fz T dd sh) fr)), (hB, .inr (0, [.ref qL, .ref qP, .ref qE, .ref qF, .int (iI (((n : Nat) : Int)))])), ce_i qL cI 4 (nZ (bl)), ce_i qP cI 4 (nZ (pl)), ce_i qE cI 4 (nZ (ea)), ce_i qF cZ 4 (bZ (fz))] := hD
        have e_g : uN (mixN i bl ln) i (bl i) = mixN (i + 1) bl ln := (mixN_u _ _ _)
        rw [e_g] at hP hD
        have hP : va_P D vwCl [(hQ, .inr (2, [.ref qb, .ref ql, .ref qh, .ref qf, .ref qg, .ref qa, .ref qo, .ref qt, .int (iI (((n : Nat) : Int))), .int (iI (((bw : Nat) : Int)))])), ce_i ql cI 4 (nZ (mixN (i + 1) bl ln)), ce_i qh cI 4 (nZ (mixN i pl hm)), ce_i qf cI 4 (nZ (mixN i (frF bl pl ea fz T dd sh) fr)), (hB, .inr (0, [.ref qL, .ref qP, .ref qE, .ref qF, .int (iI (((n : Nat) : Int)))])), ce_i qL cI 4 (nZ (bl)), ce_i qP cI 4 (nZ (pl)), ce_i qE cI 4 (nZ (ea)), ce_i qF cZ 4 (bZ (fz))] H := hP
        have hD : va_D A [(hQ, .inr (2, [.ref qb, .ref ql, .ref qh, .ref qf, .ref qg, .ref qa, .ref qo, .ref qt, .int (iI (((n : Nat) : Int))), .int (iI (((bw : Nat) : Int)))])), ce_i ql cI 4 (nZ (mixN (i + 1) bl ln)), ce_i qh cI 4 (nZ (mixN i pl hm)), ce_i qf cI 4 (nZ (mixN i (frF bl pl ea fz T dd sh) fr)), (hB, .inr (0, [.ref qL, .ref qP, .ref qE, .ref qF, .int (iI (((n : Nat) : Int)))])), ce_i qL cI 4 (nZ (bl)), ce_i qP cI 4 (nZ (pl)), ce_i qE cI 4 (nZ (ea)), ce_i qF cZ 4 (bZ (fz))] := hD
        refine lv_aload_n hx hb dX2_load_75 rfl (lv_at hl 4 rfl) ?_
        refine va_get (D := D) (ci := 2) (v := .ref qh) (C := RX2) (T := TX2) (N := 10) hx hb hts in_X2 hown hK hP 0 rfl rfl 2 (by decide) (hts _ (List.mem_cons_of_mem _ tf_X2_18)) (fun _ h9 => h9) rfl dX2_load_76 ?_
        refine lv_iload hx hb dX2_load_79 (lv_at hl 9 rfl) ?_
        refine lv_iload hx hb dX2_load_81 (lv_at hl 0 rfl) ?_
        refine rn_astM hx hb hK hP hD hS 2 0 rfl rfl (by omega) (by omega) dX2_load_83 (fun H locs hP hD hS => ?_)
        have hP : va_P D vwCl [(hQ, .inr (2, [.ref qb, .ref ql, .ref qh, .ref qf, .ref qg, .ref qa, .ref qo, .ref qt, .int (iI (((n : Nat) : Int))), .int (iI (((bw : Nat) : Int)))])), ce_i ql cI 4 (nZ (mixN (i + 1) bl ln)), ce_i qh cI 4 (nZ (uN (mixN i pl hm) i (pl i))), ce_i qf cI 4 (nZ (mixN i (frF bl pl ea fz T dd sh) fr)), (hB, .inr (0, [.ref qL, .ref qP, .ref qE, .ref qF, .int (iI (((n : Nat) : Int)))])), ce_i qL cI 4 (nZ (bl)), ce_i qP cI 4 (nZ (pl)), ce_i qE cI 4 (nZ (ea)), ce_i qF cZ 4 (bZ (fz))] H := hP
        have hD : va_D A [(hQ, .inr (2, [.ref qb, .ref ql, .ref qh, .ref qf, .ref qg, .ref qa, .ref qo, .ref qt, .int (iI (((n : Nat) : Int))), .int (iI (((bw : Nat) : Int)))])), ce_i ql cI 4 (nZ (mixN (i + 1) bl ln)), ce_i qh cI 4 (nZ (uN (mixN i pl hm) i (pl i))), ce_i qf cI 4 (nZ (mixN i (frF bl pl ea fz T dd sh) fr)), (hB, .inr (0, [.ref qL, .ref qP, .ref qE, .ref qF, .int (iI (((n : Nat) : Int)))])), ce_i qL cI 4 (nZ (bl)), ce_i qP cI 4 (nZ (pl)), ce_i qE cI 4 (nZ (ea)), ce_i qF cZ 4 (bZ (fz))] := hD
        have e_g : uN (mixN i pl hm) i (pl i) = mixN (i + 1) pl hm := (mixN_u _ _ _)
        rw [e_g] at hP hD
        have hP : va_P D vwCl [(hQ, .inr (2, [.ref qb, .ref ql, .ref qh, .ref qf, .ref qg, .ref qa, .ref qo, .ref qt, .int (iI (((n : Nat) : Int))), .int (iI (((bw : Nat) : Int)))])), ce_i ql cI 4 (nZ (mixN (i + 1) bl ln)), ce_i qh cI 4 (nZ (mixN (i + 1) pl hm)), ce_i qf cI 4 (nZ (mixN i (frF bl pl ea fz T dd sh) fr)), (hB, .inr (0, [.ref qL, .ref qP, .ref qE, .ref qF, .int (iI (((n : Nat) : Int)))])), ce_i qL cI 4 (nZ (bl)), ce_i qP cI 4 (nZ (pl)), ce_i qE cI 4 (nZ (ea)), ce_i qF cZ 4 (bZ (fz))] H := hP
        have hD : va_D A [(hQ, .inr (2, [.ref qb, .ref ql, .ref qh, .ref qf, .ref qg, .ref qa, .ref qo, .ref qt, .int (iI (((n : Nat) : Int))), .int (iI (((bw : Nat) : Int)))])), ce_i ql cI 4 (nZ (mixN (i + 1) bl ln)), ce_i qh cI 4 (nZ (mixN (i + 1) pl hm)), ce_i qf cI 4 (nZ (mixN i (frF bl pl ea fz T dd sh) fr)), (hB, .inr (0, [.ref qL, .ref qP, .ref qE, .ref qF, .int (iI (((n : Nat) : Int)))])), ce_i qL cI 4 (nZ (bl)), ce_i qP cI 4 (nZ (pl)), ce_i qE cI 4 (nZ (ea)), ce_i qF cZ 4 (bZ (fz))] := hD
        refine lv_aload_n hx hb dX2_load_84 rfl (lv_at hl 4 rfl) ?_
        refine va_get (D := D) (ci := 2) (v := .ref qf) (C := RX2) (T := TX2) (N := 10) hx hb hts in_X2 hown hK hP 0 rfl rfl 3 (by decide) (hts _ (List.mem_cons_of_mem _ tf_X2_21)) (fun _ h9 => h9) rfl dX2_load_85 ?_
        refine lv_iload hx hb dX2_load_88 (lv_at hl 9 rfl) ?_
        refine lv_aload_n hx hb dX2_load_90 rfl (lv_at hl 5 rfl) ?_
        refine va_get (D := D) (ci := 0) (v := .ref qF) (C := RX0) (T := TX0) (N := 5) hx hb hts in_X0 hown hK hP 4 rfl rfl 3 (by decide) (hts _ (List.mem_cons_of_mem _ tf_X2_61)) (fun _ h9 => h9) rfl dX2_load_91 ?_
        refine lv_iload hx hb dX2_load_94 (lv_at hl 9 rfl) ?_
        refine rn_zld hx hb hK hP 8 1 rfl rfl (by omega) (by omega) dX2_load_96 ?_
        refine rz_beq (z := fz i) (tgt := 110) hx hb dX2_load_97 (by decide) (fun c4 => ?_) (fun c4 => ?_)
        · refine lv_iload hx hb dX2_load_110 (lv_at hl 1 rfl) ?_
          refine rz_as (y := ((frF bl pl ea fz T dd sh i : Nat) : Int)) (by first | rw [frF, if_pos (by assumption)] | rw [frF, if_neg (by simp_all)]) ?_
          refine rn_astM hx hb hK hP hD hS 3 0 rfl rfl (by omega) (by omega) dX2_load_112 (fun H locs hP hD hS => ?_)
          have hP : va_P D vwCl [(hQ, .inr (2, [.ref qb, .ref ql, .ref qh, .ref qf, .ref qg, .ref qa, .ref qo, .ref qt, .int (iI (((n : Nat) : Int))), .int (iI (((bw : Nat) : Int)))])), ce_i ql cI 4 (nZ (mixN (i + 1) bl ln)), ce_i qh cI 4 (nZ (mixN (i + 1) pl hm)), ce_i qf cI 4 (nZ (uN (mixN i (frF bl pl ea fz T dd sh) fr) i (frF bl pl ea fz T dd sh i))), (hB, .inr (0, [.ref qL, .ref qP, .ref qE, .ref qF, .int (iI (((n : Nat) : Int)))])), ce_i qL cI 4 (nZ (bl)), ce_i qP cI 4 (nZ (pl)), ce_i qE cI 4 (nZ (ea)), ce_i qF cZ 4 (bZ (fz))] H := hP
          have hD : va_D A [(hQ, .inr (2, [.ref qb, .ref ql, .ref qh, .ref qf, .ref qg, .ref qa, .ref qo, .ref qt, .int (iI (((n : Nat) : Int))), .int (iI (((bw : Nat) : Int)))])), ce_i ql cI 4 (nZ (mixN (i + 1) bl ln)), ce_i qh cI 4 (nZ (mixN (i + 1) pl hm)), ce_i qf cI 4 (nZ (uN (mixN i (frF bl pl ea fz T dd sh) fr) i (frF bl pl ea fz T dd sh i))), (hB, .inr (0, [.ref qL, .ref qP, .ref qE, .ref qF, .int (iI (((n : Nat) : Int)))])), ce_i qL cI 4 (nZ (bl)), ce_i qP cI 4 (nZ (pl)), ce_i qE cI 4 (nZ (ea)), ce_i qF cZ 4 (bZ (fz))] := hD
          have e_g : uN (mixN i (frF bl pl ea fz T dd sh) fr) i (frF bl pl ea fz T dd sh i) = mixN (i + 1) (frF bl pl ea fz T dd sh) fr := (mixN_u _ _ _)
          rw [e_g] at hP hD
          have hP : va_P D vwCl [(hQ, .inr (2, [.ref qb, .ref ql, .ref qh, .ref qf, .ref qg, .ref qa, .ref qo, .ref qt, .int (iI (((n : Nat) : Int))), .int (iI (((bw : Nat) : Int)))])), ce_i ql cI 4 (nZ (mixN (i + 1) bl ln)), ce_i qh cI 4 (nZ (mixN (i + 1) pl hm)), ce_i qf cI 4 (nZ (mixN (i + 1) (frF bl pl ea fz T dd sh) fr)), (hB, .inr (0, [.ref qL, .ref qP, .ref qE, .ref qF, .int (iI (((n : Nat) : Int)))])), ce_i qL cI 4 (nZ (bl)), ce_i qP cI 4 (nZ (pl)), ce_i qE cI 4 (nZ (ea)), ce_i qF cZ 4 (bZ (fz))] H := hP
          have hD : va_D A [(hQ, .inr (2, [.ref qb, .ref ql, .ref qh, .ref qf, .ref qg, .ref qa, .ref qo, .ref qt, .int (iI (((n : Nat) : Int))), .int (iI (((bw : Nat) : Int)))])), ce_i ql cI 4 (nZ (mixN (i + 1) bl ln)), ce_i qh cI 4 (nZ (mixN (i + 1) pl hm)), ce_i qf cI 4 (nZ (mixN (i + 1) (frF bl pl ea fz T dd sh) fr)), (hB, .inr (0, [.ref qL, .ref qP, .ref qE, .ref qF, .int (iI (((n : Nat) : Int)))])), ce_i qL cI 4 (nZ (bl)), ce_i qP cI 4 (nZ (pl)), ce_i qE cI 4 (nZ (ea)), ce_i qF cZ 4 (bZ (fz))] := hD
          refine lv_iinc (v := iI (((i + 1 : Nat) : Int))) (lv' := [(5, .int (iI (((i + 1 : Nat) : Int)))), (9, .int (iI (((pl i : Nat) : Int)))), (8, .int (iI (((freeF (daysF ((ea i : Nat) : Int) (((dd : Nat) : Int) - ((bl i : Nat) : Int))) (daysF 0 (((bl i : Nat) : Int) - ((1 : Nat) : Int))) sh (T * 10) : Nat) : Int)))), (7, .int (iI (((daysF ((ea i : Nat) : Int) (((dd : Nat) : Int) - ((bl i : Nat) : Int)) : Nat) : Int)))), (6, .int (iI (((bl i : Nat) : Int)))), (0, .ref hQ), (1, .ref hB), (2, .int (iI (((T : Nat) : Int)))), (3, .int (iI (((dd : Nat) : Int)))), (4, .int (iI (((sh : Nat) : Int))))]) hx hb dX2_load_113 hl (k := 9) rfl (iI_inc _) (by decide) rfl (fun ls hl => ?_)
          refine lv_goto (tgt := 11) hx hb dX2_load_116 (by decide) ?_
          exact ih (i + 1) (by omega) (by omega) _ _ _ hP hD hS (lv_sub hl [5, 6, 7, 8, 9, 0] rfl)
        · refine lv_iload hx hb dX2_load_100 (lv_at hl 1 rfl) ?_
          refine lv_iconst (v := iI (((1 : Nat) : Int))) hx hb dX2_load_102 (by decide +kernel) ?_
          refine lv_iload hx hb dX2_load_103 (lv_at hl 0 rfl) ?_
          refine rz_shl hx hb dX2_load_105 (by omega) (pw_lt (by omega)) ?_
          refine rz_and hx hb dX2_load_106 ?_
          refine lv_goto (tgt := 112) hx hb dX2_load_107 (by decide) ?_
          refine rz_as (y := ((frF bl pl ea fz T dd sh i : Nat) : Int)) (by first | rw [frF, if_pos (by assumption)] | rw [frF, if_neg (by simp_all)]) ?_
          refine rn_astM hx hb hK hP hD hS 3 0 rfl rfl (by omega) (by omega) dX2_load_112 (fun H locs hP hD hS => ?_)
          have hP : va_P D vwCl [(hQ, .inr (2, [.ref qb, .ref ql, .ref qh, .ref qf, .ref qg, .ref qa, .ref qo, .ref qt, .int (iI (((n : Nat) : Int))), .int (iI (((bw : Nat) : Int)))])), ce_i ql cI 4 (nZ (mixN (i + 1) bl ln)), ce_i qh cI 4 (nZ (mixN (i + 1) pl hm)), ce_i qf cI 4 (nZ (uN (mixN i (frF bl pl ea fz T dd sh) fr) i (frF bl pl ea fz T dd sh i))), (hB, .inr (0, [.ref qL, .ref qP, .ref qE, .ref qF, .int (iI (((n : Nat) : Int)))])), ce_i qL cI 4 (nZ (bl)), ce_i qP cI 4 (nZ (pl)), ce_i qE cI 4 (nZ (ea)), ce_i qF cZ 4 (bZ (fz))] H := hP
          have hD : va_D A [(hQ, .inr (2, [.ref qb, .ref ql, .ref qh, .ref qf, .ref qg, .ref qa, .ref qo, .ref qt, .int (iI (((n : Nat) : Int))), .int (iI (((bw : Nat) : Int)))])), ce_i ql cI 4 (nZ (mixN (i + 1) bl ln)), ce_i qh cI 4 (nZ (mixN (i + 1) pl hm)), ce_i qf cI 4 (nZ (uN (mixN i (frF bl pl ea fz T dd sh) fr) i (frF bl pl ea fz T dd sh i))), (hB, .inr (0, [.ref qL, .ref qP, .ref qE, .ref qF, .int (iI (((n : Nat) : Int)))])), ce_i qL cI 4 (nZ (bl)), ce_i qP cI 4 (nZ (pl)), ce_i qE cI 4 (nZ (ea)), ce_i qF cZ 4 (bZ (fz))] := hD
          have e_g : uN (mixN i (frF bl pl ea fz T dd sh) fr) i (frF bl pl ea fz T dd sh i) = mixN (i + 1) (frF bl pl ea fz T dd sh) fr := (mixN_u _ _ _)
          rw [e_g] at hP hD
          have hP : va_P D vwCl [(hQ, .inr (2, [.ref qb, .ref ql, .ref qh, .ref qf, .ref qg, .ref qa, .ref qo, .ref qt, .int (iI (((n : Nat) : Int))), .int (iI (((bw : Nat) : Int)))])), ce_i ql cI 4 (nZ (mixN (i + 1) bl ln)), ce_i qh cI 4 (nZ (mixN (i + 1) pl hm)), ce_i qf cI 4 (nZ (mixN (i + 1) (frF bl pl ea fz T dd sh) fr)), (hB, .inr (0, [.ref qL, .ref qP, .ref qE, .ref qF, .int (iI (((n : Nat) : Int)))])), ce_i qL cI 4 (nZ (bl)), ce_i qP cI 4 (nZ (pl)), ce_i qE cI 4 (nZ (ea)), ce_i qF cZ 4 (bZ (fz))] H := hP
          have hD : va_D A [(hQ, .inr (2, [.ref qb, .ref ql, .ref qh, .ref qf, .ref qg, .ref qa, .ref qo, .ref qt, .int (iI (((n : Nat) : Int))), .int (iI (((bw : Nat) : Int)))])), ce_i ql cI 4 (nZ (mixN (i + 1) bl ln)), ce_i qh cI 4 (nZ (mixN (i + 1) pl hm)), ce_i qf cI 4 (nZ (mixN (i + 1) (frF bl pl ea fz T dd sh) fr)), (hB, .inr (0, [.ref qL, .ref qP, .ref qE, .ref qF, .int (iI (((n : Nat) : Int)))])), ce_i qL cI 4 (nZ (bl)), ce_i qP cI 4 (nZ (pl)), ce_i qE cI 4 (nZ (ea)), ce_i qF cZ 4 (bZ (fz))] := hD
          refine lv_iinc (v := iI (((i + 1 : Nat) : Int))) (lv' := [(5, .int (iI (((i + 1 : Nat) : Int)))), (9, .int (iI (((pl i : Nat) : Int)))), (8, .int (iI (((freeF (daysF ((ea i : Nat) : Int) (((dd : Nat) : Int) - ((bl i : Nat) : Int))) (daysF 0 (((bl i : Nat) : Int) - ((1 : Nat) : Int))) sh (T * 10) : Nat) : Int)))), (7, .int (iI (((daysF ((ea i : Nat) : Int) (((dd : Nat) : Int) - ((bl i : Nat) : Int)) : Nat) : Int)))), (6, .int (iI (((bl i : Nat) : Int)))), (0, .ref hQ), (1, .ref hB), (2, .int (iI (((T : Nat) : Int)))), (3, .int (iI (((dd : Nat) : Int)))), (4, .int (iI (((sh : Nat) : Int))))]) hx hb dX2_load_113 hl (k := 9) rfl (iI_inc _) (by decide) rfl (fun ls hl => ?_)
          refine lv_goto (tgt := 11) hx hb dX2_load_116 (by decide) ?_
          exact ih (i + 1) (by omega) (by omega) _ _ _ hP hD hS (lv_sub hl [5, 6, 7, 8, 9, 0] rfl)
  refine lv_aload_n hx hb dX2_load_0 rfl (lv_at hl 0 rfl) ?_
  refine lv_aload_n hx hb dX2_load_1 rfl (lv_at hl 1 rfl) ?_
  refine va_get (D := D) (ci := 0) (v := .int (iI (((n : Nat) : Int)))) (C := RX0) (T := TX0) (N := 5) hx hb hts in_X0 hown hK hP 4 rfl rfl 4 (by decide) (hts _ (List.mem_cons_of_mem _ tf_X2_40)) (fun _ h9 => h9) rfl dX2_load_2 ?_
  refine va_put (D := D) (ci := 2) (v := .int (iI (((n : Nat) : Int)))) (ty := .int) (C := RX2) (T := TX2) (N := 10) hx hb hts in_X2 tyX2 tyX2_ok nmX2 hown hK hP hD hS 0 rfl rfl 8 (by decide) (hts _ (List.mem_cons_of_mem _ tf_X2_45)) (fun _ h9 => h9) rfl (by decide +kernel) rfl rfl (Nat.le_of_ble_eq_true rfl) dX2_load_5 (fun H locs hP hD hS => ?_)
  have hP : va_P D vwCl [(hQ, .inr (2, [.ref qb, .ref ql, .ref qh, .ref qf, .ref qg, .ref qa, .ref qo, .ref qt, .int (iI (((n : Nat) : Int))), .int (iI (((bw : Nat) : Int)))])), ce_i ql cI 4 (nZ (ln)), ce_i qh cI 4 (nZ (hm)), ce_i qf cI 4 (nZ (fr)), (hB, .inr (0, [.ref qL, .ref qP, .ref qE, .ref qF, .int (iI (((n : Nat) : Int)))])), ce_i qL cI 4 (nZ (bl)), ce_i qP cI 4 (nZ (pl)), ce_i qE cI 4 (nZ (ea)), ce_i qF cZ 4 (bZ (fz))] H := hP
  have hD : va_D A [(hQ, .inr (2, [.ref qb, .ref ql, .ref qh, .ref qf, .ref qg, .ref qa, .ref qo, .ref qt, .int (iI (((n : Nat) : Int))), .int (iI (((bw : Nat) : Int)))])), ce_i ql cI 4 (nZ (ln)), ce_i qh cI 4 (nZ (hm)), ce_i qf cI 4 (nZ (fr)), (hB, .inr (0, [.ref qL, .ref qP, .ref qE, .ref qF, .int (iI (((n : Nat) : Int)))])), ce_i qL cI 4 (nZ (bl)), ce_i qP cI 4 (nZ (pl)), ce_i qE cI 4 (nZ (ea)), ce_i qF cZ 4 (bZ (fz))] := hD
  refine lv_iconst (v := iI (((0 : Nat) : Int))) hx hb dX2_load_8 (by decide +kernel) ?_
  refine lv_istore (lv' := [(5, .int (iI (((0 : Nat) : Int)))), (0, .ref hQ), (1, .ref hB), (2, .int (iI (((T : Nat) : Int)))), (3, .int (iI (((dd : Nat) : Int)))), (4, .int (iI (((sh : Nat) : Int))))]) hx hb dX2_load_9 hl (by decide) rfl (fun ls hl => ?_)
  rw [← mixN_0 bl ln, ← mixN_0 pl hm, ← mixN_0 (frF bl pl ea fz T dd sh) fr] at hP hD
  exact K11 (n - (0) + 1) (0) (Nat.lt_succ_self _) (by omega) _ _ _ hP hD hS (lv_sub hl [1, 2, 3, 4, 5, 0] rfl)

set_option maxHeartbeats 4000000 in
set_option maxRecDepth 100000 in
theorem k_X2_leavesRoom (l : Launch) (D : va_G) (cI cZ : ClassId) (sz : Nat) (hQ : Nat) (qb : Nat) (ql : Nat) (qh : Nat) (qf : Nat) (qg : Nat) (qa : Nat) (qo : Nat) (qt : Nat) (n : Nat) (bw : Nat) (ln : Nat → Nat) (lg : Nat → Int) (ap : Nat → Nat) (op : Nat → Nat) (b : Nat) (q : Nat) (hn : n ≤ 4) (hbn : b < n) (hq : q < 30) (hln : ∀ j, ln j ≤ 10) (hlg : ∀ j, -10 ≤ lg j ∧ lg j ≤ 10) (hap : ∀ j, ap j < 16) (hop : ∀ j, op j < 1073741824) : Ci l yX2_leavesRoom wsX2_leavesRoom (rmD 3) D vwCl [(cI, .int), (cZ, .boolean)] [.ref hQ, .int (iI (((b : Nat) : Int))), .int (iI (((q : Nat) : Int)))] [(hQ, .inr (2, [.ref qb, .ref ql, .ref qh, .ref qf, .ref qg, .ref qa, .ref qo, .ref qt, .int (iI (((n : Nat) : Int))), .int (iI (((bw : Nat) : Int)))])), ce_i ql cI 4 (nZ (ln)), ce_i qg cI 16 (lg), ce_i qa cI 4 (nZ (ap)), ce_i qo cI 16 (nZ (op))] sz (fun z w => ∃ rz : Bool, ∃ op2 : Nat → Nat, w = [(hQ, .inr (2, [.ref qb, .ref ql, .ref qh, .ref qf, .ref qg, .ref qa, .ref qo, .ref qt, .int (iI (((n : Nat) : Int))), .int (iI (((bw : Nat) : Int)))])), ce_i ql cI 4 (nZ (ln)), ce_i qg cI 16 (lg), ce_i qa cI 4 (nZ (ap)), ce_i qo cI 16 (nZ (op2))] ∧ (z = b2z (rz)) ∧ (∀ j, op2 j < 1073741824) ∧ (∀ j, j < b * 4 + 4 → op2 j = op j) ∧ (rz = true → ∀ j, b < j → j < n → op2 (b * 4 + 4 + j) = op (b * 4 + j) &&& besF ln lg ap b q j) ∧ (rz = false → ∃ j, b < j ∧ j < n ∧ op (b * 4 + j) &&& besF ln lg ap b q j = 0)) 0 0 := by
  refine Cz_of (cc := cX2_leavesRoom) (nL := 6) (by decide) rfl (Nat.le_of_ble_eq_true rfl) ?_
  intro p e s m below meth c A Q hsz C hK hN hA hP hD hS hret ls hl
  obtain ⟨hx, hb, hml, hown, hts⟩ := id C
  have hown : s.vm.findClass RX2 = some m.cls := hown
  have hl : lv_has ls 6 [(0, .ref hQ), (1, .int (iI (((b : Nat) : Int)))), (2, .int (iI (((q : Nat) : Int))))] := hl
  have in_X2 : ∀ w ∈ u_ws RX2 TX2 10, w ∈ wsX2_leavesRoom := fun w h => List.mem_cons_of_mem _ (inX2 w h)
  have K9 : ∀ (fu : Nat) (o : Nat) (o1 : Nat → Nat), n - o < fu → (b < o ∧ o ≤ n) → (∀ j, o1 j < 1073741824) → (∀ j, j < b * 4 + 4 → o1 j = op j) → (∀ j, b < j → j < o → o1 (b * 4 + 4 + j) = op (b * 4 + j) &&& besF ln lg ap b q j) → ∀ (H : Heap) (locs : List Loc) (ls : Array Slot), va_P D vwCl [(hQ, .inr (2, [.ref qb, .ref ql, .ref qh, .ref qf, .ref qg, .ref qa, .ref qo, .ref qt, .int (iI (((n : Nat) : Int))), .int (iI (((bw : Nat) : Int)))])), ce_i ql cI 4 (nZ (ln)), ce_i qg cI 16 (lg), ce_i qa cI 4 (nZ (ap)), ce_i qo cI 16 (nZ (o1))] H → va_D A [(hQ, .inr (2, [.ref qb, .ref ql, .ref qh, .ref qf, .ref qg, .ref qa, .ref qo, .ref qt, .int (iI (((n : Nat) : Int))), .int (iI (((bw : Nat) : Int)))])), ce_i ql cI 4 (nZ (ln)), ce_i qg cI 16 (lg), ce_i qa cI 4 (nZ (ap)), ce_i qo cI 16 (nZ (o1))] → va_S A s.heap H locs → lv_has ls 6 [(0, .ref hQ), (1, .int (iI (((b : Nat) : Int)))), (2, .int (iI (((q : Nat) : Int)))), (3, .int (iI (((b * 4 : Nat) : Int)))), (4, .int (iI (((o : Nat) : Int))))] → W p l e (rmD 3) s m ([.ref hQ, .int (iI (((b : Nat) : Int))), .int (iI (((q : Nat) : Int)))] : List Value).toArray below meth c H locs 0 0 Q (F0 m 9 ls []) := by
    intro fu
    induction fu with
    | zero => intro o o1 hmu; exact absurd hmu (Nat.not_lt_zero _)
    | succ fu ih =>
      intro o o1 hmu ho hB hK1 hR1 H locs ls hP hD hS hl
      refine lv_iload hx hb dX2_leavesRoom_9 (lv_at hl 4 rfl) ?_
      refine lv_aload_n hx hb dX2_leavesRoom_11 rfl (lv_at hl 0 rfl) ?_
      refine va_get (D := D) (ci := 2) (v := .int (iI (((n : Nat) : Int)))) (C := RX2) (T := TX2) (N := 10) hx hb hts in_X2 hown hK hP 0 rfl rfl 8 (by decide) (hts _ (List.mem_cons_of_mem _ tf_X2_45)) (fun _ h9 => h9) rfl dX2_leavesRoom_12 ?_
      refine rz_cge (tgt := 64) hx hb dX2_leavesRoom_15 (by decide) (by omega) (by omega) (fun c1 => ?_) (fun c1 => ?_)
      · refine lv_iconst (v := iI (((1 : Nat) : Int))) hx hb dX2_leavesRoom_64 (by decide +kernel) ?_
        exact hret _ _ _ _ _ _ dX2_leavesRoom_65 (Or.inr rfl) ⟨true, _, rfl, rfl, hB, hK1, (fun _ j h1 h2 => hR1 j h1 (by omega)), (fun h => nomatch h)⟩ hP hD hS
      · refine lv_aload_n hx hb dX2_leavesRoom_18 rfl (lv_at hl 0 rfl) ?_
        refine va_get (D := D) (ci := 2) (v := .ref qo) (C := RX2) (T := TX2) (N := 10) hx hb hts in_X2 hown hK hP 0 rfl rfl 6 (by decide) (hts _ (List.mem_cons_of_mem _ tf_X2_30)) (fun _ h9 => h9) rfl dX2_leavesRoom_19 ?_
        refine lv_iload_n hx hb dX2_leavesRoom_22 rfl (lv_at hl 3 rfl) ?_
        refine lv_iload hx hb dX2_leavesRoom_23 (lv_at hl 4 rfl) ?_
        refine rn_add hx hb dX2_leavesRoom_25 ?_
        refine rn_aldM hx hb hK hP 4 0 rfl rfl (by omega) (by omega) dX2_leavesRoom_26 ?_
        refine lv_aload_n hx hb dX2_leavesRoom_27 rfl (lv_at hl 0 rfl) ?_
        refine lv_iload_n hx hb dX2_leavesRoom_28 rfl (lv_at hl 1 rfl) ?_
        refine lv_iload_n hx hb dX2_leavesRoom_29 rfl (lv_at hl 2 rfl) ?_
        refine lv_iload hx hb dX2_leavesRoom_30 (lv_at hl 4 rfl) ?_
        have hPc := hP.sub (ws' := [(hQ, .inr (2, [.ref qb, .ref ql, .ref qh, .ref qf, .ref qg, .ref qa, .ref qo, .ref qt, .int (iI (((n : Nat) : Int))), .int (iI (((bw : Nat) : Int)))])), ce_i ql cI 4 (nZ (ln)), ce_i qg cI 16 (lg), ce_i qa cI 4 (nZ (ap))]) [0, 1, 2, 3] rfl
        have hDc := hD.sub (ws' := [(hQ, .inr (2, [.ref qb, .ref ql, .ref qh, .ref qf, .ref qg, .ref qa, .ref qo, .ref qt, .int (iI (((n : Nat) : Int))), .int (iI (((bw : Nat) : Int)))])), ce_i ql cI 4 (nZ (ln)), ce_i qg cI 16 (lg), ce_i qa cI 4 (nZ (ap))]) [0, 1, 2, 3] (by decide) rfl
        refine rz_calliR (va_runV (As := [.int (iI (((b : Nat) : Int))), .int (iI (((q : Nat) : Int))), .int (iI (((o : Nat) : Int)))]) (rest := [.int (iI (((o1 ((b * 4) + o) : Nat) : Int)))]) ⟨hx, hb, hml, hown, hts⟩ (k_X2_openBeside l D cI cZ H.size hQ qb ql qh qf qg qa qo qt n bw ln lg ap b q o (by omega) (by omega) (by omega) hln hlg hap) (cwV 3 hts (gG (g_V tm_X2_152 ti_X2_openBeside tse_X2_openBeside tin_X2 cmX2_openBeside)) rfl rfl rfl (by decide +kernel) ⟨Nat.le_of_ble_eq_true rfl, Nat.le_of_ble_eq_true rfl⟩) ⟨cP_blind, va_recv hK hPc (ci := 2) (q0 := 0) rfl rfl, cP_pre hPc hK hN hDc⟩ rfl rfl hl.1 rfl (lv_room (Nat.le_of_ble_eq_true rfl)) dX2_leavesRoom_32 ⟨Nat.le_refl _, Nat.le_refl _⟩) hP hD hS hA [0, 1, 2, 3] rfl (fun z2 H locs hp hP hS => ?_)
        subst hp
        refine rz_and hx hb dX2_leavesRoom_35 ?_
        refine lv_istore (lv' := [(5, .int (iI ((((o1 ((b * 4) + o)) &&& (besF ln lg ap b q o) : Nat) : Int)))), (0, .ref hQ), (1, .int (iI (((b : Nat) : Int)))), (2, .int (iI (((q : Nat) : Int)))), (3, .int (iI (((b * 4 : Nat) : Int)))), (4, .int (iI (((o : Nat) : Int))))]) hx hb dX2_leavesRoom_36 hl (by decide) rfl (fun ls hl => ?_)
        refine lv_iload hx hb dX2_leavesRoom_38 (lv_at hl 0 rfl) ?_
        refine rz_ine (tgt := 45) hx hb dX2_leavesRoom_40 (by decide) (by have := and_lt (y := besF ln lg ap b q o) (hB (b * 4 + o)); omega) (fun c3 => ?_) (fun c3 => ?_)
        · refine lv_aload_n hx hb dX2_leavesRoom_45 rfl (lv_at hl 1 rfl) ?_
          refine va_get (D := D) (ci := 2) (v := .ref qo) (C := RX2) (T := TX2) (N := 10) hx hb hts in_X2 hown hK hP 0 rfl rfl 6 (by decide) (hts _ (List.mem_cons_of_mem _ tf_X2_30)) (fun _ h9 => h9) rfl dX2_leavesRoom_46 ?_
          refine lv_iload_n hx hb dX2_leavesRoom_49 rfl (lv_at hl 4 rfl) ?_
          refine lv_iconst (v := iI (((4 : Nat) : Int))) hx hb dX2_leavesRoom_50 (by decide +kernel) ?_
          refine rn_add hx hb dX2_leavesRoom_51 ?_
          refine lv_iload hx hb dX2_leavesRoom_52 (lv_at hl 5 rfl) ?_
          refine rn_add hx hb dX2_leavesRoom_54 ?_
          refine lv_iload hx hb dX2_leavesRoom_55 (lv_at hl 0 rfl) ?_
          refine rn_astM hx hb hK hP hD hS 4 0 rfl rfl (by omega) (by omega) dX2_leavesRoom_57 (fun H locs hP hD hS => ?_)
          have hP : va_P D vwCl [(hQ, .inr (2, [.ref qb, .ref ql, .ref qh, .ref qf, .ref qg, .ref qa, .ref qo, .ref qt, .int (iI (((n : Nat) : Int))), .int (iI (((bw : Nat) : Int)))])), ce_i ql cI 4 (nZ (ln)), ce_i qg cI 16 (lg), ce_i qa cI 4 (nZ (ap)), ce_i qo cI 16 (nZ (uN o1 (((b * 4) + 4) + o) ((o1 ((b * 4) + o)) &&& (besF ln lg ap b q o))))] H := hP
          have hD : va_D A [(hQ, .inr (2, [.ref qb, .ref ql, .ref qh, .ref qf, .ref qg, .ref qa, .ref qo, .ref qt, .int (iI (((n : Nat) : Int))), .int (iI (((bw : Nat) : Int)))])), ce_i ql cI 4 (nZ (ln)), ce_i qg cI 16 (lg), ce_i qa cI 4 (nZ (ap)), ce_i qo cI 16 (nZ (uN o1 (((b * 4) + 4) + o) ((o1 ((b * 4) + o)) &&& (besF ln lg ap b q o))))] := hD
          refine lv_iinc (v := iI (((o + 1 : Nat) : Int))) (lv' := [(4, .int (iI (((o + 1 : Nat) : Int)))), (5, .int (iI ((((o1 ((b * 4) + o)) &&& (besF ln lg ap b q o) : Nat) : Int)))), (0, .ref hQ), (1, .int (iI (((b : Nat) : Int)))), (2, .int (iI (((q : Nat) : Int)))), (3, .int (iI (((b * 4 : Nat) : Int))))]) hx hb dX2_leavesRoom_58 hl (k := 5) rfl (iI_inc _) (by decide) rfl (fun ls hl => ?_)
          refine lv_goto (tgt := 9) hx hb dX2_leavesRoom_61 (by decide) ?_
          exact ih (o + 1) (uN o1 (((b * 4) + 4) + o) ((o1 ((b * 4) + o)) &&& (besF ln lg ap b q o))) (by omega) (by omega) (uN_all (P := fun x => x < 1073741824) hB _ (and_lt (hB _))) (fun j h => by rw [uN_n _ _ (by omega)]; exact hK1 j h) (fun j h1 h2 => by by_cases e : j = o; (rw [e, uN_s, hK1 (b * 4 + o) (by omega)]); (rw [uN_n _ _ (by omega)]; exact hR1 j h1 (by omega))) _ _ _ hP hD hS (lv_sub hl [2, 3, 4, 5, 0] rfl)
        · refine lv_iconst (v := iI (((0 : Nat) : Int))) hx hb dX2_leavesRoom_43 (by decide +kernel) ?_
          exact hret _ _ _ _ _ _ dX2_leavesRoom_44 (Or.inl rfl) ⟨false, _, rfl, rfl, hB, hK1, (fun h => nomatch h), (fun _ => ⟨o, by omega, by omega, by rw [← hK1 (b * 4 + o) (by omega)]; omega⟩)⟩ hP hD hS
  refine lv_iload_n hx hb dX2_leavesRoom_0 rfl (lv_at hl 1 rfl) ?_
  refine lv_iconst (v := iI (((4 : Nat) : Int))) hx hb dX2_leavesRoom_1 (by decide +kernel) ?_
  refine rn_mul hx hb dX2_leavesRoom_2 ?_
  refine lv_istore_n (lv' := [(3, .int (iI (((b * 4 : Nat) : Int)))), (0, .ref hQ), (1, .int (iI (((b : Nat) : Int)))), (2, .int (iI (((q : Nat) : Int))))]) hx hb dX2_leavesRoom_3 rfl hl (by decide) rfl (fun ls hl => ?_)
  refine lv_iload_n hx hb dX2_leavesRoom_4 rfl (lv_at hl 2 rfl) ?_
  refine lv_iconst (v := iI (((1 : Nat) : Int))) hx hb dX2_leavesRoom_5 (by decide +kernel) ?_
  refine rn_add hx hb dX2_leavesRoom_6 ?_
  refine lv_istore (lv' := [(4, .int (iI (((b + 1 : Nat) : Int)))), (3, .int (iI (((b * 4 : Nat) : Int)))), (0, .ref hQ), (1, .int (iI (((b : Nat) : Int)))), (2, .int (iI (((q : Nat) : Int))))]) hx hb dX2_leavesRoom_7 hl (by decide) rfl (fun ls hl => ?_)
  exact K9 (n - (b + 1) + 1) (b + 1) (op) (Nat.lt_succ_self _) (by omega) hop (fun j _ => rfl) (fun j h1 h2 => absurd h2 (by omega)) _ _ _ hP hD hS (lv_sub hl [2, 3, 4, 1, 0] rfl)
end
section
/-! Search: any good plan; the best one -/
/-- the batches from b on stand in their open places, and beside each other -/
def SolF (ln : Nat → Nat) (lg : Nat → Int) (ap : Nat → Nat) (n b : Nat) (r P : Nat → Nat) : Prop := (∀ j, b ≤ j → j < n → (r j).testBit (P j) = true) ∧ ∀ i j, b ≤ i → i < j → j < n → (besF ln lg ap i (P i) j).testBit (P j) = true
section SO
variable {ln ap r r2 P hm : Nat → Nat} {lg : Nat → Int} {n b q : Nat}
theorem sol_skip0 (hb : b < n) (hc : (r b).testBit q = false) (hno : ∀ P, SolF ln lg ap n b r P → q ≤ P b) : ∀ P, SolF ln lg ap n b r P → q + 1 ≤ P b := by
  intro P h
  have h1 := hno P h
  have h2 : P b ≠ q := fun e => by have h3 := h.1 b (Nat.le_refl b) hb; rw [e, hc] at h3; cases h3
  omega
theorem sol_down (hb : b < n) (hr2 : ∀ j, b < j → j < n → r2 j = r j &&& besF ln lg ap b q j) (h : SolF ln lg ap n b r P) (e : P b = q) : SolF ln lg ap n (b + 1) r2 P := by
  refine ⟨fun j h1 h2 => ?_, fun i j h1 h2 h3 => h.2 i j (by omega) h2 h3⟩
  rw [hr2 j (by omega) h2, Nat.testBit_and, h.1 j (by omega) h2, ← e, h.2 b j (Nat.le_refl b) (by omega) h2]; rfl
theorem sol_up (hb : b < n) (hc : (r b).testBit q = true) (hr2 : ∀ j, b < j → j < n → r2 j = r j &&& besF ln lg ap b q j) (h : SolF ln lg ap n (b + 1) r2 P) (e : P b = q) : SolF ln lg ap n b r P := by
  refine ⟨fun j h1 h2 => ?_, fun i j h1 h2 h3 => ?_⟩
  · by_cases hj : j = b
    · rw [hj, e]; exact hc
    · have h4 := h.1 j (by omega) h2
      rw [hr2 j (by omega) h2, Nat.testBit_and] at h4
      simp at h4; exact h4.1
  · by_cases hi : i = b
    · have h4 := h.1 j (by omega) h3
      rw [hr2 j (by omega) h3, Nat.testBit_and] at h4
      simp at h4; rw [hi, e]; exact h4.2
    · exact h.2 i j (by omega) h2 h3
theorem sol_upd (hb : b < n) (hc : (r b).testBit q = true) (hr2 : ∀ j, b < j → j < n → r2 j = r j &&& besF ln lg ap b q j) (h : SolF ln lg ap n (b + 1) r2 P) : SolF ln lg ap n b r (uN P b q) := by
  refine sol_up hb hc hr2 ⟨fun j h1 h2 => ?_, fun i j h1 h2 h3 => ?_⟩ (uN_s _ _ _)
  · rw [uN_n _ _ (by omega)]; exact h.1 j h1 h2
  · rw [uN_n _ _ (by omega), uN_n _ _ (by omega)]; exact h.2 i j h1 h2 h3
theorem sol_no1 {j : Nat} (h1 : b < j) (h2 : j < n) (h0 : r j &&& besF ln lg ap b q j = 0) (h : SolF ln lg ap n b r P) : P b ≠ q := by
  intro e
  have h3 : (r j &&& besF ln lg ap b q j).testBit (P j) = true := by
    rw [Nat.testBit_and, h.1 j (by omega) h2, ← e, h.2 b j (Nat.le_refl b) h1 h2]; rfl
  rw [h0, Nat.zero_testBit] at h3; cases h3
theorem sol_skip1 {j : Nat} (h1 : b < j) (h2 : j < n) (h0 : r j &&& besF ln lg ap b q j = 0) (hno : ∀ P, SolF ln lg ap n b r P → q ≤ P b) : ∀ P, SolF ln lg ap n b r P → q + 1 ≤ P b := by
  intro P h
  have := hno P h
  have := sol_no1 h1 h2 h0 h
  omega
theorem sol_skip2 (hb : b < n) (hr2 : ∀ j, b < j → j < n → r2 j = r j &&& besF ln lg ap b q j) (hn2 : ∀ P, ¬ SolF ln lg ap n (b + 1) r2 P) (hno : ∀ P, SolF ln lg ap n b r P → q ≤ P b) : ∀ P, SolF ln lg ap n b r P → q + 1 ≤ P b := by
  intro P h
  have h1 := hno P h
  have h2 : P b ≠ q := fun e => hn2 P (sol_down hb hr2 h e)
  omega
end SO

set_option maxHeartbeats 4000000 in
set_option maxRecDepth 100000 in
theorem k_X2_canPutFrom (l : Launch) (D : va_G) (cI cZ : ClassId) : ∀ (kf : Nat) (sz : Nat) (hQ : Nat) (qb : Nat) (ql : Nat) (qh : Nat) (qf : Nat) (qg : Nat) (qa : Nat) (qo : Nat) (qt : Nat) (n : Nat) (bw : Nat) (ln : Nat → Nat) (lg : Nat → Int) (ap : Nat → Nat) (op : Nat → Nat) (b : Nat), (n ≤ 4) → (b ≤ n) → (n ≤ b + kf) → (∀ j, ln j ≤ 10) → (∀ j, -10 ≤ lg j ∧ lg j ≤ 10) → (∀ j, ap j < 16) → (∀ j, op j < 1073741824) → Ci l yX2_canPutFrom wsX2_canPutFrom (rmD (kf + 4)) D vwCl [(cI, .int), (cZ, .boolean)] [.ref hQ, .int (iI (((b : Nat) : Int)))] [(hQ, .inr (2, [.ref qb, .ref ql, .ref qh, .ref qf, .ref qg, .ref qa, .ref qo, .ref qt, .int (iI (((n : Nat) : Int))), .int (iI (((bw : Nat) : Int)))])), ce_i ql cI 4 (nZ (ln)), ce_i qg cI 16 (lg), ce_i qa cI 4 (nZ (ap)), ce_i qo cI 16 (nZ (op))] sz (fun z w => ∃ rz : Bool, ∃ op2 : Nat → Nat, w = [(hQ, .inr (2, [.ref qb, .ref ql, .ref qh, .ref qf, .ref qg, .ref qa, .ref qo, .ref qt, .int (iI (((n : Nat) : Int))), .int (iI (((bw : Nat) : Int)))])), ce_i ql cI 4 (nZ (ln)), ce_i qg cI 16 (lg), ce_i qa cI 4 (nZ (ap)), ce_i qo cI 16 (nZ (op2))] ∧ (z = b2z (rz)) ∧ (∀ j, op2 j < 1073741824) ∧ (∀ j, j < b * 4 + 4 → op2 j = op j) ∧ (rz = true → ∃ P, SolF ln lg ap n b (fun j => op (b * 4 + j)) P) ∧ (rz = false → ∀ P, ¬ SolF ln lg ap n b (fun j => op (b * 4 + j)) P)) 0 0 := by
  intro kf
  induction kf with
  | zero =>
    intro sz hQ qb ql qh qf qg qa qo qt n bw ln lg ap op b hn hbn hkf hln hlg hap hop
    refine Cz_of (cc := cX2_canPutFrom) (nL := 5) (by decide) rfl (Nat.le_of_ble_eq_true rfl) ?_
    intro p e s m below meth c A Q hsz C hK hN hA hP hD hS hret ls hl
    obtain ⟨hx, hb, hml, hown, hts⟩ := id C
    have hown : s.vm.findClass RX2 = some m.cls := hown
    have hl : lv_has ls 5 [(0, .ref hQ), (1, .int (iI (((b : Nat) : Int))))] := hl
    have in_X2 : ∀ w ∈ u_ws RX2 TX2 10, w ∈ wsX2_canPutFrom := fun w h => List.mem_cons_of_mem _ (inX2 w h)
    refine lv_iload_n hx hb dX2_canPutFrom_0 rfl (lv_at hl 1 rfl) ?_
    refine lv_aload_n hx hb dX2_canPutFrom_1 rfl (lv_at hl 0 rfl) ?_
    refine va_get (D := D) (ci := 2) (v := .int (iI (((n : Nat) : Int)))) (C := RX2) (T := TX2) (N := 10) hx hb hts in_X2 hown hK hP 0 rfl rfl 8 (by decide) (hts _ (List.mem_cons_of_mem _ tf_X2_45)) (fun _ h9 => h9) rfl dX2_canPutFrom_2 ?_
    refine rz_clt (tgt := 10) hx hb dX2_canPutFrom_5 (by decide) (by omega) (by omega) (fun c1 => ?_) (fun c1 => ?_)
    · exfalso; omega
    · refine lv_iconst (v := iI (((1 : Nat) : Int))) hx hb dX2_canPutFrom_8 (by decide +kernel) ?_
      exact hret _ _ _ _ _ _ dX2_canPutFrom_9 (Or.inr rfl) ⟨true, _, rfl, rfl, hop, (fun _ _ => rfl), (fun _ => ⟨fun _ => 0, fun j h1 h2 => absurd h2 (by omega), fun i j h1 h2 h3 => absurd h3 (by omega)⟩), (fun h => nomatch h)⟩ hP hD hS
  | succ kf ihR =>
    intro sz hQ qb ql qh qf qg qa qo qt n bw ln lg ap op b hn hbn hkf hln hlg hap hop
    refine Cz_of (cc := cX2_canPutFrom) (nL := 5) (by decide) rfl (Nat.le_of_ble_eq_true rfl) ?_
    intro p e s m below meth c A Q hsz C hK hN hA hP hD hS hret ls hl
    obtain ⟨hx, hb, hml, hown, hts⟩ := id C
    have hown : s.vm.findClass RX2 = some m.cls := hown
    have hl : lv_has ls 5 [(0, .ref hQ), (1, .int (iI (((b : Nat) : Int))))] := hl
    have in_X2 : ∀ w ∈ u_ws RX2 TX2 10, w ∈ wsX2_canPutFrom := fun w h => List.mem_cons_of_mem _ (inX2 w h)
    have K23 : ∀ (fu : Nat) (q : Nat) (o1 : Nat → Nat), 30 - q < fu → (q ≤ 30) → (b < n) → (∀ j, o1 j < 1073741824) → (∀ j, j < b * 4 + 4 → o1 j = op j) → (∀ P, SolF ln lg ap n b (fun j => op (b * 4 + j)) P → q ≤ P b) → ∀ (H : Heap) (locs : List Loc) (ls : Array Slot), va_P D vwCl [(hQ, .inr (2, [.ref qb, .ref ql, .ref qh, .ref qf, .ref qg, .ref qa, .ref qo, .ref qt, .int (iI (((n : Nat) : Int))), .int (iI (((bw : Nat) : Int)))])), ce_i ql cI 4 (nZ (ln)), ce_i qg cI 16 (lg), ce_i qa cI 4 (nZ (ap)), ce_i qo cI 16 (nZ (o1))] H → va_D A [(hQ, .inr (2, [.ref qb, .ref ql, .ref qh, .ref qf, .ref qg, .ref qa, .ref qo, .ref qt, .int (iI (((n : Nat) : Int))), .int (iI (((bw : Nat) : Int)))])), ce_i ql cI 4 (nZ (ln)), ce_i qg cI 16 (lg), ce_i qa cI 4 (nZ (ap)), ce_i qo cI 16 (nZ (o1))] → va_S A s.heap H locs → lv_has ls 5 [(0, .ref hQ), (1, .int (iI (((b : Nat) : Int)))), (2, .int (iI (((op (b * 4 + b) : Nat) : Int)))), (3, .int (iI (((q : Nat) : Int))))] → W p l e (rmD (kf + 1 + 4)) s m ([.ref hQ, .int (iI (((b : Nat) : Int)))] : List Value).toArray below meth c H locs 0 0 Q (F0 m 23 ls []) := by
      intro fu
      induction fu with
      | zero => intro q o1 hmu; exact absurd hmu (Nat.not_lt_zero _)
      | succ fu ih =>
        intro q o1 hmu hq hb9 hB hK1 hno H locs ls hP hD hS hl
        refine lv_iload_n hx hb dX2_canPutFrom_23 rfl (lv_at hl 3 rfl) ?_
        refine lv_bipush (v := iI (((30 : Nat) : Int))) hx hb dX2_canPutFrom_24 (by decide +kernel) ?_
        refine rz_cge (tgt := 76) hx hb dX2_canPutFrom_26 (by decide) (by omega) (by omega) (fun c1 => ?_) (fun c1 => ?_)
        · refine lv_iconst (v := iI (((0 : Nat) : Int))) hx hb dX2_canPutFrom_76 (by decide +kernel) ?_
          exact hret _ _ _ _ _ _ dX2_canPutFrom_77 (Or.inl rfl) ⟨false, _, rfl, rfl, hB, hK1, (fun h => nomatch h), (fun _ P h => by have h1 := hno P h; have h2 := bit_30 (hop _) (h.1 b (Nat.le_refl b) hb9); omega)⟩ hP hD hS
        · refine lv_iload_n hx hb dX2_canPutFrom_29 rfl (lv_at hl 2 rfl) ?_
          refine lv_iload_n hx hb dX2_canPutFrom_30 rfl (lv_at hl 3 rfl) ?_
          refine rz_shr hx hb dX2_canPutFrom_31 (by omega) (by have := hop (b * 4 + b); omega) ?_
          refine lv_iconst (v := iI (((1 : Nat) : Int))) hx hb dX2_canPutFrom_32 (by decide +kernel) ?_
          refine rz_and hx hb dX2_canPutFrom_33 ?_
          refine rz_ieq (tgt := 41) hx hb dX2_canPutFrom_34 (by decide) (by have := tb_r (op (b * 4 + b)) q; omega) (fun c2 => ?_) (fun c2 => ?_)
          · have c2 := tb_f c2
            refine lv_iconst (v := iI (((0 : Nat) : Int))) hx hb dX2_canPutFrom_41 (by decide +kernel) ?_
            refine lv_istore (lv' := [(4, .int (iI (((0 : Nat) : Int)))), (0, .ref hQ), (1, .int (iI (((b : Nat) : Int)))), (2, .int (iI (((op (b * 4 + b) : Nat) : Int)))), (3, .int (iI (((q : Nat) : Int))))]) hx hb dX2_canPutFrom_42 hl (by decide) rfl (fun ls hl => ?_)
            refine lv_iload hx hb dX2_canPutFrom_44 (lv_at hl 0 rfl) ?_
            refine rz_ieq (tgt := 70) hx hb dX2_canPutFrom_46 (by decide) (by omega) (fun c3 => ?_) (fun c3 => ?_)
            · refine lv_iinc (v := iI (((q + 1 : Nat) : Int))) (lv' := [(3, .int (iI (((q + 1 : Nat) : Int)))), (4, .int (iI (((0 : Nat) : Int)))), (0, .ref hQ), (1, .int (iI (((b : Nat) : Int)))), (2, .int (iI (((op (b * 4 + b) : Nat) : Int))))]) hx hb dX2_canPutFrom_70 hl (k := 4) rfl (iI_inc _) (by decide) rfl (fun ls hl => ?_)
              refine lv_goto (tgt := 23) hx hb dX2_canPutFrom_73 (by decide) ?_
              exact ih (q + 1) (o1) (by omega) (by omega) (by omega) (by first | exact g1 | exact f1 | exact hB) (by first | exact (fun j h => by rw [g2 j (by omega), f2 j h, hK1 j h]) | exact (fun j h => by rw [f2 j h, hK1 j h]) | exact hK1) (by first | exact sol_skip2 (r2 := fun j => o2 ((b + 1) * 4 + j)) hb9 hr2 hno2 hno | (obtain ⟨j, h1, h2, h3⟩ := hlr; rw [hK1 _ (by omega)] at h3; exact sol_skip1 h1 h2 h3 hno) | exact sol_skip0 hb9 (by assumption) hno) _ _ _ hP hD hS (lv_sub hl [2, 3, 4, 0] rfl)
            · exfalso; omega
          · have hch := tb_t c2
            refine lv_iconst (v := iI (((1 : Nat) : Int))) hx hb dX2_canPutFrom_37 (by decide +kernel) ?_
            refine lv_goto (tgt := 42) hx hb dX2_canPutFrom_38 (by decide) ?_
            refine lv_istore (lv' := [(4, .int (iI (((1 : Nat) : Int)))), (0, .ref hQ), (1, .int (iI (((b : Nat) : Int)))), (2, .int (iI (((op (b * 4 + b) : Nat) : Int)))), (3, .int (iI (((q : Nat) : Int))))]) hx hb dX2_canPutFrom_42 hl (by decide) rfl (fun ls hl => ?_)
            refine lv_iload hx hb dX2_canPutFrom_44 (lv_at hl 0 rfl) ?_
            refine rz_ieq (tgt := 70) hx hb dX2_canPutFrom_46 (by decide) (by omega) (fun c4 => ?_) (fun c4 => ?_)
            · exfalso; omega
            · refine lv_aload_n hx hb dX2_canPutFrom_49 rfl (lv_at hl 1 rfl) ?_
              refine lv_iload_n hx hb dX2_canPutFrom_50 rfl (lv_at hl 2 rfl) ?_
              refine lv_iload_n hx hb dX2_canPutFrom_51 rfl (lv_at hl 4 rfl) ?_
              have hPc := hP.sub (ws' := [(hQ, .inr (2, [.ref qb, .ref ql, .ref qh, .ref qf, .ref qg, .ref qa, .ref qo, .ref qt, .int (iI (((n : Nat) : Int))), .int (iI (((bw : Nat) : Int)))])), ce_i ql cI 4 (nZ (ln)), ce_i qg cI 16 (lg), ce_i qa cI 4 (nZ (ap)), ce_i qo cI 16 (nZ (o1))]) [0, 1, 2, 3, 4] rfl
              have hDc := hD.sub (ws' := [(hQ, .inr (2, [.ref qb, .ref ql, .ref qh, .ref qf, .ref qg, .ref qa, .ref qo, .ref qt, .int (iI (((n : Nat) : Int))), .int (iI (((bw : Nat) : Int)))])), ce_i ql cI 4 (nZ (ln)), ce_i qg cI 16 (lg), ce_i qa cI 4 (nZ (ap)), ce_i qo cI 16 (nZ (o1))]) [0, 1, 2, 3, 4] (by decide) rfl
              refine rz_calli (va_runV (As := [.int (iI (((b : Nat) : Int))), .int (iI (((q : Nat) : Int)))]) (rest := []) ⟨hx, hb, hml, hown, hts⟩ (k_X2_leavesRoom l D cI cZ H.size hQ qb ql qh qf qg qa qo qt n bw ln lg ap o1 b q (by omega) (by omega) (by omega) hln hlg hap hB) (cwV 2 hts (gG (g_V tm_X2_136 ti_X2_leavesRoom tse_X2_leavesRoom tin_X2 cmX2_leavesRoom)) rfl rfl rfl (by decide +kernel) ⟨by simp only [rmD]; omega, by simp only [rmD]; omega⟩) ⟨cP_blind, va_recv hK hPc (ci := 2) (q0 := 0) rfl rfl, cP_pre hPc hK hN hDc⟩ rfl rfl hl.1 rfl (lv_room (Nat.le_of_ble_eq_true rfl)) dX2_canPutFrom_52 ⟨Nat.le_refl _, Nat.le_refl _⟩) hP hD hS hA [0, 1, 2, 3, 4] [] rfl (wr := []) rfl (by decide) (by decide) (fun z5 w H locs hp hP hD hS => ?_)
              obtain ⟨r1, o2, rfl, rfl, f1, f2, f3, f4⟩ := hp
              have hP : va_P D vwCl [(hQ, .inr (2, [.ref qb, .ref ql, .ref qh, .ref qf, .ref qg, .ref qa, .ref qo, .ref qt, .int (iI (((n : Nat) : Int))), .int (iI (((bw : Nat) : Int)))])), ce_i ql cI 4 (nZ (ln)), ce_i qg cI 16 (lg), ce_i qa cI 4 (nZ (ap)), ce_i qo cI 16 (nZ (o2))] H := hP.sub (ws' := [(hQ, .inr (2, [.ref qb, .ref ql, .ref qh, .ref qf, .ref qg, .ref qa, .ref qo, .ref qt, .int (iI (((n : Nat) : Int))), .int (iI (((bw : Nat) : Int)))])), ce_i ql cI 4 (nZ (ln)), ce_i qg cI 16 (lg), ce_i qa cI 4 (nZ (ap)), ce_i qo cI 16 (nZ (o2))]) [0, 1, 2, 3, 4] rfl
              have hD : va_D A [(hQ, .inr (2, [.ref qb, .ref ql, .ref qh, .ref qf, .ref qg, .ref qa, .ref qo, .ref qt, .int (iI (((n : Nat) : Int))), .int (iI (((bw : Nat) : Int)))])), ce_i ql cI 4 (nZ (ln)), ce_i qg cI 16 (lg), ce_i qa cI 4 (nZ (ap)), ce_i qo cI 16 (nZ (o2))] := hD.sub (ws' := [(hQ, .inr (2, [.ref qb, .ref ql, .ref qh, .ref qf, .ref qg, .ref qa, .ref qo, .ref qt, .int (iI (((n : Nat) : Int))), .int (iI (((bw : Nat) : Int)))])), ce_i ql cI 4 (nZ (ln)), ce_i qg cI 16 (lg), ce_i qa cI 4 (nZ (ap)), ce_i qo cI 16 (nZ (o2))]) [0, 1, 2, 3, 4] (by decide) rfl
              refine rz_beq (z := r1) (tgt := 70) hx hb dX2_canPutFrom_55 (by decide) (fun c6 => ?_) (fun c6 => ?_)
              · have hlr := f4 c6
                refine lv_iinc (v := iI (((q + 1 : Nat) : Int))) (lv' := [(3, .int (iI (((q + 1 : Nat) : Int)))), (4, .int (iI (((1 : Nat) : Int)))), (0, .ref hQ), (1, .int (iI (((b : Nat) : Int)))), (2, .int (iI (((op (b * 4 + b) : Nat) : Int))))]) hx hb dX2_canPutFrom_70 hl (k := 4) rfl (iI_inc _) (by decide) rfl (fun ls hl => ?_)
                refine lv_goto (tgt := 23) hx hb dX2_canPutFrom_73 (by decide) ?_
                exact ih (q + 1) (o2) (by omega) (by omega) (by omega) (by first | exact g1 | exact f1 | exact hB) (by first | exact (fun j h => by rw [g2 j (by omega), f2 j h, hK1 j h]) | exact (fun j h => by rw [f2 j h, hK1 j h]) | exact hK1) (by first | exact sol_skip2 (r2 := fun j => o2 ((b + 1) * 4 + j)) hb9 hr2 hno2 hno | (obtain ⟨j, h1, h2, h3⟩ := hlr; rw [hK1 _ (by omega)] at h3; exact sol_skip1 h1 h2 h3 hno) | exact sol_skip0 hb9 (by assumption) hno) _ _ _ hP hD hS (lv_sub hl [2, 3, 4, 0] rfl)
              · have hr2 : ∀ j, b < j → j < n → o2 ((b + 1) * 4 + j) = op (b * 4 + j) &&& besF ln lg ap b q j := fun j h1 h2 => by rw [show (b + 1) * 4 + j = b * 4 + 4 + j by omega, f3 c6 j h1 h2, hK1 _ (by omega)]
                refine lv_aload_n hx hb dX2_canPutFrom_58 rfl (lv_at hl 1 rfl) ?_
                refine lv_iload_n hx hb dX2_canPutFrom_59 rfl (lv_at hl 2 rfl) ?_
                refine lv_iconst (v := iI (((1 : Nat) : Int))) hx hb dX2_canPutFrom_60 (by decide +kernel) ?_
                refine rn_add hx hb dX2_canPutFrom_61 ?_
                have hPc := hP.sub (ws' := [(hQ, .inr (2, [.ref qb, .ref ql, .ref qh, .ref qf, .ref qg, .ref qa, .ref qo, .ref qt, .int (iI (((n : Nat) : Int))), .int (iI (((bw : Nat) : Int)))])), ce_i ql cI 4 (nZ (ln)), ce_i qg cI 16 (lg), ce_i qa cI 4 (nZ (ap)), ce_i qo cI 16 (nZ (o2))]) [0, 1, 2, 3, 4] rfl
                have hDc := hD.sub (ws' := [(hQ, .inr (2, [.ref qb, .ref ql, .ref qh, .ref qf, .ref qg, .ref qa, .ref qo, .ref qt, .int (iI (((n : Nat) : Int))), .int (iI (((bw : Nat) : Int)))])), ce_i ql cI 4 (nZ (ln)), ce_i qg cI 16 (lg), ce_i qa cI 4 (nZ (ap)), ce_i qo cI 16 (nZ (o2))]) [0, 1, 2, 3, 4] (by decide) rfl
                refine rz_calli (va_runV (As := [.int (iI (((b + 1 : Nat) : Int)))]) (rest := []) ⟨hx, hb, hml, hown, hts⟩ (ihR H.size hQ qb ql qh qf qg qa qo qt n bw ln lg ap o2 (b + 1) (by omega) (by omega) (by omega) hln hlg hap f1) (cwV 1 hts (gG (g_V tm_X2_128 ti_X2_canPutFrom tse_X2_canPutFrom tin_X2 cmX2_canPutFrom)) rfl rfl rfl (by decide +kernel) ⟨by simp only [rmD]; omega, by simp only [rmD]; omega⟩) ⟨cP_blind, va_recv hK hPc (ci := 2) (q0 := 0) rfl rfl, cP_pre hPc hK hN hDc⟩ rfl rfl hl.1 rfl (lv_room (Nat.le_of_ble_eq_true rfl)) dX2_canPutFrom_62 ⟨Nat.le_refl _, Nat.le_refl _⟩) hP hD hS hA [0, 1, 2, 3, 4] [] rfl (wr := []) rfl (by decide) (by decide) (fun z7 w H locs hp hP hD hS => ?_)
                obtain ⟨r2, o3, rfl, rfl, g1, g2, g3, g4⟩ := hp
                have hP : va_P D vwCl [(hQ, .inr (2, [.ref qb, .ref ql, .ref qh, .ref qf, .ref qg, .ref qa, .ref qo, .ref qt, .int (iI (((n : Nat) : Int))), .int (iI (((bw : Nat) : Int)))])), ce_i ql cI 4 (nZ (ln)), ce_i qg cI 16 (lg), ce_i qa cI 4 (nZ (ap)), ce_i qo cI 16 (nZ (o3))] H := hP.sub (ws' := [(hQ, .inr (2, [.ref qb, .ref ql, .ref qh, .ref qf, .ref qg, .ref qa, .ref qo, .ref qt, .int (iI (((n : Nat) : Int))), .int (iI (((bw : Nat) : Int)))])), ce_i ql cI 4 (nZ (ln)), ce_i qg cI 16 (lg), ce_i qa cI 4 (nZ (ap)), ce_i qo cI 16 (nZ (o3))]) [0, 1, 2, 3, 4] rfl
                have hD : va_D A [(hQ, .inr (2, [.ref qb, .ref ql, .ref qh, .ref qf, .ref qg, .ref qa, .ref qo, .ref qt, .int (iI (((n : Nat) : Int))), .int (iI (((bw : Nat) : Int)))])), ce_i ql cI 4 (nZ (ln)), ce_i qg cI 16 (lg), ce_i qa cI 4 (nZ (ap)), ce_i qo cI 16 (nZ (o3))] := hD.sub (ws' := [(hQ, .inr (2, [.ref qb, .ref ql, .ref qh, .ref qf, .ref qg, .ref qa, .ref qo, .ref qt, .int (iI (((n : Nat) : Int))), .int (iI (((bw : Nat) : Int)))])), ce_i ql cI 4 (nZ (ln)), ce_i qg cI 16 (lg), ce_i qa cI 4 (nZ (ap)), ce_i qo cI 16 (nZ (o3))]) [0, 1, 2, 3, 4] (by decide) rfl
                refine rz_beq (z := r2) (tgt := 70) hx hb dX2_canPutFrom_65 (by decide) (fun c8 => ?_) (fun c8 => ?_)
                · have hno2 := g4 c8
                  refine lv_iinc (v := iI (((q + 1 : Nat) : Int))) (lv' := [(3, .int (iI (((q + 1 : Nat) : Int)))), (4, .int (iI (((1 : Nat) : Int)))), (0, .ref hQ), (1, .int (iI (((b : Nat) : Int)))), (2, .int (iI (((op (b * 4 + b) : Nat) : Int))))]) hx hb dX2_canPutFrom_70 hl (k := 4) rfl (iI_inc _) (by decide) rfl (fun ls hl => ?_)
                  refine lv_goto (tgt := 23) hx hb dX2_canPutFrom_73 (by decide) ?_
                  exact ih (q + 1) (o3) (by omega) (by omega) (by omega) (by first | exact g1 | exact f1 | exact hB) (by first | exact (fun j h => by rw [g2 j (by omega), f2 j h, hK1 j h]) | exact (fun j h => by rw [f2 j h, hK1 j h]) | exact hK1) (by first | exact sol_skip2 (r2 := fun j => o2 ((b + 1) * 4 + j)) hb9 hr2 hno2 hno | (obtain ⟨j, h1, h2, h3⟩ := hlr; rw [hK1 _ (by omega)] at h3; exact sol_skip1 h1 h2 h3 hno) | exact sol_skip0 hb9 (by assumption) hno) _ _ _ hP hD hS (lv_sub hl [2, 3, 4, 0] rfl)
                · obtain ⟨P, hSo⟩ := g3 c8
                  refine lv_iconst (v := iI (((1 : Nat) : Int))) hx hb dX2_canPutFrom_68 (by decide +kernel) ?_
                  exact hret _ _ _ _ _ _ dX2_canPutFrom_69 (Or.inr rfl) ⟨true, _, rfl, rfl, g1, (fun j h => by rw [g2 j (by omega), f2 j h, hK1 j h]), (fun _ => ⟨uN P b q, sol_upd hb9 hch hr2 hSo⟩), (fun h => nomatch h)⟩ hP hD hS
    refine lv_iload_n hx hb dX2_canPutFrom_0 rfl (lv_at hl 1 rfl) ?_
    refine lv_aload_n hx hb dX2_canPutFrom_1 rfl (lv_at hl 0 rfl) ?_
    refine va_get (D := D) (ci := 2) (v := .int (iI (((n : Nat) : Int)))) (C := RX2) (T := TX2) (N := 10) hx hb hts in_X2 hown hK hP 0 rfl rfl 8 (by decide) (hts _ (List.mem_cons_of_mem _ tf_X2_45)) (fun _ h9 => h9) rfl dX2_canPutFrom_2 ?_
    refine rz_clt (tgt := 10) hx hb dX2_canPutFrom_5 (by decide) (by omega) (by omega) (fun c9 => ?_) (fun c9 => ?_)
    · refine lv_aload_n hx hb dX2_canPutFrom_10 rfl (lv_at hl 0 rfl) ?_
      refine va_get (D := D) (ci := 2) (v := .ref qo) (C := RX2) (T := TX2) (N := 10) hx hb hts in_X2 hown hK hP 0 rfl rfl 6 (by decide) (hts _ (List.mem_cons_of_mem _ tf_X2_30)) (fun _ h9 => h9) rfl dX2_canPutFrom_11 ?_
      refine lv_iload_n hx hb dX2_canPutFrom_14 rfl (lv_at hl 1 rfl) ?_
      refine lv_iconst (v := iI (((4 : Nat) : Int))) hx hb dX2_canPutFrom_15 (by decide +kernel) ?_
      refine rn_mul hx hb dX2_canPutFrom_16 ?_
      refine lv_iload_n hx hb dX2_canPutFrom_17 rfl (lv_at hl 1 rfl) ?_
      refine rn_add hx hb dX2_canPutFrom_18 ?_
      refine rn_aldM hx hb hK hP 4 0 rfl rfl (by omega) (by omega) dX2_canPutFrom_19 ?_
      refine lv_istore_n (lv' := [(2, .int (iI (((op ((b * 4) + b) : Nat) : Int)))), (0, .ref hQ), (1, .int (iI (((b : Nat) : Int))))]) hx hb dX2_canPutFrom_20 rfl hl (by decide) rfl (fun ls hl => ?_)
      refine lv_iconst (v := iI (((0 : Nat) : Int))) hx hb dX2_canPutFrom_21 (by decide +kernel) ?_
      refine lv_istore_n (lv' := [(3, .int (iI (((0 : Nat) : Int)))), (2, .int (iI (((op ((b * 4) + b) : Nat) : Int)))), (0, .ref hQ), (1, .int (iI (((b : Nat) : Int))))]) hx hb dX2_canPutFrom_22 rfl hl (by decide) rfl (fun ls hl => ?_)
      exact K23 (30 - (0) + 1) (0) (op) (Nat.lt_succ_self _) (by omega) (by omega) hop (fun _ _ => rfl) (fun _ _ => Nat.zero_le _) _ _ _ hP hD hS (lv_sub hl [2, 3, 1, 0] rfl)
    · refine lv_iconst (v := iI (((1 : Nat) : Int))) hx hb dX2_canPutFrom_8 (by decide +kernel) ?_
      exact hret _ _ _ _ _ _ dX2_canPutFrom_9 (Or.inr rfl) ⟨true, _, rfl, rfl, hop, (fun _ _ => rfl), (fun _ => ⟨fun _ => 0, fun j h1 h2 => absurd h2 (by omega), fun i j h1 h2 h3 => absurd h3 (by omega)⟩), (fun h => nomatch h)⟩ hP hD hS

set_option maxHeartbeats 4000000 in
set_option maxRecDepth 100000 in
theorem k_X2_findsAny (l : Launch) (D : va_G) (cI cZ : ClassId) (sz : Nat) (hQ : Nat) (qb : Nat) (ql : Nat) (qh : Nat) (qf : Nat) (qg : Nat) (qa : Nat) (qo : Nat) (qt : Nat) (n : Nat) (bw : Nat) (ln : Nat → Nat) (lg : Nat → Int) (ap : Nat → Nat) (op : Nat → Nat) (hn : n ≤ 4) (hln : ∀ j, ln j ≤ 10) (hlg : ∀ j, -10 ≤ lg j ∧ lg j ≤ 10) (hap : ∀ j, ap j < 16) (hop : ∀ j, op j < 1073741824) : Ci l yX2_findsAny wsX2_findsAny (rmD 9) D vwCl [(cI, .int), (cZ, .boolean)] [.ref hQ] [(hQ, .inr (2, [.ref qb, .ref ql, .ref qh, .ref qf, .ref qg, .ref qa, .ref qo, .ref qt, .int (iI (((n : Nat) : Int))), .int (iI (((bw : Nat) : Int)))])), ce_i ql cI 4 (nZ (ln)), ce_i qg cI 16 (lg), ce_i qa cI 4 (nZ (ap)), ce_i qo cI 16 (nZ (op))] sz (fun z w => ∃ rz : Bool, ∃ op2 : Nat → Nat, w = [(hQ, .inr (2, [.ref qb, .ref ql, .ref qh, .ref qf, .ref qg, .ref qa, .ref qo, .ref qt, .int (iI (((n : Nat) : Int))), .int (iI (((bw : Nat) : Int)))])), ce_i ql cI 4 (nZ (ln)), ce_i qg cI 16 (lg), ce_i qa cI 4 (nZ (ap)), ce_i qo cI 16 (nZ (op2))] ∧ (z = b2z (rz)) ∧ (∀ j, op2 j < 1073741824) ∧ (∀ j, j < 0 * 4 + 4 → op2 j = op j) ∧ (rz = true → ∃ P, SolF ln lg ap n 0 (fun j => op (0 * 4 + j)) P) ∧ (rz = false → ∀ P, ¬ SolF ln lg ap n 0 (fun j => op (0 * 4 + j)) P)) 0 0 := by
  refine Cz_of (cc := cX2_findsAny) (nL := 1) (by decide) rfl (Nat.le_of_ble_eq_true rfl) ?_
  intro p e s m below meth c A Q hsz C hK hN hA hP hD hS hret ls hl
  obtain ⟨hx, hb, hml, hown, hts⟩ := id C
  have hown : s.vm.findClass RX2 = some m.cls := hown
  have hl : lv_has ls 1 [(0, .ref hQ)] := hl
  refine lv_aload_n hx hb dX2_findsAny_0 rfl (lv_at hl 0 rfl) ?_
  refine lv_iconst (v := iI (((0 : Nat) : Int))) hx hb dX2_findsAny_1 (by decide +kernel) ?_
  have hPc := hP.sub (ws' := [(hQ, .inr (2, [.ref qb, .ref ql, .ref qh, .ref qf, .ref qg, .ref qa, .ref qo, .ref qt, .int (iI (((n : Nat) : Int))), .int (iI (((bw : Nat) : Int)))])), ce_i ql cI 4 (nZ (ln)), ce_i qg cI 16 (lg), ce_i qa cI 4 (nZ (ap)), ce_i qo cI 16 (nZ (op))]) [0, 1, 2, 3, 4] rfl
  have hDc := hD.sub (ws' := [(hQ, .inr (2, [.ref qb, .ref ql, .ref qh, .ref qf, .ref qg, .ref qa, .ref qo, .ref qt, .int (iI (((n : Nat) : Int))), .int (iI (((bw : Nat) : Int)))])), ce_i ql cI 4 (nZ (ln)), ce_i qg cI 16 (lg), ce_i qa cI 4 (nZ (ap)), ce_i qo cI 16 (nZ (op))]) [0, 1, 2, 3, 4] (by decide) rfl
  refine rz_calli (va_runV (As := [.int (iI (((0 : Nat) : Int)))]) (rest := []) ⟨hx, hb, hml, hown, hts⟩ (k_X2_canPutFrom l D cI cZ 4 s.heap.size hQ qb ql qh qf qg qa qo qt n bw ln lg ap op 0 (by omega) (by omega) (by omega) hln hlg hap hop) (cwV 1 hts (gG (g_V tm_X2_128 ti_X2_canPutFrom tse_X2_canPutFrom tin_X2 cmX2_canPutFrom)) rfl rfl rfl (by decide +kernel) ⟨Nat.le_of_ble_eq_true rfl, Nat.le_of_ble_eq_true rfl⟩) ⟨cP_blind, va_recv hK hPc (ci := 2) (q0 := 0) rfl rfl, cP_pre hPc hK hN hDc⟩ rfl rfl hl.1 rfl (lv_room (Nat.le_of_ble_eq_true rfl)) dX2_findsAny_2 ⟨Nat.le_refl _, Nat.le_refl _⟩) hP hD hS hA [0, 1, 2, 3, 4] [] rfl (wr := []) rfl (by decide) (by decide) (fun z1 w H locs hp hP hD hS => ?_)
  obtain ⟨r1, o1, rfl, rfl, f1, f2, f3, f4⟩ := hp
  have hP : va_P D vwCl [(hQ, .inr (2, [.ref qb, .ref ql, .ref qh, .ref qf, .ref qg, .ref qa, .ref qo, .ref qt, .int (iI (((n : Nat) : Int))), .int (iI (((bw : Nat) : Int)))])), ce_i ql cI 4 (nZ (ln)), ce_i qg cI 16 (lg), ce_i qa cI 4 (nZ (ap)), ce_i qo cI 16 (nZ (o1))] H := hP.sub (ws' := [(hQ, .inr (2, [.ref qb, .ref ql, .ref qh, .ref qf, .ref qg, .ref qa, .ref qo, .ref qt, .int (iI (((n : Nat) : Int))), .int (iI (((bw : Nat) : Int)))])), ce_i ql cI 4 (nZ (ln)), ce_i qg cI 16 (lg), ce_i qa cI 4 (nZ (ap)), ce_i qo cI 16 (nZ (o1))]) [0, 1, 2, 3, 4] rfl
  have hD : va_D A [(hQ, .inr (2, [.ref qb, .ref ql, .ref qh, .ref qf, .ref qg, .ref qa, .ref qo, .ref qt, .int (iI (((n : Nat) : Int))), .int (iI (((bw : Nat) : Int)))])), ce_i ql cI 4 (nZ (ln)), ce_i qg cI 16 (lg), ce_i qa cI 4 (nZ (ap)), ce_i qo cI 16 (nZ (o1))] := hD.sub (ws' := [(hQ, .inr (2, [.ref qb, .ref ql, .ref qh, .ref qf, .ref qg, .ref qa, .ref qo, .ref qt, .int (iI (((n : Nat) : Int))), .int (iI (((bw : Nat) : Int)))])), ce_i ql cI 4 (nZ (ln)), ce_i qg cI 16 (lg), ce_i qa cI 4 (nZ (ap)), ce_i qo cI 16 (nZ (o1))]) [0, 1, 2, 3, 4] (by decide) rfl
  exact hret _ _ _ _ _ _ dX2_findsAny_5 (b2z_01 _) ⟨_, _, rfl, rfl, f1, f2, f3, f4⟩ hP hD hS
end
section
/-! Search: the best plan -/
def WtF (hm P : Nat → Nat) : Nat → Nat
  | 0 => 0
  | k + 1 => WtF hm P k + wAt (hm k) (P k)
def lexlt (n : Nat) (P P' : Nat → Nat) : Prop := ∃ i, i < n ∧ P i < P' i ∧ ∀ j, j < i → P j = P' j
/-- over the plans X: what stood stays where none is lighter; else the lightest, of these the first -/
def Imp (hm : Nat → Nat) (n : Nat) (X : (Nat → Nat) → Prop) (bw : Nat) (best : Nat → Nat) (bw2 : Nat) (best2 : Nat → Nat) : Prop :=
  (bw2 = bw ∧ (∀ j, best2 j = best j) ∧ ∀ P, X P → bw ≤ WtF hm P n) ∨ (∃ P, X P ∧ bw2 = WtF hm P n ∧ bw2 < bw ∧ (∀ j, j < n → best2 j = P j) ∧ ∀ P', X P' → bw2 ≤ WtF hm P' n ∧ (lexlt n P' P → bw2 < WtF hm P' n))
def XB (ln : Nat → Nat) (lg : Nat → Int) (ap : Nat → Nat) (n b : Nat) (r tr P : Nat → Nat) : Prop := (∀ j, j < b → P j = tr j) ∧ SolF ln lg ap n b r P
section IM
variable {ln ap r r2 P hm tr best best1 best2 : Nat → Nat} {lg : Nat → Int} {n b q bw bw1 bw2 : Nat} {X X1 X2 : (Nat → Nat) → Prop}
theorem imp_none (h : ∀ P, X P → bw ≤ WtF hm P n) : Imp hm n X bw best bw best := Or.inl ⟨rfl, fun _ => rfl, h⟩
theorem imp_le (h : Imp hm n X bw best bw2 best2) : bw2 ≤ bw := by
  rcases h with ⟨h, -, -⟩ | ⟨P, -, -, h, -⟩
  · omega
  · omega
theorem imp_congr (h : Imp hm n X1 bw best bw2 best2) (e : ∀ P, X P ↔ X1 P) : Imp hm n X bw best bw2 best2 := by
  rcases h with ⟨h1, h2, h3⟩ | ⟨P, h1, h2, h3, h4, h5⟩
  · exact Or.inl ⟨h1, h2, fun P h => h3 P ((e P).mp h)⟩
  · exact Or.inr ⟨P, (e P).mpr h1, h2, h3, h4, fun P' h => h5 P' ((e P').mp h)⟩
theorem imp_comp (h1 : Imp hm n X1 bw best bw1 best1) (h2 : Imp hm n X2 bw1 best1 bw2 best2) (hl : ∀ P P', X1 P → X2 P' → ¬ lexlt n P' P) (hX : ∀ P, X P ↔ X1 P ∨ X2 P) : Imp hm n X bw best bw2 best2 := by
  rcases h1 with ⟨a1, a2, a3⟩ | ⟨P1, a1, a2, a3, a4, a5⟩
  · rcases h2 with ⟨b1, b2, b3⟩ | ⟨P2, b1, b2, b3, b4, b5⟩
    · refine Or.inl ⟨by omega, fun j => (b2 j).trans (a2 j), fun P h => ?_⟩
      rcases (hX P).mp h with h | h
      · exact a3 P h
      · have := b3 P h; omega
    · refine Or.inr ⟨P2, (hX P2).mpr (Or.inr b1), b2, by omega, b4, fun P' h => ?_⟩
      rcases (hX P').mp h with h | h
      · have := a3 P' h; exact ⟨by omega, fun _ => by omega⟩
      · exact b5 P' h
  · rcases h2 with ⟨b1, b2, b3⟩ | ⟨P2, b1, b2, b3, b4, b5⟩
    · refine Or.inr ⟨P1, (hX P1).mpr (Or.inl a1), by omega, by omega, fun j hj => (b2 j).trans (a4 j hj), fun P' h => ?_⟩
      rcases (hX P').mp h with h | h
      · have := a5 P' h; exact ⟨by omega, fun q => by have := this.2 q; omega⟩
      · have := b3 P' h; exact ⟨by omega, fun q => absurd q (hl P1 P' a1 h)⟩
    · refine Or.inr ⟨P2, (hX P2).mpr (Or.inr b1), b2, by omega, b4, fun P' h => ?_⟩
      rcases (hX P').mp h with h | h
      · have := (a5 P' h).1; exact ⟨by omega, fun _ => by omega⟩
      · exact b5 P' h
theorem xb_lex (P P' : Nat → Nat) (h1 : XB ln lg ap n b r tr P ∧ P b < q) (h2 : XB ln lg ap n b r tr P' ∧ P' b = q) : ¬ lexlt n P' P := by
  rintro ⟨i, hi, hlt, he⟩
  rcases Nat.lt_trichotomy i b with h | h | h
  · rw [h1.1.1 i h, h2.1.1 i h] at hlt; omega
  · subst h; have := h1.2; have := h2.2; omega
  · have := he b h; have := h1.2; have := h2.2; omega
theorem xb_split (P : Nat → Nat) : (XB ln lg ap n b r tr P ∧ P b < q + 1) ↔ ((XB ln lg ap n b r tr P ∧ P b < q) ∨ (XB ln lg ap n b r tr P ∧ P b = q)) := by
  constructor
  · rintro ⟨h1, h2⟩
    rcases Nat.lt_or_ge (P b) q with h | h
    · exact Or.inl ⟨h1, h⟩
    · exact Or.inr ⟨h1, by omega⟩
  · rintro (⟨h1, h2⟩ | ⟨h1, h2⟩)
    · exact ⟨h1, by omega⟩
    · exact ⟨h1, by omega⟩
theorem imp_skip (h : Imp hm n (fun P => XB ln lg ap n b r tr P ∧ P b < q) bw best bw1 best1) (hs : ∀ P, XB ln lg ap n b r tr P → P b = q → bw1 ≤ WtF hm P n) : Imp hm n (fun P => XB ln lg ap n b r tr P ∧ P b < q + 1) bw best bw1 best1 :=
  imp_comp h (imp_none (X := fun P => XB ln lg ap n b r tr P ∧ P b = q) (fun P h => hs P h.1 h.2)) xb_lex xb_split
theorem imp_step (h : Imp hm n (fun P => XB ln lg ap n b r tr P ∧ P b < q) bw best bw1 best1) (h2 : Imp hm n X2 bw1 best1 bw2 best2) (hx : ∀ P, (XB ln lg ap n b r tr P ∧ P b = q) ↔ X2 P) : Imp hm n (fun P => XB ln lg ap n b r tr P ∧ P b < q + 1) bw best bw2 best2 :=
  imp_comp h (imp_congr h2 hx) xb_lex xb_split
theorem WtF_congr {P P' : Nat → Nat} : ∀ k, (∀ j, j < k → P j = P' j) → WtF hm P k = WtF hm P' k
  | 0, _ => rfl
  | k + 1, h => by rw [WtF, WtF, WtF_congr k (fun j hj => h j (by omega)), h k (by omega)]
theorem WtF_mono {P : Nat → Nat} {k : Nat} : ∀ m, k ≤ m → WtF hm P k ≤ WtF hm P m := by
  intro m h
  induction m with
  | zero => have : k = 0 := by omega
            subst this; exact Nat.le_refl _
  | succ m ih =>
    by_cases e : k = m + 1
    · subst e; exact Nat.le_refl _
    · rw [WtF]; have := ih (by omega); omega
theorem imp_leaf {wg : Nat} (hb : b = n) (hw : wg = WtF hm tr b) (hlt : wg < bw) (hbest : ∀ j, j < n → best2 j = tr j) : Imp hm n (XB ln lg ap n b r tr) bw best wg best2 := by
  subst hb
  refine Or.inr ⟨tr, ⟨fun _ _ => rfl, fun j h1 h2 => absurd h2 (by omega), fun i j h1 h2 h3 => absurd h3 (by omega)⟩, hw, hlt, hbest, fun P h => ?_⟩
  have e1 : WtF hm P b = WtF hm tr b := WtF_congr b h.1
  refine ⟨by omega, ?_⟩
  rintro ⟨i, hi, hl, -⟩
  rw [h.1 i hi] at hl; omega
theorem wAt_ge {h p : Nat} (e : p ≠ h) (hp : p < 30) (hh : h < 30) : 65 ≤ wAt h p := by
  rw [wAt, if_neg e]; split <;> omega
theorem wt_low {op : Nat → Nat} (hn : b ≤ n) (hhm : ∀ j, hm j < 30) (hop : ∀ j, op j < 1073741824) (h : SolF ln lg ap n b (fun j => op (b * 4 + j)) P) : ∀ k, k ≤ n - b → WtF hm P (n - k) + lwF op hm (b * 4) n k ≤ WtF hm P n := by
  intro k
  induction k with
  | zero => intro _; simp [lwF]
  | succ k ih =>
    intro hk
    have h1 := ih (by omega)
    have h2 : n - k = (n - (k + 1)) + 1 := by omega
    rw [h2, WtF] at h1
    rw [lwF]
    have h3 := h.1 (n - (k + 1)) (by omega) (by omega)
    have h4 : (if (op (b * 4 + (n - (k + 1)))).testBit (hm (n - (k + 1))) = true then 0 else 65) ≤ wAt (hm (n - (k + 1))) (P (n - (k + 1))) := by
      split
      · exact Nat.zero_le _
      · rename_i hc
        refine wAt_ge (fun e => hc ?_) (bit_30 (hop _) h3) (hhm _)
        rw [← e]; exact h3
    omega
theorem lwF_le {op : Nat → Nat} {rr : Nat} : ∀ k, lwF op hm rr n k ≤ 65 * k
  | 0 => Nat.le_refl _
  | k + 1 => by rw [lwF]; have := lwF_le (op := op) (rr := rr) k; split <;> omega
theorem wAt_le {h p : Nat} (hp : p < 30) (hh : h < 30) : wAt h p ≤ 76 := by unfold wAt; split <;> (try split) <;> omega
theorem WtF_le {P : Nat → Nat} (hh : ∀ j, hm j < 30) (hp : ∀ j, P j < 30) : ∀ k, WtF hm P k ≤ 76 * k
  | 0 => Nat.le_refl _
  | k + 1 => by rw [WtF]; have := WtF_le hh hp k; have := wAt_le (hp k) (hh k); omega
end IM

set_option maxHeartbeats 4000000 in
set_option maxRecDepth 100000 in
theorem k_X2_putBetter (l : Launch) (D : va_G) (cI cZ : ClassId) : ∀ (kf : Nat) (sz : Nat) (hQ : Nat) (qb : Nat) (ql : Nat) (qh : Nat) (qf : Nat) (qg : Nat) (qa : Nat) (qo : Nat) (qt : Nat) (n : Nat) (bw : Nat) (best : Nat → Nat) (ln : Nat → Nat) (hm : Nat → Nat) (lg : Nat → Int) (ap : Nat → Nat) (op : Nat → Nat) (tr : Nat → Nat) (b : Nat) (wg : Nat), (n ≤ 4) → (b ≤ n) → (n ≤ b + kf) → (wg = WtF hm tr b) → (bw ≤ 1000) → (∀ j, ln j ≤ 10) → (∀ j, -10 ≤ lg j ∧ lg j ≤ 10) → (∀ j, ap j < 16) → (∀ j, op j < 1073741824) → (∀ j, hm j < 30) → (∀ j, tr j < 30) → Cv l yX2_putBetter wsX2_putBetter (rmD (kf + 4)) D vwCl [(cI, .int), (cZ, .boolean)] [.ref hQ, .int (iI (((b : Nat) : Int))), .int (iI (((wg : Nat) : Int)))] [(hQ, .inr (2, [.ref qb, .ref ql, .ref qh, .ref qf, .ref qg, .ref qa, .ref qo, .ref qt, .int (iI (((n : Nat) : Int))), .int (iI (((bw : Nat) : Int)))])), ce_i qb cI 4 (nZ (best)), ce_i ql cI 4 (nZ (ln)), ce_i qh cI 4 (nZ (hm)), ce_i qg cI 16 (lg), ce_i qa cI 4 (nZ (ap)), ce_i qo cI 16 (nZ (op)), ce_i qt cI 4 (nZ (tr))] sz (fun w => ∃ bw2 : Nat, ∃ best2 : Nat → Nat, ∃ op2 : Nat → Nat, ∃ tr2 : Nat → Nat, w = [(hQ, .inr (2, [.ref qb, .ref ql, .ref qh, .ref qf, .ref qg, .ref qa, .ref qo, .ref qt, .int (iI (((n : Nat) : Int))), .int (iI (((bw2 : Nat) : Int)))])), ce_i qb cI 4 (nZ (best2)), ce_i ql cI 4 (nZ (ln)), ce_i qh cI 4 (nZ (hm)), ce_i qg cI 16 (lg), ce_i qa cI 4 (nZ (ap)), ce_i qo cI 16 (nZ (op2)), ce_i qt cI 4 (nZ (tr2))] ∧ (Imp hm n (XB ln lg ap n b (fun j => op (b * 4 + j)) tr) bw best bw2 best2) ∧ (∀ j, op2 j < 1073741824) ∧ (∀ j, j < b * 4 + 4 → op2 j = op j) ∧ (∀ j, j < b → tr2 j = tr j) ∧ (∀ j, tr2 j < 30)) 0 0 := by
  intro kf
  induction kf with
  | zero =>
    intro sz hQ qb ql qh qf qg qa qo qt n bw best ln hm lg ap op tr b wg hn hbn hkf hwg hbw hln hlg hap hop hhm htr
    refine Cv_of (cc := cX2_putBetter) (nL := 6) (by decide) rfl (Nat.le_of_ble_eq_true rfl) ?_
    intro p e s m below meth c A Q hsz C hK hN hA hP hD hS hin hret ls hl
    obtain ⟨hx, hb, hml, hown, hts⟩ := id C
    have hown : s.vm.findClass RX2 = some m.cls := hown
    have hl : lv_has ls 6 [(0, .ref hQ), (1, .int (iI (((b : Nat) : Int)))), (2, .int (iI (((wg : Nat) : Int))))] := hl
    have in_X2 : ∀ w ∈ u_ws RX2 TX2 10, w ∈ wsX2_putBetter := fun w h => List.mem_cons_of_mem _ (inX2 w h)
    have hw3 : WtF hm tr b ≤ 76 * b := WtF_le hhm htr b
    have hl3 := lwF_le (op := op) (hm := hm) (n := n) (rr := b * 4) (n - b)
    refine lv_iload_n hx hb dX2_putBetter_0 rfl (lv_at hl 2 rfl) ?_
    refine lv_aload_n hx hb dX2_putBetter_1 rfl (lv_at hl 0 rfl) ?_
    refine lv_iload_n hx hb dX2_putBetter_2 rfl (lv_at hl 1 rfl) ?_
    have hPc := hP.sub (ws' := [(hQ, .inr (2, [.ref qb, .ref ql, .ref qh, .ref qf, .ref qg, .ref qa, .ref qo, .ref qt, .int (iI (((n : Nat) : Int))), .int (iI (((bw : Nat) : Int)))])), ce_i qh cI 4 (nZ (hm)), ce_i qo cI 16 (nZ (op))]) [0, 3, 6] rfl
    have hDc := hD.sub (ws' := [(hQ, .inr (2, [.ref qb, .ref ql, .ref qh, .ref qf, .ref qg, .ref qa, .ref qo, .ref qt, .int (iI (((n : Nat) : Int))), .int (iI (((bw : Nat) : Int)))])), ce_i qh cI 4 (nZ (hm)), ce_i qo cI 16 (nZ (op))]) [0, 3, 6] (by decide) rfl
    refine rz_calliR (va_runV (As := [.int (iI (((b : Nat) : Int)))]) (rest := [.int (iI (((wg : Nat) : Int)))]) ⟨hx, hb, hml, hown, hts⟩ (k_X2_leastWeightFrom l D cI cZ s.heap.size hQ qb ql qh qf qg qa qo qt n bw hm op b (by omega) (by omega) hhm hop) (cwV 1 hts (gG (g_V tm_X2_140 ti_X2_leastWeightFrom tse_X2_leastWeightFrom tin_X2 cmX2_leastWeightFrom)) rfl rfl rfl (by decide +kernel) ⟨by simp only [rmD]; omega, by simp only [rmD]; omega⟩) ⟨cP_blind, va_recv hK hPc (ci := 2) (q0 := 0) rfl rfl, cP_pre hPc hK hN hDc⟩ rfl rfl hl.1 rfl (lv_room (Nat.le_of_ble_eq_true rfl)) dX2_putBetter_3 ⟨Nat.le_refl _, Nat.le_refl _⟩) hP hD hS hA [0, 3, 6] rfl (fun z1 H locs hp hP hS => ?_)
    subst hp
    refine rn_add hx hb dX2_putBetter_6 ?_
    refine lv_aload_n hx hb dX2_putBetter_7 rfl (lv_at hl 0 rfl) ?_
    refine va_get (D := D) (ci := 2) (v := .int (iI (((bw : Nat) : Int)))) (C := RX2) (T := TX2) (N := 10) hx hb hts in_X2 hown hK hP 0 rfl rfl 9 (by decide) (hts _ (List.mem_cons_of_mem _ tf_X2_36)) (fun _ h9 => h9) rfl dX2_putBetter_8 ?_
    refine rz_clt (tgt := 15) hx hb dX2_putBetter_11 (by decide) (by omega) (by omega) (fun c2 => ?_) (fun c2 => ?_)
    · refine lv_iload_n hx hb dX2_putBetter_15 rfl (lv_at hl 1 rfl) ?_
      refine lv_aload_n hx hb dX2_putBetter_16 rfl (lv_at hl 0 rfl) ?_
      refine va_get (D := D) (ci := 2) (v := .int (iI (((n : Nat) : Int)))) (C := RX2) (T := TX2) (N := 10) hx hb hts in_X2 hown hK hP 0 rfl rfl 8 (by decide) (hts _ (List.mem_cons_of_mem _ tf_X2_45)) (fun _ h9 => h9) rfl dX2_putBetter_17 ?_
      refine rz_clt (tgt := 46) hx hb dX2_putBetter_20 (by decide) (by omega) (by omega) (fun c3 => ?_) (fun c3 => ?_)
      · exfalso; omega
      · refine lv_aload_n hx hb dX2_putBetter_23 rfl (lv_at hl 0 rfl) ?_
        refine lv_iload_n hx hb dX2_putBetter_24 rfl (lv_at hl 2 rfl) ?_
        refine va_put (D := D) (ci := 2) (v := .int (iI (((wg : Nat) : Int)))) (ty := .int) (C := RX2) (T := TX2) (N := 10) hx hb hts in_X2 tyX2 tyX2_ok nmX2 hown hK hP hD hS 0 rfl rfl 9 (by decide) (hts _ (List.mem_cons_of_mem _ tf_X2_36)) (fun _ h9 => h9) rfl (by decide +kernel) rfl rfl (Nat.le_of_ble_eq_true rfl) dX2_putBetter_25 (fun H locs hP hD hS => ?_)
        have hP : va_P D vwCl [(hQ, .inr (2, [.ref qb, .ref ql, .ref qh, .ref qf, .ref qg, .ref qa, .ref qo, .ref qt, .int (iI (((n : Nat) : Int))), .int (iI (((wg : Nat) : Int)))])), ce_i qb cI 4 (nZ (best)), ce_i ql cI 4 (nZ (ln)), ce_i qh cI 4 (nZ (hm)), ce_i qg cI 16 (lg), ce_i qa cI 4 (nZ (ap)), ce_i qo cI 16 (nZ (op)), ce_i qt cI 4 (nZ (tr))] H := hP
        have hD : va_D A [(hQ, .inr (2, [.ref qb, .ref ql, .ref qh, .ref qf, .ref qg, .ref qa, .ref qo, .ref qt, .int (iI (((n : Nat) : Int))), .int (iI (((wg : Nat) : Int)))])), ce_i qb cI 4 (nZ (best)), ce_i ql cI 4 (nZ (ln)), ce_i qh cI 4 (nZ (hm)), ce_i qg cI 16 (lg), ce_i qa cI 4 (nZ (ap)), ce_i qo cI 16 (nZ (op)), ce_i qt cI 4 (nZ (tr))] := hD
        refine lv_aload_n hx hb dX2_putBetter_28 rfl (lv_at hl 0 rfl) ?_
        refine va_get (D := D) (ci := 2) (v := .ref qt) (C := RX2) (T := TX2) (N := 10) hx hb hts in_X2 hown hK hP 0 rfl rfl 7 (by decide) (hts _ (List.mem_cons_of_mem _ tf_X2_33)) (fun _ h9 => h9) rfl dX2_putBetter_29 ?_
        refine lv_iconst (v := iI (((0 : Nat) : Int))) hx hb dX2_putBetter_32 (by decide +kernel) ?_
        refine lv_aload_n hx hb dX2_putBetter_33 rfl (lv_at hl 0 rfl) ?_
        refine va_get (D := D) (ci := 2) (v := .ref qb) (C := RX2) (T := TX2) (N := 10) hx hb hts in_X2 hown hK hP 0 rfl rfl 0 (by decide) (hts _ (List.mem_cons_of_mem _ tf_X2_9)) (fun _ h9 => h9) rfl dX2_putBetter_34 ?_
        refine lv_iconst (v := iI (((0 : Nat) : Int))) hx hb dX2_putBetter_37 (by decide +kernel) ?_
        refine lv_aload_n hx hb dX2_putBetter_38 rfl (lv_at hl 0 rfl) ?_
        refine va_get (D := D) (ci := 2) (v := .int (iI (((n : Nat) : Int)))) (C := RX2) (T := TX2) (N := 10) hx hb hts in_X2 hown hK hP 0 rfl rfl 8 (by decide) (hts _ (List.mem_cons_of_mem _ tf_X2_45)) (fun _ h9 => h9) rfl dX2_putBetter_39 ?_
        refine rn_copyM (rest := []) hx hb (hml.trans hl.1.symm) hown hts tm_X2_75 hK hP hD hS 7 1 0 rfl rfl rfl (by omega) (by omega) (by omega) (by omega) (show 1 ≤ 0 + 4 by omega) (Nat.le_trans (m := 40) (Nat.le_of_ble_eq_true rfl) (show 40 ≤ 40 * (0 + 4) by omega)) dX2_putBetter_42 (fun H locs hP hD hS => ?_)
        have hP : va_P D vwCl [(hQ, .inr (2, [.ref qb, .ref ql, .ref qh, .ref qf, .ref qg, .ref qa, .ref qo, .ref qt, .int (iI (((n : Nat) : Int))), .int (iI (((wg : Nat) : Int)))])), ce_i qb cI 4 (nZ (va_cpy tr best 0 0 n)), ce_i ql cI 4 (nZ (ln)), ce_i qh cI 4 (nZ (hm)), ce_i qg cI 16 (lg), ce_i qa cI 4 (nZ (ap)), ce_i qo cI 16 (nZ (op)), ce_i qt cI 4 (nZ (tr))] H := hP
        have hD : va_D A [(hQ, .inr (2, [.ref qb, .ref ql, .ref qh, .ref qf, .ref qg, .ref qa, .ref qo, .ref qt, .int (iI (((n : Nat) : Int))), .int (iI (((wg : Nat) : Int)))])), ce_i qb cI 4 (nZ (va_cpy tr best 0 0 n)), ce_i ql cI 4 (nZ (ln)), ce_i qh cI 4 (nZ (hm)), ce_i qg cI 16 (lg), ce_i qa cI 4 (nZ (ap)), ce_i qo cI 16 (nZ (op)), ce_i qt cI 4 (nZ (tr))] := hD
        exact hret _ _ _ _ _ dX2_putBetter_45 ⟨_, _, _, _, rfl, imp_leaf (by omega) hwg (by omega) (fun j hj => by rw [pk_cpy_in (by omega) (by omega)]; simp), hop, (fun _ _ => rfl), (fun _ _ => rfl), htr⟩ hP hD hS
    · exact hret _ _ _ _ _ dX2_putBetter_14 ⟨_, _, _, _, rfl, imp_none (fun P h => by have h1 := wt_low hbn hhm hop h.2 (n - b) (Nat.le_refl _); rw [show n - (n - b) = b by omega, WtF_congr b h.1] at h1; omega), hop, (fun _ _ => rfl), (fun _ _ => rfl), htr⟩ hP hD hS
  | succ kf ihR =>
    intro sz hQ qb ql qh qf qg qa qo qt n bw best ln hm lg ap op tr b wg hn hbn hkf hwg hbw hln hlg hap hop hhm htr
    refine Cv_of (cc := cX2_putBetter) (nL := 6) (by decide) rfl (Nat.le_of_ble_eq_true rfl) ?_
    intro p e s m below meth c A Q hsz C hK hN hA hP hD hS hin hret ls hl
    obtain ⟨hx, hb, hml, hown, hts⟩ := id C
    have hown : s.vm.findClass RX2 = some m.cls := hown
    have hl : lv_has ls 6 [(0, .ref hQ), (1, .int (iI (((b : Nat) : Int)))), (2, .int (iI (((wg : Nat) : Int))))] := hl
    have in_X2 : ∀ w ∈ u_ws RX2 TX2 10, w ∈ wsX2_putBetter := fun w h => List.mem_cons_of_mem _ (inX2 w h)
    have K60 : ∀ (fu : Nat) (q : Nat) (bw1 : Nat) (best1 : Nat → Nat) (o1 : Nat → Nat) (tr1 : Nat → Nat), 30 - q < fu → (q ≤ 30) → (b < n) → (bw1 ≤ bw) → (Imp hm n (fun P => (XB ln lg ap n b (fun j => op (b * 4 + j)) tr) P ∧ P b < q) bw best bw1 best1) → (∀ j, o1 j < 1073741824) → (∀ j, j < b * 4 + 4 → o1 j = op j) → (∀ j, j < b → tr1 j = tr j) → (∀ j, tr1 j < 30) → ∀ (H : Heap) (locs : List Loc) (ls : Array Slot), va_P D vwCl [(hQ, .inr (2, [.ref qb, .ref ql, .ref qh, .ref qf, .ref qg, .ref qa, .ref qo, .ref qt, .int (iI (((n : Nat) : Int))), .int (iI (((bw1 : Nat) : Int)))])), ce_i qb cI 4 (nZ (best1)), ce_i ql cI 4 (nZ (ln)), ce_i qh cI 4 (nZ (hm)), ce_i qg cI 16 (lg), ce_i qa cI 4 (nZ (ap)), ce_i qo cI 16 (nZ (o1)), ce_i qt cI 4 (nZ (tr1))] H → va_D A [(hQ, .inr (2, [.ref qb, .ref ql, .ref qh, .ref qf, .ref qg, .ref qa, .ref qo, .ref qt, .int (iI (((n : Nat) : Int))), .int (iI (((bw1 : Nat) : Int)))])), ce_i qb cI 4 (nZ (best1)), ce_i ql cI 4 (nZ (ln)), ce_i qh cI 4 (nZ (hm)), ce_i qg cI 16 (lg), ce_i qa cI 4 (nZ (ap)), ce_i qo cI 16 (nZ (o1)), ce_i qt cI 4 (nZ (tr1))] → va_S A s.heap H locs → lv_has ls 6 [(0, .ref hQ), (1, .int (iI (((b : Nat) : Int)))), (2, .int (iI (((wg : Nat) : Int)))), (3, .int (iI (((op (b * 4 + b) : Nat) : Int)))), (4, .int (iI (((q : Nat) : Int))))] → W p l e (rmD (kf + 1 + 4)) s m ([.ref hQ, .int (iI (((b : Nat) : Int))), .int (iI (((wg : Nat) : Int)))] : List Value).toArray below meth c H locs 0 0 Q (F0 m 60 ls []) := by
      intro fu
      induction fu with
      | zero => intro q bw1 best1 o1 tr1 hmu; exact absurd hmu (Nat.not_lt_zero _)
      | succ fu ih =>
        intro q bw1 best1 o1 tr1 hmu hq hb9 hbw1 hI hB hK1 hT ht1 H locs ls hP hD hS hl
        have hw3 : WtF hm tr b ≤ 76 * b := WtF_le hhm htr b
        have hw4 := fun h => wAt_le (h := hm b) (p := q) h (hhm b)
        refine lv_iload hx hb dX2_putBetter_60 (lv_at hl 4 rfl) ?_
        refine lv_bipush (v := iI (((30 : Nat) : Int))) hx hb dX2_putBetter_62 (by decide +kernel) ?_
        refine rz_cge (tgt := 129) hx hb dX2_putBetter_64 (by decide) (by omega) (by omega) (fun c1 => ?_) (fun c1 => ?_)
        · exact hret _ _ _ _ _ dX2_putBetter_129 ⟨_, _, _, _, rfl, imp_congr hI (fun P => ⟨fun h => ⟨h, by have h2 := bit_30 (hop _) (h.2.1 b (Nat.le_refl b) hb9); omega⟩, fun h => h.1⟩), hB, hK1, hT, ht1⟩ hP hD hS
        · refine lv_iload_n hx hb dX2_putBetter_67 rfl (lv_at hl 3 rfl) ?_
          refine lv_iload hx hb dX2_putBetter_68 (lv_at hl 4 rfl) ?_
          refine rz_shr hx hb dX2_putBetter_70 (by omega) (by have := hop (b * 4 + b); omega) ?_
          refine lv_iconst (v := iI (((1 : Nat) : Int))) hx hb dX2_putBetter_71 (by decide +kernel) ?_
          refine rz_and hx hb dX2_putBetter_72 ?_
          refine rz_ieq (tgt := 123) hx hb dX2_putBetter_73 (by decide) (by have := tb_r (op (b * 4 + b)) q; omega) (fun c2 => ?_) (fun c2 => ?_)
          · have hch := tb_f c2
            refine lv_iinc (v := iI (((q + 1 : Nat) : Int))) (lv' := [(4, .int (iI (((q + 1 : Nat) : Int)))), (0, .ref hQ), (1, .int (iI (((b : Nat) : Int)))), (2, .int (iI (((wg : Nat) : Int)))), (3, .int (iI (((op (b * 4 + b) : Nat) : Int))))]) hx hb dX2_putBetter_123 hl (k := 4) rfl (iI_inc _) (by decide) rfl (fun ls hl => ?_)
            refine lv_goto (tgt := 60) hx hb dX2_putBetter_126 (by decide) ?_
            exact ih (q + 1) (bw1) (best1) (o1) (tr1) (by omega) (by omega) (by omega) (by first | exact hbw1 | (have := imp_le g1; omega)) (by first | exact imp_step hI g1 (fun P => ⟨fun h => ⟨fun j hj => by (by_cases e : j = b; (rw [e, uN_s]; exact h.2); (rw [uN_n _ _ e, h.1.1 j (by omega), hT j (by omega)])), sol_down hb9 hr2 h.1.2 h.2⟩, fun h => ⟨⟨fun j hj => by (rw [h.1 j (by omega), uN_n _ _ (by omega), hT j hj]), sol_up hb9 hch hr2 h.2 (by rw [h.1 b (by omega), uN_s])⟩, by rw [h.1 b (by omega), uN_s]⟩⟩) | (obtain ⟨j, h1, h2, h3⟩ := hlr; rw [hK1 _ (by omega)] at h3; exact imp_skip hI (fun P h e => absurd e (sol_no1 h1 h2 h3 h.2))) | exact imp_skip hI (fun P h e => by have h1 := WtF_mono (hm := hm) (P := P) (k := b + 1) n (by omega); rw [WtF, e, WtF_congr b h.1] at h1; omega) | exact imp_skip hI (fun P h e => by have h1 := h.2.1 b (Nat.le_refl b) hb9; simp only [e, hch] at h1; cases h1)) (by first | exact g2 | exact f1 | exact hB) (by first | exact (fun j h => by rw [g3 j (by omega), f2 j h, hK1 j h]) | exact (fun j h => by rw [f2 j h, hK1 j h]) | exact hK1) (by first | exact (fun j h => by rw [g4 j (by omega), uN_n _ _ (by omega), hT j h]) | exact hT) (by first | exact g5 | exact ht1) _ _ _ hP hD hS (lv_sub hl [1, 2, 3, 4, 0] rfl)
          · have hch := tb_t c2
            have hw5 := hw4 (by omega)
            refine lv_iload_n hx hb dX2_putBetter_76 rfl (lv_at hl 2 rfl) ?_
            refine lv_aload_n hx hb dX2_putBetter_77 rfl (lv_at hl 0 rfl) ?_
            refine lv_iload_n hx hb dX2_putBetter_78 rfl (lv_at hl 1 rfl) ?_
            refine lv_iload hx hb dX2_putBetter_79 (lv_at hl 4 rfl) ?_
            have hPc := hP.sub (ws' := [(hQ, .inr (2, [.ref qb, .ref ql, .ref qh, .ref qf, .ref qg, .ref qa, .ref qo, .ref qt, .int (iI (((n : Nat) : Int))), .int (iI (((bw1 : Nat) : Int)))])), ce_i qh cI 4 (nZ (hm))]) [0, 3] rfl
            have hDc := hD.sub (ws' := [(hQ, .inr (2, [.ref qb, .ref ql, .ref qh, .ref qf, .ref qg, .ref qa, .ref qo, .ref qt, .int (iI (((n : Nat) : Int))), .int (iI (((bw1 : Nat) : Int)))])), ce_i qh cI 4 (nZ (hm))]) [0, 3] (by decide) rfl
            refine rz_calliR (va_runV (As := [.int (iI (((b : Nat) : Int))), .int (iI (((q : Nat) : Int)))]) (rest := [.int (iI (((wg : Nat) : Int)))]) ⟨hx, hb, hml, hown, hts⟩ (k_X2_weightAt l D cI cZ H.size hQ qb ql qh qf qg qa qo qt n bw1 hm b q (by omega) (by omega) hhm) (cwV 2 hts (gG (g_V tm_X2_143 ti_X2_weightAt tse_X2_weightAt tin_X2 cmX2_weightAt)) rfl rfl rfl (by decide +kernel) ⟨by simp only [rmD]; omega, by simp only [rmD]; omega⟩) ⟨cP_blind, va_recv hK hPc (ci := 2) (q0 := 0) rfl rfl, cP_pre hPc hK hN hDc⟩ rfl rfl hl.1 rfl (lv_room (Nat.le_of_ble_eq_true rfl)) dX2_putBetter_81 ⟨Nat.le_refl _, Nat.le_refl _⟩) hP hD hS hA [0, 3] rfl (fun z3 H locs hp hP hS => ?_)
            subst hp
            refine rn_add hx hb dX2_putBetter_84 ?_
            refine lv_istore (lv' := [(5, .int (iI (((wg + (wAt (hm b) q) : Nat) : Int)))), (0, .ref hQ), (1, .int (iI (((b : Nat) : Int)))), (2, .int (iI (((wg : Nat) : Int)))), (3, .int (iI (((op (b * 4 + b) : Nat) : Int)))), (4, .int (iI (((q : Nat) : Int))))]) hx hb dX2_putBetter_85 hl (by decide) rfl (fun ls hl => ?_)
            refine lv_iload hx hb dX2_putBetter_87 (lv_at hl 0 rfl) ?_
            refine lv_aload_n hx hb dX2_putBetter_89 rfl (lv_at hl 1 rfl) ?_
            refine va_get (D := D) (ci := 2) (v := .int (iI (((bw1 : Nat) : Int)))) (C := RX2) (T := TX2) (N := 10) hx hb hts in_X2 hown hK hP 0 rfl rfl 9 (by decide) (hts _ (List.mem_cons_of_mem _ tf_X2_36)) (fun _ h9 => h9) rfl dX2_putBetter_90 ?_
            refine rz_cge (tgt := 123) hx hb dX2_putBetter_93 (by decide) (by omega) (by omega) (fun c4 => ?_) (fun c4 => ?_)
            · have hpr := c4
              refine lv_iinc (v := iI (((q + 1 : Nat) : Int))) (lv' := [(4, .int (iI (((q + 1 : Nat) : Int)))), (5, .int (iI (((wg + (wAt (hm b) q) : Nat) : Int)))), (0, .ref hQ), (1, .int (iI (((b : Nat) : Int)))), (2, .int (iI (((wg : Nat) : Int)))), (3, .int (iI (((op (b * 4 + b) : Nat) : Int))))]) hx hb dX2_putBetter_123 hl (k := 5) rfl (iI_inc _) (by decide) rfl (fun ls hl => ?_)
              refine lv_goto (tgt := 60) hx hb dX2_putBetter_126 (by decide) ?_
              exact ih (q + 1) (bw1) (best1) (o1) (tr1) (by omega) (by omega) (by omega) (by first | exact hbw1 | (have := imp_le g1; omega)) (by first | exact imp_step hI g1 (fun P => ⟨fun h => ⟨fun j hj => by (by_cases e : j = b; (rw [e, uN_s]; exact h.2); (rw [uN_n _ _ e, h.1.1 j (by omega), hT j (by omega)])), sol_down hb9 hr2 h.1.2 h.2⟩, fun h => ⟨⟨fun j hj => by (rw [h.1 j (by omega), uN_n _ _ (by omega), hT j hj]), sol_up hb9 hch hr2 h.2 (by rw [h.1 b (by omega), uN_s])⟩, by rw [h.1 b (by omega), uN_s]⟩⟩) | (obtain ⟨j, h1, h2, h3⟩ := hlr; rw [hK1 _ (by omega)] at h3; exact imp_skip hI (fun P h e => absurd e (sol_no1 h1 h2 h3 h.2))) | exact imp_skip hI (fun P h e => by have h1 := WtF_mono (hm := hm) (P := P) (k := b + 1) n (by omega); rw [WtF, e, WtF_congr b h.1] at h1; omega) | exact imp_skip hI (fun P h e => by have h1 := h.2.1 b (Nat.le_refl b) hb9; simp only [e, hch] at h1; cases h1)) (by first | exact g2 | exact f1 | exact hB) (by first | exact (fun j h => by rw [g3 j (by omega), f2 j h, hK1 j h]) | exact (fun j h => by rw [f2 j h, hK1 j h]) | exact hK1) (by first | exact (fun j h => by rw [g4 j (by omega), uN_n _ _ (by omega), hT j h]) | exact hT) (by first | exact g5 | exact ht1) _ _ _ hP hD hS (lv_sub hl [2, 3, 4, 5, 0] rfl)
            · refine lv_aload_n hx hb dX2_putBetter_96 rfl (lv_at hl 1 rfl) ?_
              refine lv_iload_n hx hb dX2_putBetter_97 rfl (lv_at hl 2 rfl) ?_
              refine lv_iload hx hb dX2_putBetter_98 (lv_at hl 5 rfl) ?_
              have hPc := hP.sub (ws' := [(hQ, .inr (2, [.ref qb, .ref ql, .ref qh, .ref qf, .ref qg, .ref qa, .ref qo, .ref qt, .int (iI (((n : Nat) : Int))), .int (iI (((bw1 : Nat) : Int)))])), ce_i ql cI 4 (nZ (ln)), ce_i qg cI 16 (lg), ce_i qa cI 4 (nZ (ap)), ce_i qo cI 16 (nZ (o1))]) [0, 2, 4, 5, 6] rfl
              have hDc := hD.sub (ws' := [(hQ, .inr (2, [.ref qb, .ref ql, .ref qh, .ref qf, .ref qg, .ref qa, .ref qo, .ref qt, .int (iI (((n : Nat) : Int))), .int (iI (((bw1 : Nat) : Int)))])), ce_i ql cI 4 (nZ (ln)), ce_i qg cI 16 (lg), ce_i qa cI 4 (nZ (ap)), ce_i qo cI 16 (nZ (o1))]) [0, 2, 4, 5, 6] (by decide) rfl
              refine rz_calli (va_runV (As := [.int (iI (((b : Nat) : Int))), .int (iI (((q : Nat) : Int)))]) (rest := []) ⟨hx, hb, hml, hown, hts⟩ (k_X2_leavesRoom l D cI cZ H.size hQ qb ql qh qf qg qa qo qt n bw1 ln lg ap o1 b q (by omega) (by omega) (by omega) hln hlg hap hB) (cwV 2 hts (gG (g_V tm_X2_136 ti_X2_leavesRoom tse_X2_leavesRoom tin_X2 cmX2_leavesRoom)) rfl rfl rfl (by decide +kernel) ⟨by simp only [rmD]; omega, by simp only [rmD]; omega⟩) ⟨cP_blind, va_recv hK hPc (ci := 2) (q0 := 0) rfl rfl, cP_pre hPc hK hN hDc⟩ rfl rfl hl.1 rfl (lv_room (Nat.le_of_ble_eq_true rfl)) dX2_putBetter_100 ⟨Nat.le_refl _, Nat.le_refl _⟩) hP hD hS hA [0, 2, 4, 5, 6] [1, 3, 7] rfl (wr := [ce_i qb cI 4 (nZ (best1)), ce_i qh cI 4 (nZ (hm)), ce_i qt cI 4 (nZ (tr1))]) rfl (by decide) (by decide) (fun z5 w H locs hp hP hD hS => ?_)
              obtain ⟨r1, o2, rfl, rfl, f1, f2, f3, f4⟩ := hp
              have hP : va_P D vwCl [(hQ, .inr (2, [.ref qb, .ref ql, .ref qh, .ref qf, .ref qg, .ref qa, .ref qo, .ref qt, .int (iI (((n : Nat) : Int))), .int (iI (((bw1 : Nat) : Int)))])), ce_i qb cI 4 (nZ (best1)), ce_i ql cI 4 (nZ (ln)), ce_i qh cI 4 (nZ (hm)), ce_i qg cI 16 (lg), ce_i qa cI 4 (nZ (ap)), ce_i qo cI 16 (nZ (o2)), ce_i qt cI 4 (nZ (tr1))] H := hP.sub (ws' := [(hQ, .inr (2, [.ref qb, .ref ql, .ref qh, .ref qf, .ref qg, .ref qa, .ref qo, .ref qt, .int (iI (((n : Nat) : Int))), .int (iI (((bw1 : Nat) : Int)))])), ce_i qb cI 4 (nZ (best1)), ce_i ql cI 4 (nZ (ln)), ce_i qh cI 4 (nZ (hm)), ce_i qg cI 16 (lg), ce_i qa cI 4 (nZ (ap)), ce_i qo cI 16 (nZ (o2)), ce_i qt cI 4 (nZ (tr1))]) [3, 0, 4, 1, 5, 6, 7, 2] rfl
              have hD : va_D A [(hQ, .inr (2, [.ref qb, .ref ql, .ref qh, .ref qf, .ref qg, .ref qa, .ref qo, .ref qt, .int (iI (((n : Nat) : Int))), .int (iI (((bw1 : Nat) : Int)))])), ce_i qb cI 4 (nZ (best1)), ce_i ql cI 4 (nZ (ln)), ce_i qh cI 4 (nZ (hm)), ce_i qg cI 16 (lg), ce_i qa cI 4 (nZ (ap)), ce_i qo cI 16 (nZ (o2)), ce_i qt cI 4 (nZ (tr1))] := hD.sub (ws' := [(hQ, .inr (2, [.ref qb, .ref ql, .ref qh, .ref qf, .ref qg, .ref qa, .ref qo, .ref qt, .int (iI (((n : Nat) : Int))), .int (iI (((bw1 : Nat) : Int)))])), ce_i qb cI 4 (nZ (best1)), ce_i ql cI 4 (nZ (ln)), ce_i qh cI 4 (nZ (hm)), ce_i qg cI 16 (lg), ce_i qa cI 4 (nZ (ap)), ce_i qo cI 16 (nZ (o2)), ce_i qt cI 4 (nZ (tr1))]) [3, 0, 4, 1, 5, 6, 7, 2] (by decide) rfl
              refine rz_beq (z := r1) (tgt := 123) hx hb dX2_putBetter_103 (by decide) (fun c6 => ?_) (fun c6 => ?_)
              · have hlr := f4 c6
                refine lv_iinc (v := iI (((q + 1 : Nat) : Int))) (lv' := [(4, .int (iI (((q + 1 : Nat) : Int)))), (5, .int (iI (((wg + (wAt (hm b) q) : Nat) : Int)))), (0, .ref hQ), (1, .int (iI (((b : Nat) : Int)))), (2, .int (iI (((wg : Nat) : Int)))), (3, .int (iI (((op (b * 4 + b) : Nat) : Int))))]) hx hb dX2_putBetter_123 hl (k := 5) rfl (iI_inc _) (by decide) rfl (fun ls hl => ?_)
                refine lv_goto (tgt := 60) hx hb dX2_putBetter_126 (by decide) ?_
                exact ih (q + 1) (bw1) (best1) (o2) (tr1) (by omega) (by omega) (by omega) (by first | exact hbw1 | (have := imp_le g1; omega)) (by first | exact imp_step hI g1 (fun P => ⟨fun h => ⟨fun j hj => by (by_cases e : j = b; (rw [e, uN_s]; exact h.2); (rw [uN_n _ _ e, h.1.1 j (by omega), hT j (by omega)])), sol_down hb9 hr2 h.1.2 h.2⟩, fun h => ⟨⟨fun j hj => by (rw [h.1 j (by omega), uN_n _ _ (by omega), hT j hj]), sol_up hb9 hch hr2 h.2 (by rw [h.1 b (by omega), uN_s])⟩, by rw [h.1 b (by omega), uN_s]⟩⟩) | (obtain ⟨j, h1, h2, h3⟩ := hlr; rw [hK1 _ (by omega)] at h3; exact imp_skip hI (fun P h e => absurd e (sol_no1 h1 h2 h3 h.2))) | exact imp_skip hI (fun P h e => by have h1 := WtF_mono (hm := hm) (P := P) (k := b + 1) n (by omega); rw [WtF, e, WtF_congr b h.1] at h1; omega) | exact imp_skip hI (fun P h e => by have h1 := h.2.1 b (Nat.le_refl b) hb9; simp only [e, hch] at h1; cases h1)) (by first | exact g2 | exact f1 | exact hB) (by first | exact (fun j h => by rw [g3 j (by omega), f2 j h, hK1 j h]) | exact (fun j h => by rw [f2 j h, hK1 j h]) | exact hK1) (by first | exact (fun j h => by rw [g4 j (by omega), uN_n _ _ (by omega), hT j h]) | exact hT) (by first | exact g5 | exact ht1) _ _ _ hP hD hS (lv_sub hl [2, 3, 4, 5, 0] rfl)
              · have hr2 : ∀ j, b < j → j < n → o2 ((b + 1) * 4 + j) = op (b * 4 + j) &&& besF ln lg ap b q j := fun j h1 h2 => by rw [show (b + 1) * 4 + j = b * 4 + 4 + j by omega, f3 c6 j h1 h2, hK1 _ (by omega)]
                have hws : wg + wAt (hm b) q = WtF hm (uN tr1 b q) (b + 1) := by
                  rw [WtF, uN_s, hwg, WtF_congr b (P := uN tr1 b q) (P' := tr) (fun j hj => by rw [uN_n _ _ (by omega)]; exact hT j hj)]
                have ht2 : ∀ j, uN tr1 b q j < 30 := uN_all (P := fun x => x < 30) ht1 _ (by omega)
                refine lv_aload_n hx hb dX2_putBetter_106 rfl (lv_at hl 1 rfl) ?_
                refine va_get (D := D) (ci := 2) (v := .ref qt) (C := RX2) (T := TX2) (N := 10) hx hb hts in_X2 hown hK hP 0 rfl rfl 7 (by decide) (hts _ (List.mem_cons_of_mem _ tf_X2_33)) (fun _ h9 => h9) rfl dX2_putBetter_107 ?_
                refine lv_iload_n hx hb dX2_putBetter_110 rfl (lv_at hl 2 rfl) ?_
                refine lv_iload hx hb dX2_putBetter_111 (lv_at hl 5 rfl) ?_
                refine rn_astM hx hb hK hP hD hS 7 0 rfl rfl (by omega) (by omega) dX2_putBetter_113 (fun H locs hP hD hS => ?_)
                have hP : va_P D vwCl [(hQ, .inr (2, [.ref qb, .ref ql, .ref qh, .ref qf, .ref qg, .ref qa, .ref qo, .ref qt, .int (iI (((n : Nat) : Int))), .int (iI (((bw1 : Nat) : Int)))])), ce_i qb cI 4 (nZ (best1)), ce_i ql cI 4 (nZ (ln)), ce_i qh cI 4 (nZ (hm)), ce_i qg cI 16 (lg), ce_i qa cI 4 (nZ (ap)), ce_i qo cI 16 (nZ (o2)), ce_i qt cI 4 (nZ (uN tr1 b q))] H := hP
                have hD : va_D A [(hQ, .inr (2, [.ref qb, .ref ql, .ref qh, .ref qf, .ref qg, .ref qa, .ref qo, .ref qt, .int (iI (((n : Nat) : Int))), .int (iI (((bw1 : Nat) : Int)))])), ce_i qb cI 4 (nZ (best1)), ce_i ql cI 4 (nZ (ln)), ce_i qh cI 4 (nZ (hm)), ce_i qg cI 16 (lg), ce_i qa cI 4 (nZ (ap)), ce_i qo cI 16 (nZ (o2)), ce_i qt cI 4 (nZ (uN tr1 b q))] := hD
                refine lv_aload_n hx hb dX2_putBetter_114 rfl (lv_at hl 1 rfl) ?_
                refine lv_iload_n hx hb dX2_putBetter_115 rfl (lv_at hl 2 rfl) ?_
                refine lv_iconst (v := iI (((1 : Nat) : Int))) hx hb dX2_putBetter_116 (by decide +kernel) ?_
                refine rn_add hx hb dX2_putBetter_117 ?_
                refine lv_iload hx hb dX2_putBetter_118 (lv_at hl 0 rfl) ?_
                have hPc := hP.sub (ws' := [(hQ, .inr (2, [.ref qb, .ref ql, .ref qh, .ref qf, .ref qg, .ref qa, .ref qo, .ref qt, .int (iI (((n : Nat) : Int))), .int (iI (((bw1 : Nat) : Int)))])), ce_i qb cI 4 (nZ (best1)), ce_i ql cI 4 (nZ (ln)), ce_i qh cI 4 (nZ (hm)), ce_i qg cI 16 (lg), ce_i qa cI 4 (nZ (ap)), ce_i qo cI 16 (nZ (o2)), ce_i qt cI 4 (nZ (uN tr1 b q))]) [0, 1, 2, 3, 4, 5, 6, 7] rfl
                have hDc := hD.sub (ws' := [(hQ, .inr (2, [.ref qb, .ref ql, .ref qh, .ref qf, .ref qg, .ref qa, .ref qo, .ref qt, .int (iI (((n : Nat) : Int))), .int (iI (((bw1 : Nat) : Int)))])), ce_i qb cI 4 (nZ (best1)), ce_i ql cI 4 (nZ (ln)), ce_i qh cI 4 (nZ (hm)), ce_i qg cI 16 (lg), ce_i qa cI 4 (nZ (ap)), ce_i qo cI 16 (nZ (o2)), ce_i qt cI 4 (nZ (uN tr1 b q))]) [0, 1, 2, 3, 4, 5, 6, 7] (by decide) rfl
                refine rz_callv (va_runV (As := [.int (iI (((b + 1 : Nat) : Int))), .int (iI (((wg + (wAt (hm b) q) : Nat) : Int)))]) (rest := []) ⟨hx, hb, hml, hown, hts⟩ (ihR H.size hQ qb ql qh qf qg qa qo qt n bw1 best1 ln hm lg ap o2 (uN tr1 b q) (b + 1) (wg + (wAt (hm b) q)) (by omega) (by omega) (by omega) hws (by omega) hln hlg hap f1 hhm ht2) (cwV 2 hts (gG (g_V tm_X2_132 ti_X2_putBetter tse_X2_putBetter tin_X2 cmX2_putBetter)) rfl rfl rfl (by decide +kernel) ⟨by simp only [rmD]; omega, by simp only [rmD]; omega⟩) ⟨cP_blind, va_recv hK hPc (ci := 2) (q0 := 0) rfl rfl, cP_pre hPc hK hN hDc⟩ rfl rfl hl.1 rfl (lv_room (Nat.le_of_ble_eq_true rfl)) dX2_putBetter_120 ⟨Nat.le_refl _, Nat.le_refl _⟩) hP hD hS hA [0, 1, 2, 3, 4, 5, 6, 7] [] rfl (wr := []) rfl (by decide) (by decide) (fun w H locs hp hP hD hS => ?_)
                obtain ⟨bw2, best2, o3, tr3, rfl, g1, g2, g3, g4, g5⟩ := hp
                have hP : va_P D vwCl [(hQ, .inr (2, [.ref qb, .ref ql, .ref qh, .ref qf, .ref qg, .ref qa, .ref qo, .ref qt, .int (iI (((n : Nat) : Int))), .int (iI (((bw2 : Nat) : Int)))])), ce_i qb cI 4 (nZ (best2)), ce_i ql cI 4 (nZ (ln)), ce_i qh cI 4 (nZ (hm)), ce_i qg cI 16 (lg), ce_i qa cI 4 (nZ (ap)), ce_i qo cI 16 (nZ (o3)), ce_i qt cI 4 (nZ (tr3))] H := hP.sub (ws' := [(hQ, .inr (2, [.ref qb, .ref ql, .ref qh, .ref qf, .ref qg, .ref qa, .ref qo, .ref qt, .int (iI (((n : Nat) : Int))), .int (iI (((bw2 : Nat) : Int)))])), ce_i qb cI 4 (nZ (best2)), ce_i ql cI 4 (nZ (ln)), ce_i qh cI 4 (nZ (hm)), ce_i qg cI 16 (lg), ce_i qa cI 4 (nZ (ap)), ce_i qo cI 16 (nZ (o3)), ce_i qt cI 4 (nZ (tr3))]) [0, 1, 2, 3, 4, 5, 6, 7] rfl
                have hD : va_D A [(hQ, .inr (2, [.ref qb, .ref ql, .ref qh, .ref qf, .ref qg, .ref qa, .ref qo, .ref qt, .int (iI (((n : Nat) : Int))), .int (iI (((bw2 : Nat) : Int)))])), ce_i qb cI 4 (nZ (best2)), ce_i ql cI 4 (nZ (ln)), ce_i qh cI 4 (nZ (hm)), ce_i qg cI 16 (lg), ce_i qa cI 4 (nZ (ap)), ce_i qo cI 16 (nZ (o3)), ce_i qt cI 4 (nZ (tr3))] := hD.sub (ws' := [(hQ, .inr (2, [.ref qb, .ref ql, .ref qh, .ref qf, .ref qg, .ref qa, .ref qo, .ref qt, .int (iI (((n : Nat) : Int))), .int (iI (((bw2 : Nat) : Int)))])), ce_i qb cI 4 (nZ (best2)), ce_i ql cI 4 (nZ (ln)), ce_i qh cI 4 (nZ (hm)), ce_i qg cI 16 (lg), ce_i qa cI 4 (nZ (ap)), ce_i qo cI 16 (nZ (o3)), ce_i qt cI 4 (nZ (tr3))]) [0, 1, 2, 3, 4, 5, 6, 7] (by decide) rfl
                refine lv_iinc (v := iI (((q + 1 : Nat) : Int))) (lv' := [(4, .int (iI (((q + 1 : Nat) : Int)))), (5, .int (iI (((wg + (wAt (hm b) q) : Nat) : Int)))), (0, .ref hQ), (1, .int (iI (((b : Nat) : Int)))), (2, .int (iI (((wg : Nat) : Int)))), (3, .int (iI (((op (b * 4 + b) : Nat) : Int))))]) hx hb dX2_putBetter_123 hl (k := 5) rfl (iI_inc _) (by decide) rfl (fun ls hl => ?_)
                refine lv_goto (tgt := 60) hx hb dX2_putBetter_126 (by decide) ?_
                exact ih (q + 1) (bw2) (best2) (o3) (tr3) (by omega) (by omega) (by omega) (by first | exact hbw1 | (have := imp_le g1; omega)) (by first | exact imp_step hI g1 (fun P => ⟨fun h => ⟨fun j hj => by (by_cases e : j = b; (rw [e, uN_s]; exact h.2); (rw [uN_n _ _ e, h.1.1 j (by omega), hT j (by omega)])), sol_down hb9 hr2 h.1.2 h.2⟩, fun h => ⟨⟨fun j hj => by (rw [h.1 j (by omega), uN_n _ _ (by omega), hT j hj]), sol_up hb9 hch hr2 h.2 (by rw [h.1 b (by omega), uN_s])⟩, by rw [h.1 b (by omega), uN_s]⟩⟩) | (obtain ⟨j, h1, h2, h3⟩ := hlr; rw [hK1 _ (by omega)] at h3; exact imp_skip hI (fun P h e => absurd e (sol_no1 h1 h2 h3 h.2))) | exact imp_skip hI (fun P h e => by have h1 := WtF_mono (hm := hm) (P := P) (k := b + 1) n (by omega); rw [WtF, e, WtF_congr b h.1] at h1; omega) | exact imp_skip hI (fun P h e => by have h1 := h.2.1 b (Nat.le_refl b) hb9; simp only [e, hch] at h1; cases h1)) (by first | exact g2 | exact f1 | exact hB) (by first | exact (fun j h => by rw [g3 j (by omega), f2 j h, hK1 j h]) | exact (fun j h => by rw [f2 j h, hK1 j h]) | exact hK1) (by first | exact (fun j h => by rw [g4 j (by omega), uN_n _ _ (by omega), hT j h]) | exact hT) (by first | exact g5 | exact ht1) _ _ _ hP hD hS (lv_sub hl [2, 3, 4, 5, 0] rfl)
    have hw3 : WtF hm tr b ≤ 76 * b := WtF_le hhm htr b
    have hl3 := lwF_le (op := op) (hm := hm) (n := n) (rr := b * 4) (n - b)
    refine lv_iload_n hx hb dX2_putBetter_0 rfl (lv_at hl 2 rfl) ?_
    refine lv_aload_n hx hb dX2_putBetter_1 rfl (lv_at hl 0 rfl) ?_
    refine lv_iload_n hx hb dX2_putBetter_2 rfl (lv_at hl 1 rfl) ?_
    have hPc := hP.sub (ws' := [(hQ, .inr (2, [.ref qb, .ref ql, .ref qh, .ref qf, .ref qg, .ref qa, .ref qo, .ref qt, .int (iI (((n : Nat) : Int))), .int (iI (((bw : Nat) : Int)))])), ce_i qh cI 4 (nZ (hm)), ce_i qo cI 16 (nZ (op))]) [0, 3, 6] rfl
    have hDc := hD.sub (ws' := [(hQ, .inr (2, [.ref qb, .ref ql, .ref qh, .ref qf, .ref qg, .ref qa, .ref qo, .ref qt, .int (iI (((n : Nat) : Int))), .int (iI (((bw : Nat) : Int)))])), ce_i qh cI 4 (nZ (hm)), ce_i qo cI 16 (nZ (op))]) [0, 3, 6] (by decide) rfl
    refine rz_calliR (va_runV (As := [.int (iI (((b : Nat) : Int)))]) (rest := [.int (iI (((wg : Nat) : Int)))]) ⟨hx, hb, hml, hown, hts⟩ (k_X2_leastWeightFrom l D cI cZ s.heap.size hQ qb ql qh qf qg qa qo qt n bw hm op b (by omega) (by omega) hhm hop) (cwV 1 hts (gG (g_V tm_X2_140 ti_X2_leastWeightFrom tse_X2_leastWeightFrom tin_X2 cmX2_leastWeightFrom)) rfl rfl rfl (by decide +kernel) ⟨by simp only [rmD]; omega, by simp only [rmD]; omega⟩) ⟨cP_blind, va_recv hK hPc (ci := 2) (q0 := 0) rfl rfl, cP_pre hPc hK hN hDc⟩ rfl rfl hl.1 rfl (lv_room (Nat.le_of_ble_eq_true rfl)) dX2_putBetter_3 ⟨Nat.le_refl _, Nat.le_refl _⟩) hP hD hS hA [0, 3, 6] rfl (fun z8 H locs hp hP hS => ?_)
    subst hp
    refine rn_add hx hb dX2_putBetter_6 ?_
    refine lv_aload_n hx hb dX2_putBetter_7 rfl (lv_at hl 0 rfl) ?_
    refine va_get (D := D) (ci := 2) (v := .int (iI (((bw : Nat) : Int)))) (C := RX2) (T := TX2) (N := 10) hx hb hts in_X2 hown hK hP 0 rfl rfl 9 (by decide) (hts _ (List.mem_cons_of_mem _ tf_X2_36)) (fun _ h9 => h9) rfl dX2_putBetter_8 ?_
    refine rz_clt (tgt := 15) hx hb dX2_putBetter_11 (by decide) (by omega) (by omega) (fun c9 => ?_) (fun c9 => ?_)
    · refine lv_iload_n hx hb dX2_putBetter_15 rfl (lv_at hl 1 rfl) ?_
      refine lv_aload_n hx hb dX2_putBetter_16 rfl (lv_at hl 0 rfl) ?_
      refine va_get (D := D) (ci := 2) (v := .int (iI (((n : Nat) : Int)))) (C := RX2) (T := TX2) (N := 10) hx hb hts in_X2 hown hK hP 0 rfl rfl 8 (by decide) (hts _ (List.mem_cons_of_mem _ tf_X2_45)) (fun _ h9 => h9) rfl dX2_putBetter_17 ?_
      refine rz_clt (tgt := 46) hx hb dX2_putBetter_20 (by decide) (by omega) (by omega) (fun c10 => ?_) (fun c10 => ?_)
      · refine lv_aload_n hx hb dX2_putBetter_46 rfl (lv_at hl 0 rfl) ?_
        refine va_get (D := D) (ci := 2) (v := .ref qo) (C := RX2) (T := TX2) (N := 10) hx hb hts in_X2 hown hK hP 0 rfl rfl 6 (by decide) (hts _ (List.mem_cons_of_mem _ tf_X2_30)) (fun _ h9 => h9) rfl dX2_putBetter_47 ?_
        refine lv_iload_n hx hb dX2_putBetter_50 rfl (lv_at hl 1 rfl) ?_
        refine lv_iconst (v := iI (((4 : Nat) : Int))) hx hb dX2_putBetter_51 (by decide +kernel) ?_
        refine rn_mul hx hb dX2_putBetter_52 ?_
        refine lv_iload_n hx hb dX2_putBetter_53 rfl (lv_at hl 1 rfl) ?_
        refine rn_add hx hb dX2_putBetter_54 ?_
        refine rn_aldM hx hb hK hP 6 0 rfl rfl (by omega) (by omega) dX2_putBetter_55 ?_
        refine lv_istore_n (lv' := [(3, .int (iI (((op ((b * 4) + b) : Nat) : Int)))), (0, .ref hQ), (1, .int (iI (((b : Nat) : Int)))), (2, .int (iI (((wg : Nat) : Int))))]) hx hb dX2_putBetter_56 rfl hl (by decide) rfl (fun ls hl => ?_)
        refine lv_iconst (v := iI (((0 : Nat) : Int))) hx hb dX2_putBetter_57 (by decide +kernel) ?_
        refine lv_istore (lv' := [(4, .int (iI (((0 : Nat) : Int)))), (3, .int (iI (((op ((b * 4) + b) : Nat) : Int)))), (0, .ref hQ), (1, .int (iI (((b : Nat) : Int)))), (2, .int (iI (((wg : Nat) : Int))))]) hx hb dX2_putBetter_58 hl (by decide) rfl (fun ls hl => ?_)
        exact K60 (30 - (0) + 1) (0) (bw) (best) (op) (tr) (Nat.lt_succ_self _) (by omega) (by omega) (by omega) (imp_none (fun P h => absurd h.2 (Nat.not_lt_zero _))) hop (fun _ _ => rfl) (fun _ _ => rfl) htr _ _ _ hP hD hS (lv_sub hl [2, 3, 4, 1, 0] rfl)
      · refine lv_aload_n hx hb dX2_putBetter_23 rfl (lv_at hl 0 rfl) ?_
        refine lv_iload_n hx hb dX2_putBetter_24 rfl (lv_at hl 2 rfl) ?_
        refine va_put (D := D) (ci := 2) (v := .int (iI (((wg : Nat) : Int)))) (ty := .int) (C := RX2) (T := TX2) (N := 10) hx hb hts in_X2 tyX2 tyX2_ok nmX2 hown hK hP hD hS 0 rfl rfl 9 (by decide) (hts _ (List.mem_cons_of_mem _ tf_X2_36)) (fun _ h9 => h9) rfl (by decide +kernel) rfl rfl (Nat.le_of_ble_eq_true rfl) dX2_putBetter_25 (fun H locs hP hD hS => ?_)
        have hP : va_P D vwCl [(hQ, .inr (2, [.ref qb, .ref ql, .ref qh, .ref qf, .ref qg, .ref qa, .ref qo, .ref qt, .int (iI (((n : Nat) : Int))), .int (iI (((wg : Nat) : Int)))])), ce_i qb cI 4 (nZ (best)), ce_i ql cI 4 (nZ (ln)), ce_i qh cI 4 (nZ (hm)), ce_i qg cI 16 (lg), ce_i qa cI 4 (nZ (ap)), ce_i qo cI 16 (nZ (op)), ce_i qt cI 4 (nZ (tr))] H := hP
        have hD : va_D A [(hQ, .inr (2, [.ref qb, .ref ql, .ref qh, .ref qf, .ref qg, .ref qa, .ref qo, .ref qt, .int (iI (((n : Nat) : Int))), .int (iI (((wg : Nat) : Int)))])), ce_i qb cI 4 (nZ (best)), ce_i ql cI 4 (nZ (ln)), ce_i qh cI 4 (nZ (hm)), ce_i qg cI 16 (lg), ce_i qa cI 4 (nZ (ap)), ce_i qo cI 16 (nZ (op)), ce_i qt cI 4 (nZ (tr))] := hD
        refine lv_aload_n hx hb dX2_putBetter_28 rfl (lv_at hl 0 rfl) ?_
        refine va_get (D := D) (ci := 2) (v := .ref qt) (C := RX2) (T := TX2) (N := 10) hx hb hts in_X2 hown hK hP 0 rfl rfl 7 (by decide) (hts _ (List.mem_cons_of_mem _ tf_X2_33)) (fun _ h9 => h9) rfl dX2_putBetter_29 ?_
        refine lv_iconst (v := iI (((0 : Nat) : Int))) hx hb dX2_putBetter_32 (by decide +kernel) ?_
        refine lv_aload_n hx hb dX2_putBetter_33 rfl (lv_at hl 0 rfl) ?_
        refine va_get (D := D) (ci := 2) (v := .ref qb) (C := RX2) (T := TX2) (N := 10) hx hb hts in_X2 hown hK hP 0 rfl rfl 0 (by decide) (hts _ (List.mem_cons_of_mem _ tf_X2_9)) (fun _ h9 => h9) rfl dX2_putBetter_34 ?_
        refine lv_iconst (v := iI (((0 : Nat) : Int))) hx hb dX2_putBetter_37 (by decide +kernel) ?_
        refine lv_aload_n hx hb dX2_putBetter_38 rfl (lv_at hl 0 rfl) ?_
        refine va_get (D := D) (ci := 2) (v := .int (iI (((n : Nat) : Int)))) (C := RX2) (T := TX2) (N := 10) hx hb hts in_X2 hown hK hP 0 rfl rfl 8 (by decide) (hts _ (List.mem_cons_of_mem _ tf_X2_45)) (fun _ h9 => h9) rfl dX2_putBetter_39 ?_
        refine rn_copyM (rest := []) hx hb (hml.trans hl.1.symm) hown hts tm_X2_75 hK hP hD hS 7 1 0 rfl rfl rfl (by omega) (by omega) (by omega) (by omega) (show 1 ≤ kf + 1 + 4 by omega) (Nat.le_trans (m := 40) (Nat.le_of_ble_eq_true rfl) (show 40 ≤ 40 * (kf + 1 + 4) by omega)) dX2_putBetter_42 (fun H locs hP hD hS => ?_)
        have hP : va_P D vwCl [(hQ, .inr (2, [.ref qb, .ref ql, .ref qh, .ref qf, .ref qg, .ref qa, .ref qo, .ref qt, .int (iI (((n : Nat) : Int))), .int (iI (((wg : Nat) : Int)))])), ce_i qb cI 4 (nZ (va_cpy tr best 0 0 n)), ce_i ql cI 4 (nZ (ln)), ce_i qh cI 4 (nZ (hm)), ce_i qg cI 16 (lg), ce_i qa cI 4 (nZ (ap)), ce_i qo cI 16 (nZ (op)), ce_i qt cI 4 (nZ (tr))] H := hP
        have hD : va_D A [(hQ, .inr (2, [.ref qb, .ref ql, .ref qh, .ref qf, .ref qg, .ref qa, .ref qo, .ref qt, .int (iI (((n : Nat) : Int))), .int (iI (((wg : Nat) : Int)))])), ce_i qb cI 4 (nZ (va_cpy tr best 0 0 n)), ce_i ql cI 4 (nZ (ln)), ce_i qh cI 4 (nZ (hm)), ce_i qg cI 16 (lg), ce_i qa cI 4 (nZ (ap)), ce_i qo cI 16 (nZ (op)), ce_i qt cI 4 (nZ (tr))] := hD
        exact hret _ _ _ _ _ dX2_putBetter_45 ⟨_, _, _, _, rfl, imp_leaf (by omega) hwg (by omega) (fun j hj => by rw [pk_cpy_in (by omega) (by omega)]; simp), hop, (fun _ _ => rfl), (fun _ _ => rfl), htr⟩ hP hD hS
    · exact hret _ _ _ _ _ dX2_putBetter_14 ⟨_, _, _, _, rfl, imp_none (fun P h => by have h1 := wt_low hbn hhm hop h.2 (n - b) (Nat.le_refl _); rw [show n - (n - b) = b by omega, WtF_congr b h.1] at h1; omega), hop, (fun _ _ => rfl), (fun _ _ => rfl), htr⟩ hP hD hS

set_option maxHeartbeats 4000000 in
set_option maxRecDepth 100000 in
theorem k_X2_findsBest (l : Launch) (D : va_G) (cI cZ : ClassId) (sz : Nat) (hQ : Nat) (qb : Nat) (ql : Nat) (qh : Nat) (qf : Nat) (qg : Nat) (qa : Nat) (qo : Nat) (qt : Nat) (n : Nat) (bw : Nat) (best : Nat → Nat) (ln : Nat → Nat) (hm : Nat → Nat) (lg : Nat → Int) (ap : Nat → Nat) (op : Nat → Nat) (tr : Nat → Nat) (al : Nat) (hn : n ≤ 4) (hal : al ≤ 4) (hbw : bw ≤ 1000) (hln : ∀ j, ln j ≤ 10) (hlg : ∀ j, -10 ≤ lg j ∧ lg j ≤ 10) (hap : ∀ j, ap j < 16) (hop : ∀ j, op j < 1073741824) (hhm : ∀ j, hm j < 30) (htr : ∀ j, tr j < 30) : Ci l yX2_findsBest wsX2_findsBest (rmD 9) D vwCl [(cI, .int), (cZ, .boolean)] [.ref hQ, .int (iI (((al : Nat) : Int)))] [(hQ, .inr (2, [.ref qb, .ref ql, .ref qh, .ref qf, .ref qg, .ref qa, .ref qo, .ref qt, .int (iI (((n : Nat) : Int))), .int (iI (((bw : Nat) : Int)))])), ce_i qb cI 4 (nZ (best)), ce_i ql cI 4 (nZ (ln)), ce_i qh cI 4 (nZ (hm)), ce_i qg cI 16 (lg), ce_i qa cI 4 (nZ (ap)), ce_i qo cI 16 (nZ (op)), ce_i qt cI 4 (nZ (tr))] sz (fun z w => ∃ rz : Bool, ∃ bw2 : Nat, ∃ best2 : Nat → Nat, ∃ op2 : Nat → Nat, ∃ tr2 : Nat → Nat, w = [(hQ, .inr (2, [.ref qb, .ref ql, .ref qh, .ref qf, .ref qg, .ref qa, .ref qo, .ref qt, .int (iI (((n : Nat) : Int))), .int (iI (((bw2 : Nat) : Int)))])), ce_i qb cI 4 (nZ (best2)), ce_i ql cI 4 (nZ (ln)), ce_i qh cI 4 (nZ (hm)), ce_i qg cI 16 (lg), ce_i qa cI 4 (nZ (ap)), ce_i qo cI 16 (nZ (op2)), ce_i qt cI 4 (nZ (tr2))] ∧ (z = b2z (rz)) ∧ (∀ j, op2 j < 1073741824) ∧ (∀ j, tr2 j < 30) ∧ (bw2 ≤ 1000) ∧ (rz = true → ∃ P, SolF ln lg ap n 0 (fun j => op (0 * 4 + j)) P ∧ bw2 = WtF hm P n ∧ bw2 < (al + 1) * 64 ∧ (∀ j, j < n → best2 j = P j) ∧ ∀ P', SolF ln lg ap n 0 (fun j => op (0 * 4 + j)) P' → bw2 ≤ WtF hm P' n ∧ (lexlt n P' P → bw2 < WtF hm P' n)) ∧ (rz = false → ∀ P, SolF ln lg ap n 0 (fun j => op (0 * 4 + j)) P → (al + 1) * 64 ≤ WtF hm P n)) 0 0 := by
  refine Cz_of (cc := cX2_findsBest) (nL := 4) (by decide) rfl (Nat.le_of_ble_eq_true rfl) ?_
  intro p e s m below meth c A Q hsz C hK hN hA hP hD hS hret ls hl
  obtain ⟨hx, hb, hml, hown, hts⟩ := id C
  have hown : s.vm.findClass RX2 = some m.cls := hown
  have hl : lv_has ls 4 [(0, .ref hQ), (1, .int (iI (((al : Nat) : Int))))] := hl
  have in_X2 : ∀ w ∈ u_ws RX2 TX2 10, w ∈ wsX2_findsBest := fun w h => List.mem_cons_of_mem _ (inX2 w h)
  have K2 : ∀ (fu : Nat) (ch : Nat) (bw1 : Nat) (best1 : Nat → Nat) (o1 : Nat → Nat) (tr1 : Nat → Nat), al + 1 - ch < fu → (ch ≤ al + 1) → (bw1 ≤ 1000) → (∀ j, o1 j < 1073741824) → (∀ j, j < 4 → o1 j = op j) → (∀ j, tr1 j < 30) → (∀ P, SolF ln lg ap n 0 (fun j => op (0 * 4 + j)) P → ch * 64 ≤ WtF hm P n) → ∀ (H : Heap) (locs : List Loc) (ls : Array Slot), va_P D vwCl [(hQ, .inr (2, [.ref qb, .ref ql, .ref qh, .ref qf, .ref qg, .ref qa, .ref qo, .ref qt, .int (iI (((n : Nat) : Int))), .int (iI (((bw1 : Nat) : Int)))])), ce_i qb cI 4 (nZ (best1)), ce_i ql cI 4 (nZ (ln)), ce_i qh cI 4 (nZ (hm)), ce_i qg cI 16 (lg), ce_i qa cI 4 (nZ (ap)), ce_i qo cI 16 (nZ (o1)), ce_i qt cI 4 (nZ (tr1))] H → va_D A [(hQ, .inr (2, [.ref qb, .ref ql, .ref qh, .ref qf, .ref qg, .ref qa, .ref qo, .ref qt, .int (iI (((n : Nat) : Int))), .int (iI (((bw1 : Nat) : Int)))])), ce_i qb cI 4 (nZ (best1)), ce_i ql cI 4 (nZ (ln)), ce_i qh cI 4 (nZ (hm)), ce_i qg cI 16 (lg), ce_i qa cI 4 (nZ (ap)), ce_i qo cI 16 (nZ (o1)), ce_i qt cI 4 (nZ (tr1))] → va_S A s.heap H locs → lv_has ls 4 [(0, .ref hQ), (1, .int (iI (((al : Nat) : Int)))), (2, .int (iI (((ch : Nat) : Int))))] → W p l e (rmD 9) s m ([.ref hQ, .int (iI (((al : Nat) : Int)))] : List Value).toArray below meth c H locs 0 0 Q (F0 m 2 ls []) := by
    intro fu
    induction fu with
    | zero => intro ch bw1 best1 o1 tr1 hmu; exact absurd hmu (Nat.not_lt_zero _)
    | succ fu ih =>
      intro ch bw1 best1 o1 tr1 hmu hch hbw1 hB hK1 ht1 hno H locs ls hP hD hS hl
      refine lv_iload_n hx hb dX2_findsBest_2 rfl (lv_at hl 2 rfl) ?_
      refine lv_iload_n hx hb dX2_findsBest_3 rfl (lv_at hl 1 rfl) ?_
      refine rz_cgt (tgt := 41) hx hb dX2_findsBest_4 (by decide) (by omega) (by omega) (fun c1 => ?_) (fun c1 => ?_)
      · refine lv_iconst (v := iI (((0 : Nat) : Int))) hx hb dX2_findsBest_41 (by decide +kernel) ?_
        exact hret _ _ _ _ _ _ dX2_findsBest_42 (Or.inl rfl) ⟨false, _, _, _, _, rfl, rfl, hB, ht1, hbw1, (fun h => nomatch h), (fun _ P h => by have := hno P h; rw [show ch = al + 1 by omega] at this; exact this)⟩ hP hD hS
      · refine lv_iload_n hx hb dX2_findsBest_7 rfl (lv_at hl 2 rfl) ?_
        refine lv_iconst (v := iI (((1 : Nat) : Int))) hx hb dX2_findsBest_8 (by decide +kernel) ?_
        refine rn_add hx hb dX2_findsBest_9 ?_
        refine lv_bipush (v := iI (((64 : Nat) : Int))) hx hb dX2_findsBest_10 (by decide +kernel) ?_
        refine rn_mul hx hb dX2_findsBest_12 ?_
        refine lv_istore_n (lv' := [(3, .int (iI ((((ch + 1) * 64 : Nat) : Int)))), (0, .ref hQ), (1, .int (iI (((al : Nat) : Int)))), (2, .int (iI (((ch : Nat) : Int))))]) hx hb dX2_findsBest_13 rfl hl (by decide) rfl (fun ls hl => ?_)
        refine lv_aload_n hx hb dX2_findsBest_14 rfl (lv_at hl 1 rfl) ?_
        refine lv_iload_n hx hb dX2_findsBest_15 rfl (lv_at hl 0 rfl) ?_
        refine va_put (D := D) (ci := 2) (v := .int (iI ((((ch + 1) * 64 : Nat) : Int)))) (ty := .int) (C := RX2) (T := TX2) (N := 10) hx hb hts in_X2 tyX2 tyX2_ok nmX2 hown hK hP hD hS 0 rfl rfl 9 (by decide) (hts _ (List.mem_cons_of_mem _ tf_X2_36)) (fun _ h9 => h9) rfl (by decide +kernel) rfl rfl (Nat.le_of_ble_eq_true rfl) dX2_findsBest_16 (fun H locs hP hD hS => ?_)
        have hP : va_P D vwCl [(hQ, .inr (2, [.ref qb, .ref ql, .ref qh, .ref qf, .ref qg, .ref qa, .ref qo, .ref qt, .int (iI (((n : Nat) : Int))), .int (iI ((((ch + 1) * 64 : Nat) : Int)))])), ce_i qb cI 4 (nZ (best1)), ce_i ql cI 4 (nZ (ln)), ce_i qh cI 4 (nZ (hm)), ce_i qg cI 16 (lg), ce_i qa cI 4 (nZ (ap)), ce_i qo cI 16 (nZ (o1)), ce_i qt cI 4 (nZ (tr1))] H := hP
        have hD : va_D A [(hQ, .inr (2, [.ref qb, .ref ql, .ref qh, .ref qf, .ref qg, .ref qa, .ref qo, .ref qt, .int (iI (((n : Nat) : Int))), .int (iI ((((ch + 1) * 64 : Nat) : Int)))])), ce_i qb cI 4 (nZ (best1)), ce_i ql cI 4 (nZ (ln)), ce_i qh cI 4 (nZ (hm)), ce_i qg cI 16 (lg), ce_i qa cI 4 (nZ (ap)), ce_i qo cI 16 (nZ (o1)), ce_i qt cI 4 (nZ (tr1))] := hD
        refine lv_aload_n hx hb dX2_findsBest_19 rfl (lv_at hl 1 rfl) ?_
        refine lv_iconst (v := iI (((0 : Nat) : Int))) hx hb dX2_findsBest_20 (by decide +kernel) ?_
        refine lv_iconst (v := iI (((0 : Nat) : Int))) hx hb dX2_findsBest_21 (by decide +kernel) ?_
        have hPc := hP.sub (ws' := [(hQ, .inr (2, [.ref qb, .ref ql, .ref qh, .ref qf, .ref qg, .ref qa, .ref qo, .ref qt, .int (iI (((n : Nat) : Int))), .int (iI ((((ch + 1) * 64 : Nat) : Int)))])), ce_i qb cI 4 (nZ (best1)), ce_i ql cI 4 (nZ (ln)), ce_i qh cI 4 (nZ (hm)), ce_i qg cI 16 (lg), ce_i qa cI 4 (nZ (ap)), ce_i qo cI 16 (nZ (o1)), ce_i qt cI 4 (nZ (tr1))]) [0, 1, 2, 3, 4, 5, 6, 7] rfl
        have hDc := hD.sub (ws' := [(hQ, .inr (2, [.ref qb, .ref ql, .ref qh, .ref qf, .ref qg, .ref qa, .ref qo, .ref qt, .int (iI (((n : Nat) : Int))), .int (iI ((((ch + 1) * 64 : Nat) : Int)))])), ce_i qb cI 4 (nZ (best1)), ce_i ql cI 4 (nZ (ln)), ce_i qh cI 4 (nZ (hm)), ce_i qg cI 16 (lg), ce_i qa cI 4 (nZ (ap)), ce_i qo cI 16 (nZ (o1)), ce_i qt cI 4 (nZ (tr1))]) [0, 1, 2, 3, 4, 5, 6, 7] (by decide) rfl
        refine rz_callv (va_runV (As := [.int (iI (((0 : Nat) : Int))), .int (iI (((0 : Nat) : Int)))]) (rest := []) ⟨hx, hb, hml, hown, hts⟩ (k_X2_putBetter l D cI cZ 4 H.size hQ qb ql qh qf qg qa qo qt n ((ch + 1) * 64) best1 ln hm lg ap o1 tr1 0 0 (by omega) (by omega) (by omega) rfl (by omega) hln hlg hap hB hhm ht1) (cwV 2 hts (gG (g_V tm_X2_132 ti_X2_putBetter tse_X2_putBetter tin_X2 cmX2_putBetter)) rfl rfl rfl (by decide +kernel) ⟨Nat.le_of_ble_eq_true rfl, Nat.le_of_ble_eq_true rfl⟩) ⟨cP_blind, va_recv hK hPc (ci := 2) (q0 := 0) rfl rfl, cP_pre hPc hK hN hDc⟩ rfl rfl hl.1 rfl (lv_room (Nat.le_of_ble_eq_true rfl)) dX2_findsBest_22 ⟨Nat.le_refl _, Nat.le_refl _⟩) hP hD hS hA [0, 1, 2, 3, 4, 5, 6, 7] [] rfl (wr := []) rfl (by decide) (by decide) (fun w H locs hp hP hD hS => ?_)
        obtain ⟨bw2, best2, o2, tr2, rfl, g1, g2, g3, g4, g5⟩ := hp
        have hP : va_P D vwCl [(hQ, .inr (2, [.ref qb, .ref ql, .ref qh, .ref qf, .ref qg, .ref qa, .ref qo, .ref qt, .int (iI (((n : Nat) : Int))), .int (iI (((bw2 : Nat) : Int)))])), ce_i qb cI 4 (nZ (best2)), ce_i ql cI 4 (nZ (ln)), ce_i qh cI 4 (nZ (hm)), ce_i qg cI 16 (lg), ce_i qa cI 4 (nZ (ap)), ce_i qo cI 16 (nZ (o2)), ce_i qt cI 4 (nZ (tr2))] H := hP.sub (ws' := [(hQ, .inr (2, [.ref qb, .ref ql, .ref qh, .ref qf, .ref qg, .ref qa, .ref qo, .ref qt, .int (iI (((n : Nat) : Int))), .int (iI (((bw2 : Nat) : Int)))])), ce_i qb cI 4 (nZ (best2)), ce_i ql cI 4 (nZ (ln)), ce_i qh cI 4 (nZ (hm)), ce_i qg cI 16 (lg), ce_i qa cI 4 (nZ (ap)), ce_i qo cI 16 (nZ (o2)), ce_i qt cI 4 (nZ (tr2))]) [0, 1, 2, 3, 4, 5, 6, 7] rfl
        have hD : va_D A [(hQ, .inr (2, [.ref qb, .ref ql, .ref qh, .ref qf, .ref qg, .ref qa, .ref qo, .ref qt, .int (iI (((n : Nat) : Int))), .int (iI (((bw2 : Nat) : Int)))])), ce_i qb cI 4 (nZ (best2)), ce_i ql cI 4 (nZ (ln)), ce_i qh cI 4 (nZ (hm)), ce_i qg cI 16 (lg), ce_i qa cI 4 (nZ (ap)), ce_i qo cI 16 (nZ (o2)), ce_i qt cI 4 (nZ (tr2))] := hD.sub (ws' := [(hQ, .inr (2, [.ref qb, .ref ql, .ref qh, .ref qf, .ref qg, .ref qa, .ref qo, .ref qt, .int (iI (((n : Nat) : Int))), .int (iI (((bw2 : Nat) : Int)))])), ce_i qb cI 4 (nZ (best2)), ce_i ql cI 4 (nZ (ln)), ce_i qh cI 4 (nZ (hm)), ce_i qg cI 16 (lg), ce_i qa cI 4 (nZ (ap)), ce_i qo cI 16 (nZ (o2)), ce_i qt cI 4 (nZ (tr2))]) [0, 1, 2, 3, 4, 5, 6, 7] (by decide) rfl
        refine lv_aload_n hx hb dX2_findsBest_25 rfl (lv_at hl 1 rfl) ?_
        refine va_get (D := D) (ci := 2) (v := .int (iI (((bw2 : Nat) : Int)))) (C := RX2) (T := TX2) (N := 10) hx hb hts in_X2 hown hK hP 0 rfl rfl 9 (by decide) (hts _ (List.mem_cons_of_mem _ tf_X2_36)) (fun _ h9 => h9) rfl dX2_findsBest_26 ?_
        refine lv_iload_n hx hb dX2_findsBest_29 rfl (lv_at hl 0 rfl) ?_
        refine rz_cge (tgt := 35) hx hb dX2_findsBest_30 (by decide) (by have := imp_le g1; omega) (by omega) (fun c3 => ?_) (fun c3 => ?_)
        · have gI : Imp hm n (fun P => SolF ln lg ap n 0 (fun j => op (0 * 4 + j)) P) ((ch + 1) * 64) best1 bw2 best2 := imp_congr g1 (fun P => ⟨fun h => ⟨fun j hj => absurd hj (Nat.not_lt_zero _), ⟨fun j h1 h2 => by (have h3 := h.1 j h1 h2; simp only [hK1 (0 * 4 + j) (by omega)]; exact h3), h.2⟩⟩, fun h => ⟨fun j h1 h2 => by (have h3 := h.2.1 j h1 h2; simp only [hK1 (0 * 4 + j) (by omega)] at h3; exact h3), h.2.2⟩⟩)
          have g8 := c3
          refine lv_iinc (v := iI (((ch + 1 : Nat) : Int))) (lv' := [(2, .int (iI (((ch + 1 : Nat) : Int)))), (3, .int (iI ((((ch + 1) * 64 : Nat) : Int)))), (0, .ref hQ), (1, .int (iI (((al : Nat) : Int))))]) hx hb dX2_findsBest_35 hl (k := 3) rfl (iI_inc _) (by decide) rfl (fun ls hl => ?_)
          refine lv_goto (tgt := 2) hx hb dX2_findsBest_38 (by decide) ?_
          exact ih (ch + 1) (bw2) (best2) (o2) (tr2) (by omega) (by omega) (by have := imp_le g1; omega) g2 (fun j h => by rw [g3 j (by omega), hK1 j h]) g5 (fun P h => by rcases gI with ⟨e1, e2, e3⟩ | ⟨P2, e1, e2, e3, e4⟩; exact e3 P h; omega) _ _ _ hP hD hS (lv_sub hl [2, 3, 0] rfl)
        · have gI : Imp hm n (fun P => SolF ln lg ap n 0 (fun j => op (0 * 4 + j)) P) ((ch + 1) * 64) best1 bw2 best2 := imp_congr g1 (fun P => ⟨fun h => ⟨fun j hj => absurd hj (Nat.not_lt_zero _), ⟨fun j h1 h2 => by (have h3 := h.1 j h1 h2; simp only [hK1 (0 * 4 + j) (by omega)]; exact h3), h.2⟩⟩, fun h => ⟨fun j h1 h2 => by (have h3 := h.2.1 j h1 h2; simp only [hK1 (0 * 4 + j) (by omega)] at h3; exact h3), h.2.2⟩⟩)
          have g8 := c3
          refine lv_iconst (v := iI (((1 : Nat) : Int))) hx hb dX2_findsBest_33 (by decide +kernel) ?_
          exact hret _ _ _ _ _ _ dX2_findsBest_34 (Or.inr rfl) ⟨true, _, _, _, _, rfl, rfl, g2, g5, (by have := imp_le g1; omega), (fun _ => by rcases gI with ⟨e1, e2, e3⟩ | ⟨P2, e1, e2, e3, e4, e5⟩; omega; exact ⟨P2, e1, e2, by omega, e4, e5⟩), (fun h => nomatch h)⟩ hP hD hS
  refine lv_iconst (v := iI (((0 : Nat) : Int))) hx hb dX2_findsBest_0 (by decide +kernel) ?_
  refine lv_istore_n (lv' := [(2, .int (iI (((0 : Nat) : Int)))), (0, .ref hQ), (1, .int (iI (((al : Nat) : Int))))]) hx hb dX2_findsBest_1 rfl hl (by decide) rfl (fun ls hl => ?_)
  exact K2 (al + 1 - (0) + 1) (0) (bw) (best) (op) (tr) (Nat.lt_succ_self _) (by omega) (by omega) hop (fun _ _ => rfl) htr (fun P h => by simp) _ _ _ hP hD hS (lv_sub hl [1, 2, 0] rfl)
end
section
/-! what a good plan is, and that the search looks for just these -/
def RuleOK (ln P : Nat → Nat) (kd a b d : Int) : Prop :=
  (kd = 0 → ((P b.toNat % 10 + ln b.toNat : Nat) : Int) + d ≤ ((P a.toNat % 10 : Nat) : Int)) ∧ (kd = 1 → P a.toNat / 10 ≠ P b.toNat / 10) ∧ (kd = 2 → ((P a.toNat % 10 + ln a.toNat : Nat) : Int) ≤ d) ∧ (kd = 3 → d ≤ ((P a.toNat % 10 : Nat) : Int))
def GoodW (ln fr : Nat → Nat) (rk ra rb rd : Nat → Int) (nr : Nat) (wo : Int) (n : Nat) (P : Nat → Nat) : Prop :=
  (∀ j, j < n → (fr j).testBit (P j) = true) ∧ (∀ i j, i < j → j < n → P i / 10 = P j / 10 → P i % 10 + ln i ≤ P j % 10 ∨ P j % 10 + ln j ≤ P i % 10) ∧ (∀ r, r < nr → ((r : Nat) : Int) ≠ wo → RuleOK ln P (rk r) (ra r) (rb r) (rd r))
/-- rules as they may be, of n batches -/
def RulesOK (rk ra rb rd : Nat → Int) (nr n : Nat) : Prop := ∀ j, j < nr → (0 ≤ rk j ∧ rk j ≤ 3) ∧ (0 ≤ ra j ∧ ra j < (n : Int)) ∧ (rk j ≤ 1 → 0 ≤ rb j ∧ rb j < (n : Int) ∧ ra j ≠ rb j) ∧ (rk j ≠ 1 → 0 ≤ rd j ∧ rd j ≤ 10)
section TG
variable {rk ra rb rd : Nat → Int} {wo : Int} {lg0 lg : Nat → Int} {ap0 ap op0 op2 ln fr P : Nat → Nat} {n nr : Nat}
theorem tkL_mono (kd a b d : Int) (j : Nat) : lg j ≤ tkL lg kd a b d j := by
  unfold tkL; split
  · by_cases e : j = a.toNat * 4 + b.toNat
    · subst e; rw [uZ_s]; omega
    · rw [uZ_n _ _ e]; omega
  · exact Int.le_refl _
theorem TL_ge : ∀ k r, r < k → ((r : Nat) : Int) ≠ wo → rk r = 0 → rd r ≤ TL rk ra rb rd wo lg0 k ((ra r).toNat * 4 + (rb r).toNat) := by
  intro k
  induction k with
  | zero => intro r h; omega
  | succ k ih =>
    intro r hr hw h0
    rw [TL]
    by_cases e : ((k : Nat) : Int) = wo
    · rw [if_pos e]; exact ih r (by omega) hw h0
    · rw [if_neg e]
      by_cases e2 : r = k
      · subst e2; unfold tkL; rw [if_pos h0, uZ_s]; omega
      · exact Int.le_trans (ih r (by omega) hw h0) (tkL_mono _ _ _ _ _)
theorem TL_at (h0 : ∀ j, j < 16 → lg0 j = -10) (hv : RulesOK rk ra rb rd nr n) (hn : n ≤ 4) : ∀ k, k ≤ nr → ∀ a b, a < 4 → b < 4 → TL rk ra rb rd wo lg0 k (a * 4 + b) = -10 ∨ ∃ r, r < k ∧ ((r : Nat) : Int) ≠ wo ∧ rk r = 0 ∧ (ra r).toNat = a ∧ (rb r).toNat = b ∧ TL rk ra rb rd wo lg0 k (a * 4 + b) = rd r := by
  intro k
  induction k with
  | zero => intro _ a b ha hb; exact Or.inl (h0 _ (by omega))
  | succ k ih =>
    intro hk a b ha hb
    have h1 := ih (by omega) a b ha hb
    rw [TL]
    by_cases e : ((k : Nat) : Int) = wo
    · rw [if_pos e]
      rcases h1 with h1 | ⟨r, q1, q2, q3⟩
      · exact Or.inl h1
      · exact Or.inr ⟨r, by omega, q2, q3⟩
    · rw [if_neg e]; unfold tkL
      by_cases e2 : rk k = 0
      · rw [if_pos e2]
        have hk2 := hv k (by omega)
        have hb2 := hk2.2.2.1 (by omega)
        by_cases e3 : a * 4 + b = (ra k).toNat * 4 + (rb k).toNat
        · have ea : (ra k).toNat = a := by omega
          have eb : (rb k).toNat = b := by omega
          rw [e3, uZ_s]; rw [← e3]
          rcases Int.le_total (rd k) (TL rk ra rb rd wo lg0 k (a * 4 + b)) with hle | hle
          · rw [Int.max_eq_left hle]
            rcases h1 with h1 | ⟨r, q1, q2, q3⟩
            · exact Or.inl h1
            · exact Or.inr ⟨r, by omega, q2, q3⟩
          · rw [Int.max_eq_right hle]
            exact Or.inr ⟨k, by omega, e, e2, ea, eb, rfl⟩
        · rw [uZ_n _ _ e3]
          rcases h1 with h1 | ⟨r, q1, q2, q3⟩
          · exact Or.inl h1
          · exact Or.inr ⟨r, by omega, q2, q3⟩
      · rw [if_neg e2]
        rcases h1 with h1 | ⟨r, q1, q2, q3⟩
        · exact Or.inl h1
        · exact Or.inr ⟨r, by omega, q2, q3⟩
theorem tkA_tb {a b : Int} (hab : a.toNat ≠ b.toNat) (x y : Nat) : (tkA ap 1 a b x).testBit y = true ↔ ((ap x).testBit y = true ∨ (x = a.toNat ∧ y = b.toNat) ∨ (x = b.toNat ∧ y = a.toNat)) := by
  unfold tkA; rw [if_pos rfl]
  have t2 : ∀ u : Nat, (1 * 2 ^ u).testBit y = decide (y = u) := fun u => by
    rw [Nat.one_mul, Nat.testBit_two_pow]; congr 1; apply propext; exact eq_comm
  by_cases e1 : x = b.toNat
  · rw [e1, uN_s, uN_n _ _ (Ne.symm hab), Nat.testBit_or, t2, Bool.or_eq_true, decide_eq_true_eq]
    constructor
    · rintro (h | h)
      · exact Or.inl h
      · exact Or.inr (Or.inr ⟨rfl, h⟩)
    · rintro (h | ⟨h1, h2⟩ | ⟨h1, h2⟩)
      · exact Or.inl h
      · exact absurd h1.symm hab
      · exact Or.inr h2
  · rw [uN_n _ _ e1]
    by_cases e2 : x = a.toNat
    · rw [e2, uN_s, Nat.testBit_or, t2, Bool.or_eq_true, decide_eq_true_eq]
      constructor
      · rintro (h | h)
        · exact Or.inl h
        · exact Or.inr (Or.inl ⟨rfl, h⟩)
      · rintro (h | ⟨h1, h2⟩ | ⟨h1, h2⟩)
        · exact Or.inl h
        · exact Or.inr h2
        · exact absurd h1 hab
    · rw [uN_n _ _ e2]; simp [e1, e2]
theorem TA_iff (h0 : ∀ j, j < 4 → ap0 j = 0) (hv : RulesOK rk ra rb rd nr n) : ∀ k, k ≤ nr → ∀ a b, a < 4 → ((TA rk ra rb wo ap0 k a).testBit b = true ↔ ∃ r, r < k ∧ ((r : Nat) : Int) ≠ wo ∧ rk r = 1 ∧ (((ra r).toNat = a ∧ (rb r).toNat = b) ∨ ((ra r).toNat = b ∧ (rb r).toNat = a))) := by
  intro k
  induction k with
  | zero => intro _ a b ha; rw [TA, h0 a ha, Nat.zero_testBit]; constructor
            · intro h; cases h
            · rintro ⟨r, hr, -⟩; omega
  | succ k ih =>
    intro hk a b ha
    have h1 := ih (by omega) a b ha
    rw [TA]
    by_cases e : ((k : Nat) : Int) = wo
    · rw [if_pos e, h1]
      constructor
      · rintro ⟨r, q1, q2⟩; exact ⟨r, by omega, q2⟩
      · rintro ⟨r, q1, q2, q3⟩
        have : r ≠ k := fun q => q2 (q ▸ e)
        exact ⟨r, by omega, q2, q3⟩
    · rw [if_neg e]
      by_cases e2 : rk k = 1
      · have hk2 := hv k (by omega)
        have hb2 := hk2.2.2.1 (by omega)
        rw [e2, tkA_tb (by omega), h1]
        constructor
        · rintro (⟨r, q1, q2⟩ | ⟨q1, q2⟩ | ⟨q1, q2⟩)
          · exact ⟨r, by omega, q2⟩
          · exact ⟨k, by omega, e, e2, Or.inl ⟨q1.symm, q2.symm⟩⟩
          · exact ⟨k, by omega, e, e2, Or.inr ⟨q2.symm, q1.symm⟩⟩
        · rintro ⟨r, q1, q2, q3, q4⟩
          by_cases er : r = k
          · subst er
            rcases q4 with ⟨u, v⟩ | ⟨u, v⟩
            · exact Or.inr (Or.inl ⟨u.symm, v.symm⟩)
            · exact Or.inr (Or.inr ⟨v.symm, u.symm⟩)
          · exact Or.inl ⟨r, by omega, q2, q3, q4⟩
      · unfold tkA; rw [if_neg e2, h1]
        constructor
        · rintro ⟨r, q1, q2⟩; exact ⟨r, by omega, q2⟩
        · rintro ⟨r, q1, q2, q3, q4⟩
          have : r ≠ k := fun q => e2 (q ▸ q3)
          exact ⟨r, by omega, q2, q3, q4⟩
theorem TO_iff (hv : RulesOK rk ra rb rd nr n) : ∀ k, k ≤ nr → ∀ j q, q < 30 → ((TO ln rk ra rd wo op0 k j).testBit q = true ↔ ((op0 j).testBit q = true ∧ ∀ r, r < k → ((r : Nat) : Int) ≠ wo → (ra r).toNat = j → (rk r = 2 → ((q % 10 + ln j : Nat) : Int) ≤ rd r) ∧ (rk r = 3 → rd r ≤ ((q % 10 : Nat) : Int)))) := by
  intro k
  induction k with
  | zero => intro _ j q _; rw [TO]; constructor
            · intro h; exact ⟨h, fun r hr => by omega⟩
            · exact fun h => h.1
  | succ k ih =>
    intro hk j q hq
    have h1 := ih (by omega) j q hq
    have hk2 := hv k (by omega)
    rw [TO]
    by_cases e : ((k : Nat) : Int) = wo
    · rw [if_pos e, h1]
      refine and_congr_right (fun _ => ⟨fun h r hr hw => h r (Nat.lt_of_le_of_ne (by omega) (fun q => hw (q ▸ e))) hw, fun h r hr hw => h r (by omega) hw⟩)
    · rw [if_neg e]; unfold tkO
      by_cases e2 : rk k = 2
      · rw [if_pos e2]
        by_cases ej : j = (ra k).toNat
        · rw [ej, uN_s, Nat.testBit_and, Bool.and_eq_true, ← ej, h1, ie_tb _ (daysF_lt _ _) _ hq, daysF_tb]
          have hd := hk2.2.2.2 (by omega)
          constructor
          · rintro ⟨⟨q1, q2⟩, q3⟩
            refine ⟨q1, fun r hr hw hra => ?_⟩
            by_cases er : r = k
            · subst er; simp at q3; exact ⟨fun _ => by omega, fun h => by omega⟩
            · exact q2 r (by omega) hw hra
          · rintro ⟨q1, q2⟩
            refine ⟨⟨q1, fun r hr hw hra => q2 r (by omega) hw hra⟩, ?_⟩
            have := (q2 k (by omega) e ej.symm).1 e2
            simp; omega
        · rw [uN_n _ _ ej, h1]
          refine and_congr_right (fun _ => ⟨fun h r hr hw hra => h r (Nat.lt_of_le_of_ne (by omega) (fun q => ej (q ▸ hra.symm))) hw hra, fun h r hr hw hra => h r (by omega) hw hra⟩)
      · rw [if_neg e2]
        by_cases e3 : rk k = 3
        · rw [if_pos e3]
          by_cases ej : j = (ra k).toNat
          · rw [ej, uN_s, Nat.testBit_and, Bool.and_eq_true, ← ej, h1, ie_tb _ (daysF_lt _ _) _ hq, daysF_tb]
            have hd := hk2.2.2.2 (by omega)
            constructor
            · rintro ⟨⟨q1, q2⟩, q3⟩
              refine ⟨q1, fun r hr hw hra => ?_⟩
              by_cases er : r = k
              · subst er; simp at q3; exact ⟨fun h => by omega, fun _ => by omega⟩
              · exact q2 r (by omega) hw hra
            · rintro ⟨q1, q2⟩
              refine ⟨⟨q1, fun r hr hw hra => q2 r (by omega) hw hra⟩, ?_⟩
              have := (q2 k (by omega) e ej.symm).2 e3
              simp; omega
          · rw [uN_n _ _ ej, h1]
            refine and_congr_right (fun _ => ⟨fun h r hr hw hra => h r (Nat.lt_of_le_of_ne (by omega) (fun q => ej (q ▸ hra.symm))) hw hra, fun h r hr hw hra => h r (by omega) hw hra⟩)
        · rw [if_neg e3, h1]
          refine and_congr_right (fun _ => ⟨fun h r hr hw hra => ?_, fun h r hr hw hra => h r (by omega) hw hra⟩)
          by_cases er : r = k
          · subst er; exact ⟨fun q => absurd q e2, fun q => absurd q e3⟩
          · exact h r (by omega) hw hra
theorem bes_iff {i p j q : Nat} (hp : p < 30) (hq : q < 30) : (besF ln lg ap i p j).testBit q = true ↔ (((p % 10 + ln i : Nat) : Int) + lg (j * 4 + i) ≤ ((q % 10 : Nat) : Int) ∧ ((q % 10 + ln j : Nat) : Int) + lg (i * 4 + j) ≤ ((p % 10 : Nat) : Int) ∧ (p / 10 = q / 10 → (ap i).testBit j = false ∧ (p % 10 + ln i ≤ q % 10 ∨ q % 10 + ln j ≤ p % 10))) := by
  have h10 : q % 10 < 10 := Nat.mod_lt _ (by decide)
  have sh : ∀ T, T < 1024 → ((T * 2 ^ (p / 10 * 10)).testBit q = true ↔ (p / 10 = q / 10 ∧ T.testBit (q % 10) = true)) := by
    intro T hT
    rw [Nat.testBit_mul_two_pow]
    constructor
    · intro h
      simp at h
      have h2 : q - p / 10 * 10 < 10 := by
        rcases Nat.lt_or_ge (q - p / 10 * 10) 10 with h3 | h3
        · exact h3
        · have : T < 2 ^ (q - p / 10 * 10) := Nat.lt_of_lt_of_le hT (show 2 ^ 10 ≤ 2 ^ (q - p / 10 * 10) from Nat.pow_le_pow_right (by decide) h3)
          rw [Nat.testBit_lt_two_pow this] at h; exact absurd h.2 (by decide)
      have h4 : p / 10 = q / 10 := by omega
      refine ⟨h4, ?_⟩
      rw [show q % 10 = q - p / 10 * 10 by omega]; exact h.2
    · rintro ⟨h4, h5⟩
      rw [show q - p / 10 * 10 = q % 10 by omega, h5]; simp; omega
  rw [besF, dif_tb (by omega), Bool.and_eq_true, ie_tb _ (daysF_lt _ _) _ hq, daysF_tb, Bool.not_eq_true']
  by_cases ha : (ap i).testBit j = true
  · rw [if_pos ha]
    have s1 := sh 1023 (by decide)
    rw [show Nat.testBit 1023 (q % 10) = true from by rw [show (1023 : Nat) = 2 ^ 10 - 1 from rfl, Nat.testBit_two_pow_sub_one]; simp [h10]] at s1
    constructor
    · rintro ⟨q1, q2⟩
      simp at q1
      refine ⟨by omega, by omega, fun e => ?_⟩
      have := s1.mpr ⟨e, rfl⟩
      rw [this] at q2; cases q2
    · rintro ⟨q1, q2, q3⟩
      refine ⟨by simp; omega, ?_⟩
      cases hs : (1023 * 2 ^ (p / 10 * 10)).testBit q
      · rfl
      · have := (q3 (s1.mp hs).1).1; rw [ha] at this; cases this
  · rw [if_neg ha]
    have s1 := sh _ (daysF_lt ((((p % 10 : Nat) : Int) - ((ln j : Nat) : Int)) + ((1 : Nat) : Int)) (((p % 10 + ln i : Nat) : Int) - ((1 : Nat) : Int)))
    rw [daysF_tb, decide_eq_true_eq] at s1
    constructor
    · rintro ⟨q1, q2⟩
      simp at q1
      refine ⟨by omega, by omega, fun e => ⟨by simpa using ha, ?_⟩⟩
      rcases Nat.lt_or_ge (q % 10) (p % 10 + ln i) with h1 | h1
      · rcases Nat.lt_or_ge (p % 10) (q % 10 + ln j) with h2 | h2
        · have := s1.mpr ⟨e, by omega, by omega, h10⟩
          rw [this] at q2; cases q2
        · exact Or.inr h2
      · exact Or.inl h1
    · rintro ⟨q1, q2, q3⟩
      refine ⟨by simp; omega, ?_⟩
      cases hs : (daysF ((((p % 10 : Nat) : Int) - ((ln j : Nat) : Int)) + ((1 : Nat) : Int)) (((p % 10 + ln i : Nat) : Int) - ((1 : Nat) : Int)) * 2 ^ (p / 10 * 10)).testBit q
      · rfl
      · have h1 := s1.mp hs
        have h2 := (q3 h1.1).2
        omega
/-- what the search holds when the rules are taken over: it looks for the good plans -/
theorem take_good (hn : n ≤ 4) (hv : RulesOK rk ra rb rd nr n) (hfit : ∀ j q, j < n → (fr j).testBit q = true → q < 30 ∧ q % 10 + ln j ≤ 10) (h1 : ∀ j, j < 16 → lg0 j = -10) (h2 : ∀ j, j < 4 → ap0 j = 0) (h3 : ∀ j, j < n → op0 j = fr j) (h4 : lg = TL rk ra rb rd wo lg0 nr) (h5 : ap = TA rk ra rb wo ap0 nr)
    (h9 : ∀ j t, (op2 j).testBit t = true → (TO ln rk ra rd wo op0 nr j).testBit t = true) (hE : ∀ P, KeepP ln lg n (TO ln rk ra rd wo op0 nr) P → KeepP ln lg n op2 P) (hB : ∀ j, op2 j < 1073741824) :
    ∀ P, SolF ln lg ap n 0 (fun j => op2 (0 * 4 + j)) P ↔ GoodW ln fr rk ra rb rd nr wo n P := by
  have e0 : (fun j => op2 (0 * 4 + j)) = op2 := by funext j; simp
  rw [e0]
  intro P
  constructor
  · intro h
    have hb : ∀ j, j < n → (op2 j).testBit (P j) = true ∧ P j < 30 := fun j hj => ⟨h.1 j (Nat.zero_le _) hj, bit_30 (hB _) (h.1 j (Nat.zero_le _) hj)⟩
    have hto : ∀ j, j < n → (fr j).testBit (P j) = true ∧ ∀ r, r < nr → ((r : Nat) : Int) ≠ wo → (ra r).toNat = j → (rk r = 2 → ((P j % 10 + ln j : Nat) : Int) ≤ rd r) ∧ (rk r = 3 → rd r ≤ ((P j % 10 : Nat) : Int)) := fun j hj => by
      have := (TO_iff (ln := ln) (wo := wo) (op0 := op0) hv nr (Nat.le_refl _) j (P j) (hb j hj).2).mp (h9 j _ (hb j hj).1)
      rw [h3 j hj] at this; exact this
    have hpr : ∀ i j, i < j → j < n → _ := fun i j hij hj => (bes_iff (ln := ln) (lg := lg) (ap := ap) (i := i) (j := j) (hb i (by omega)).2 (hb j hj).2).mp (h.2 i j (Nat.zero_le _) hij hj)
    refine ⟨fun j hj => (hto j hj).1, fun i j hij hj e => ((hpr i j hij hj).2.2 e).2, fun r hr hw => ?_⟩
    obtain ⟨v1, v2, v3, v4⟩ := hv r hr
    refine ⟨fun hk => ?_, fun hk => ?_, fun hk => ((hto (ra r).toNat (by omega)).2 r hr hw rfl).1 hk, fun hk => ((hto (ra r).toNat (by omega)).2 r hr hw rfl).2 hk⟩
    · have v5 := v3 (by omega)
      have hge := TL_ge (rk := rk) (ra := ra) (rb := rb) (rd := rd) (wo := wo) (lg0 := lg0) nr r hr hw hk
      rw [← h4] at hge
      rcases Nat.lt_trichotomy (ra r).toNat (rb r).toNat with hlt | heq | hlt
      · have := (hpr (ra r).toNat (rb r).toNat hlt (by omega)).2.1; omega
      · omega
      · have := (hpr (rb r).toNat (ra r).toNat hlt (by omega)).1; omega
    · have v5 := v3 (by omega)
      intro e
      have ta := fun a b ha => TA_iff (rk := rk) (ra := ra) (rb := rb) (rd := rd) (wo := wo) (ap0 := ap0) h2 hv nr (Nat.le_refl _) a b ha
      rw [← h5] at ta
      rcases Nat.lt_trichotomy (ra r).toNat (rb r).toNat with hlt | heq | hlt
      · have h6 := ((hpr (ra r).toNat (rb r).toNat hlt (by omega)).2.2 e).1
        rw [(ta (ra r).toNat (rb r).toNat (by omega)).mpr ⟨r, hr, hw, hk, Or.inl ⟨rfl, rfl⟩⟩] at h6; cases h6
      · omega
      · have h6 := ((hpr (rb r).toNat (ra r).toNat hlt (by omega)).2.2 e.symm).1
        rw [(ta (rb r).toNat (ra r).toNat (by omega)).mpr ⟨r, hr, hw, hk, Or.inr ⟨rfl, rfl⟩⟩] at h6; cases h6
  · intro h
    have hf : ∀ j, j < n → P j < 30 ∧ P j % 10 + ln j ≤ 10 := fun j hj => hfit j (P j) hj (h.1 j hj)
    have hlag : ∀ a b, a < n → b < n → lg (a * 4 + b) = -10 ∨ ((P b % 10 + ln b : Nat) : Int) + lg (a * 4 + b) ≤ ((P a % 10 : Nat) : Int) := fun a b ha hb => by
      rcases TL_at (wo := wo) h1 hv hn nr (Nat.le_refl _) a b (by omega) (by omega) with q | ⟨r, q1, q2, q3, q4, q5, q6⟩
      · rw [← h4] at q; exact Or.inl q
      · rw [← h4] at q6
        have := (h.2.2 r q1 q2).1 q3
        rw [q4, q5] at this; right; omega
    have hk0 : KeepP ln lg n (TO ln rk ra rd wo op0 nr) P := by
      refine ⟨fun j hj => ⟨(TO_iff (ln := ln) (wo := wo) (op0 := op0) hv nr (Nat.le_refl _) j (P j) (hf j hj).1).mpr ⟨by rw [h3 j hj]; exact h.1 j hj, fun r hr hw hra => ?_⟩, (hf j hj).1⟩, fun a b ha hb hne => (hlag a b ha hb).resolve_left hne⟩
      have := h.2.2 r hr hw
      subst hra
      exact ⟨this.2.2.1, this.2.2.2⟩
    have hk2 := hE P hk0
    refine ⟨fun j _ hj => (hk2.1 j hj).1, fun i j _ hij hj => (bes_iff (hf i (by omega)).1 (hf j hj).1).mpr ⟨?_, ?_, fun e => ⟨?_, h.2.1 i j hij hj e⟩⟩⟩
    · have := hf i (by omega)
      rcases hlag j i hj (by omega) with q | q <;> omega
    · have := hf j hj
      rcases hlag i j (by omega) hj with q | q <;> omega
    · cases hs : (ap i).testBit j
      · rfl
      · rw [h5] at hs
        obtain ⟨r, q1, q2, q3, q4⟩ := (TA_iff (rd := rd) h2 hv nr (Nat.le_refl _) i j (by omega)).mp hs
        have := (h.2.2 r q1 q2).2.1 q3
        rcases q4 with ⟨u, v⟩ | ⟨u, v⟩
        · rw [u, v] at this; exact absurd e this
        · rw [u, v] at this; exact absurd e.symm this
end TG
end
