/-! Search: its small methods -/
def stI (x : Nat) : Nat := ((x ||| x / 2 ^ 10) ||| x / 2 ^ 20) &&& 1023
theorem stI_lt (x : Nat) : stI x < 1024 := Nat.and_lt_two_pow _ (n := 10) (by decide)
/-- Integer.numberOfTrailingZeros, as it is written, for small numbers -/
def nzA (x : Nat) : Int := if x = 0 then -1 else (((x - 1) &&& (1023 ^^^ x) : Nat) : Int)
def nJ3 (n i : Nat) : Nat := if 4 < i then (n + 2) + i / 2 ^ 2 / 2 ^ 1 else n + i / 2 ^ 1
def nJ2 (n i : Nat) : Nat := if 16 < i then nJ3 (n + 4) (i / 2 ^ 4) else nJ3 n i
def nJ1 (n i : Nat) : Nat := if 256 < i then nJ2 (n + 8) (i / 2 ^ 8) else nJ2 n i
def ntzV (x : Nat) : Nat := if nzA x ≤ 0 then (if x = 0 then 32 else 0) else nJ1 1 (nzA x).toNat
theorem nz_raw : ∀ x, x < 1024 → (iI ((x : Nat) : Int) ^^^ iI (-1 : Int)) &&& iI (((x : Nat) : Int) - ((1 : Nat) : Int)) = iI (nzA x) := by decide +kernel
theorem nz_32 : ∀ x, x < 1024 → nzA x ≤ 0 → iI (nzA x) &&& iI ((32 : Nat) : Int) = iI (((if x = 0 then 32 else 0 : Nat)) : Int) := by decide +kernel
theorem nz_b : ∀ x, x < 1024 → -1 ≤ nzA x ∧ nzA x < 1024 := by decide +kernel
def lJ3 (n i : Nat) : Nat := if 4 ≤ i then n - 2 - i / 2 ^ 2 / 2 ^ 1 else n - i / 2 ^ 1
def lJ2 (n i : Nat) : Nat := if 16 ≤ i then lJ3 (n - 4) (i / 2 ^ 4) else lJ3 n i
def lJ1 (n i : Nat) : Nat := if 256 ≤ i then lJ2 (n - 8) (i / 2 ^ 8) else lJ2 n i
def nlzV (x : Nat) : Nat := if x = 0 then 32 else lJ1 31 x
/-- what is used of them -/
theorem ntz_le : ∀ v, v < 1024 → ∀ i, i < 10 → v.testBit i = true → ntzV v ≤ i := by decide +kernel
theorem nlz_ge : ∀ v, v < 1024 → ∀ i, i < 10 → v.testBit i = true → i + nlzV v ≤ 31 := by decide +kernel
theorem ntz_32 : ∀ v, v < 1024 → ntzV v ≤ 32 := by decide +kernel
theorem nlz_32 : ∀ v, v < 1024 → nlzV v ≤ 32 ∧ 22 ≤ nlzV v := by decide +kernel
/-- what a batch in another place than its own weighs -/
def wAt (h p : Nat) : Nat := if p = h then 0 else 64 + (p % 10 - h % 10 + (h % 10 - p % 10)) + (if p / 10 = h / 10 then 0 else 3)
/-- the least weight of those from b on: those whose place is closed -/
def lwF (op hm : Nat → Nat) (r n : Nat) : Nat → Nat
  | 0 => 0
  | k + 1 => lwF op hm r n k + (if (op (r + (n - (k + 1)))).testBit (hm (n - (k + 1))) = true then 0 else 65)
/-- the places that stay open to batch o beside batch b in place p -/
def besF (ln : Nat → Nat) (lg : Nat → Int) (ap : Nat → Nat) (b p o : Nat) : Nat :=
  dif (daysF (((p % 10 + ln b : Nat) : Int) + lg (o * 4 + b)) ((((p % 10 : Nat) : Int) - lg (b * 4 + o)) - ((ln o : Nat) : Int)) * 1049601)
    ((if (ap b).testBit o = true then 1023 else daysF ((((p % 10 : Nat) : Int) - ((ln o : Nat) : Int)) + ((1 : Nat) : Int)) (((p % 10 + ln b : Nat) : Int) - ((1 : Nat) : Int))) * 2 ^ (p / 10 * 10))
/-- the places of a batch that are within the days and free, by starts and needed days -/
def freeF (S need sh : Nat) : Nat → Nat
  | 0 => 0
  | k + 1 => if S.testBit (k % 10) = true ∧ sh / 2 ^ k &&& need = 0 then freeF S need sh k ||| 1 * 2 ^ k else freeF S need sh k
theorem freeF_lt (S need sh : Nat) : ∀ n, freeF S need sh n < 2 ^ n
  | 0 => Nat.one_pos
  | n + 1 => by
    have h := freeF_lt S need sh n
    have h2 : freeF S need sh n < 2 ^ (n + 1) := Nat.lt_of_lt_of_le h (Nat.pow_le_pow_right (by decide) (Nat.le_succ n))
    rw [freeF]; split
    · exact Nat.or_lt_two_pow h2 (by rw [Nat.one_mul]; exact Nat.pow_lt_pow_right (by decide) (Nat.lt_succ_self n))
    · exact h2
theorem freeF_tb (S need sh : Nat) (j : Nat) : ∀ n, (freeF S need sh n).testBit j = (decide (j < n) && (S.testBit (j % 10) && decide (sh / 2 ^ j &&& need = 0)))
  | 0 => by simp [freeF]
  | n + 1 => by
    have h := freeF_tb S need sh j n
    by_cases hj : j = n
    · subst hj
      have hlt : (freeF S need sh j).testBit j = false := by rw [h]; simp
      rw [freeF]; split
      · rename_i hx; rw [Nat.testBit_or, hlt, Nat.one_mul, Nat.testBit_two_pow_self]; simp [hx.1, hx.2]
      · rename_i hx; rw [hlt]; symm; simp; intro h1 h2; exact hx ⟨h1, h2⟩
    · have e : (decide (j < n + 1)) = decide (j < n) := by by_cases q : j < n <;> simp [q] <;> omega
      rw [freeF, e]; split
      · rw [Nat.testBit_or, h, Nat.one_mul, Nat.testBit_two_pow_of_ne (Ne.symm hj)]; simp
      · exact h
theorem ie_lt {x : Nat} (h : x < 1024) : x * 1049601 < 1073741824 := by omega
theorem daysF_all : daysF 0 9 = 1023 := by decide

set_option maxHeartbeats 4000000 in
set_option maxRecDepth 100000 in
theorem k_X2_startsIn (l : Launch) (D : va_G) (cI cZ : ClassId) (sz : Nat) (x : Nat) (hx2 : x < 1073741824) : Ci l yX2_startsIn wsX2_startsIn (rmD 0) D vwCl [(cI, .int), (cZ, .boolean)] [.int (iI (((x : Nat) : Int)))] [] sz (fun z w => w = [] ∧ (z = ((stI x : Nat) : Int))) 0 0 := by
  refine Ci_of (cc := cX2_startsIn) (nL := 1) (by decide) rfl (Nat.le_of_ble_eq_true rfl) ?_
  intro p e s m below meth c A Q hsz C hK hN hA hP hD hS hret ls hl
  obtain ⟨hx, hb, hml, hown, hts⟩ := id C
  have hown : s.vm.findClass RX2 = some m.cls := hown
  have hl : lv_has ls 1 [(0, .int (iI (((x : Nat) : Int))))] := hl
  refine lv_iload_n hx hb dX2_startsIn_0 rfl (lv_at hl 0 rfl) ?_
  refine lv_iload_n hx hb dX2_startsIn_1 rfl (lv_at hl 0 rfl) ?_
  refine lv_bipush (v := iI (((10 : Nat) : Int))) hx hb dX2_startsIn_2 (by decide +kernel) ?_
  refine rz_shr hx hb dX2_startsIn_4 (by omega) (by omega) ?_
  refine rz_or hx hb dX2_startsIn_5 ?_
  refine lv_iload_n hx hb dX2_startsIn_6 rfl (lv_at hl 0 rfl) ?_
  refine lv_bipush (v := iI (((20 : Nat) : Int))) hx hb dX2_startsIn_7 (by decide +kernel) ?_
  refine rz_shr hx hb dX2_startsIn_9 (by omega) (by omega) ?_
  refine rz_or hx hb dX2_startsIn_10 ?_
  refine lv_sipush (v := iI (((1023 : Nat) : Int))) hx hb dX2_startsIn_11 (by decide +kernel) ?_
  refine rz_and hx hb dX2_startsIn_14 ?_
  exact hret _ _ _ _ _ _ dX2_startsIn_15 ⟨rfl, rfl⟩ hP hD hS

set_option maxHeartbeats 4000000 in
set_option maxRecDepth 100000 in
theorem k_J6_numberOfTrailingZeros (l : Launch) (D : va_G) (cI cZ : ClassId) (sz : Nat) (x : Nat) (hx2 : x < 1024) : Ci l yJ6_numberOfTrailingZeros wsJ6_numberOfTrailingZeros (rmD 0) D vwCl [(cI, .int), (cZ, .boolean)] [.int (iI (((x : Nat) : Int)))] [] sz (fun z w => w = [] ∧ (z = ((ntzV x : Nat) : Int))) 0 0 := by
  refine Ci_of (cc := cJ6_numberOfTrailingZeros) (nL := 2) (by decide) rfl (Nat.le_of_ble_eq_true rfl) ?_
  intro p e s m below meth c A Q hsz C hK hN hA hP hD hS hret ls hl
  obtain ⟨hx, hb, hml, hown, hts⟩ := id C
  have hown : s.vm.findClass RJ6 = some m.cls := hown
  have hl : lv_has ls 2 [(0, .int (iI (((x : Nat) : Int))))] := hl
  have K74 : ∀ (n : Nat) (i : Nat), (i < 1024) → (n < 40) → (n + i / 2 ^ 1 = ntzV x) → ∀ (H : Heap) (locs : List Loc) (ls : Array Slot), va_P D vwCl [] H → va_D A [] → va_S A s.heap H locs → lv_has ls 2 [(0, .int (iI (((i : Nat) : Int)))), (1, .int (iI (((n : Nat) : Int))))] → W p l e (rmD 0) s m ([.int (iI (((x : Nat) : Int)))] : List Value).toArray below meth c H locs 0 0 Q (F0 m 74 ls []) := by
    intro n i hi hn hv H locs ls hP hD hS hl
    refine lv_iload_n hx hb dJ6_numberOfTrailingZeros_74 rfl (lv_at hl 1 rfl) ?_
    refine lv_iload_n hx hb dJ6_numberOfTrailingZeros_75 rfl (lv_at hl 0 rfl) ?_
    refine lv_iconst (v := iI (((1 : Nat) : Int))) hx hb dJ6_numberOfTrailingZeros_76 (by decide +kernel) ?_
    refine rz_ushr hx hb dJ6_numberOfTrailingZeros_77 (by omega) (by omega) ?_
    refine rn_add hx hb dJ6_numberOfTrailingZeros_78 ?_
    exact hret _ _ _ _ _ _ dJ6_numberOfTrailingZeros_79 ⟨rfl, (by rw [hv])⟩ hP hD hS
  have K62 : ∀ (n : Nat) (i : Nat), (i < 1024) → (n < 30) → (nJ3 n i = ntzV x) → ∀ (H : Heap) (locs : List Loc) (ls : Array Slot), va_P D vwCl [] H → va_D A [] → va_S A s.heap H locs → lv_has ls 2 [(0, .int (iI (((i : Nat) : Int)))), (1, .int (iI (((n : Nat) : Int))))] → W p l e (rmD 0) s m ([.int (iI (((x : Nat) : Int)))] : List Value).toArray below meth c H locs 0 0 Q (F0 m 62 ls []) := by
    intro n i hi hn hv H locs ls hP hD hS hl
    refine lv_iload_n hx hb dJ6_numberOfTrailingZeros_62 rfl (lv_at hl 0 rfl) ?_
    refine lv_iconst (v := iI (((4 : Nat) : Int))) hx hb dJ6_numberOfTrailingZeros_63 (by decide +kernel) ?_
    refine rz_cle (tgt := 74) hx hb dJ6_numberOfTrailingZeros_64 (by decide) (by omega) (by omega) (fun c1 => ?_) (fun c1 => ?_)
    · exact K74 (n) (i) (by omega) (by omega) (by first | (rw [← hv, nJ3, if_pos (by omega)]) | (rw [← hv, nJ3, if_neg (by omega)])) _ _ _ hP hD hS (lv_sub hl [0, 1] rfl)
    · refine lv_iinc (v := iI (((n + 2 : Nat) : Int))) (lv' := [(1, .int (iI (((n + 2 : Nat) : Int)))), (0, .int (iI (((i : Nat) : Int))))]) hx hb dJ6_numberOfTrailingZeros_67 hl (k := 1) rfl (iI_incK _ 2) (by decide) rfl (fun ls hl => ?_)
      refine lv_iload_n hx hb dJ6_numberOfTrailingZeros_70 rfl (lv_at hl 1 rfl) ?_
      refine lv_iconst (v := iI (((2 : Nat) : Int))) hx hb dJ6_numberOfTrailingZeros_71 (by decide +kernel) ?_
      refine rz_ushr hx hb dJ6_numberOfTrailingZeros_72 (by omega) (by omega) ?_
      refine lv_istore_n (lv' := [(0, .int (iI (((i / 2 ^ 2 : Nat) : Int)))), (1, .int (iI (((n + 2 : Nat) : Int))))]) hx hb dJ6_numberOfTrailingZeros_73 rfl hl (by decide) rfl (fun ls hl => ?_)
      exact K74 (n + 2) (i / 2 ^ 2) (by omega) (by omega) (by first | (rw [← hv, nJ3, if_pos (by omega)]) | (rw [← hv, nJ3, if_neg (by omega)])) _ _ _ hP hD hS (lv_sub hl [0, 1] rfl)
  have K49 : ∀ (n : Nat) (i : Nat), (i < 1024) → (n < 20) → (nJ2 n i = ntzV x) → ∀ (H : Heap) (locs : List Loc) (ls : Array Slot), va_P D vwCl [] H → va_D A [] → va_S A s.heap H locs → lv_has ls 2 [(0, .int (iI (((i : Nat) : Int)))), (1, .int (iI (((n : Nat) : Int))))] → W p l e (rmD 0) s m ([.int (iI (((x : Nat) : Int)))] : List Value).toArray below meth c H locs 0 0 Q (F0 m 49 ls []) := by
    intro n i hi hn hv H locs ls hP hD hS hl
    refine lv_iload_n hx hb dJ6_numberOfTrailingZeros_49 rfl (lv_at hl 0 rfl) ?_
    refine lv_bipush (v := iI (((16 : Nat) : Int))) hx hb dJ6_numberOfTrailingZeros_50 (by decide +kernel) ?_
    refine rz_cle (tgt := 62) hx hb dJ6_numberOfTrailingZeros_52 (by decide) (by omega) (by omega) (fun c2 => ?_) (fun c2 => ?_)
    · exact K62 (n) (i) (by omega) (by omega) (by first | (rw [← hv, nJ2, if_pos (by omega)]) | (rw [← hv, nJ2, if_neg (by omega)])) _ _ _ hP hD hS (lv_sub hl [0, 1] rfl)
    · refine lv_iinc (v := iI (((n + 4 : Nat) : Int))) (lv' := [(1, .int (iI (((n + 4 : Nat) : Int)))), (0, .int (iI (((i : Nat) : Int))))]) hx hb dJ6_numberOfTrailingZeros_55 hl (k := 1) rfl (iI_incK _ 4) (by decide) rfl (fun ls hl => ?_)
      refine lv_iload_n hx hb dJ6_numberOfTrailingZeros_58 rfl (lv_at hl 1 rfl) ?_
      refine lv_iconst (v := iI (((4 : Nat) : Int))) hx hb dJ6_numberOfTrailingZeros_59 (by decide +kernel) ?_
      refine rz_ushr hx hb dJ6_numberOfTrailingZeros_60 (by omega) (by omega) ?_
      refine lv_istore_n (lv' := [(0, .int (iI (((i / 2 ^ 4 : Nat) : Int)))), (1, .int (iI (((n + 4 : Nat) : Int))))]) hx hb dJ6_numberOfTrailingZeros_61 rfl hl (by decide) rfl (fun ls hl => ?_)
      exact K62 (n + 4) (i / 2 ^ 4) (by omega) (by omega) (by first | (rw [← hv, nJ2, if_pos (by omega)]) | (rw [← hv, nJ2, if_neg (by omega)])) _ _ _ hP hD hS (lv_sub hl [0, 1] rfl)
  have K34 : ∀ (n : Nat) (i : Nat), (i < 1024) → (n < 10) → (nJ1 n i = ntzV x) → ∀ (H : Heap) (locs : List Loc) (ls : Array Slot), va_P D vwCl [] H → va_D A [] → va_S A s.heap H locs → lv_has ls 2 [(0, .int (iI (((i : Nat) : Int)))), (1, .int (iI (((n : Nat) : Int))))] → W p l e (rmD 0) s m ([.int (iI (((x : Nat) : Int)))] : List Value).toArray below meth c H locs 0 0 Q (F0 m 34 ls []) := by
    intro n i hi hn hv H locs ls hP hD hS hl
    refine lv_iload_n hx hb dJ6_numberOfTrailingZeros_34 rfl (lv_at hl 0 rfl) ?_
    refine lv_sipush (v := iI (((256 : Nat) : Int))) hx hb dJ6_numberOfTrailingZeros_35 (by decide +kernel) ?_
    refine rz_cle (tgt := 49) hx hb dJ6_numberOfTrailingZeros_38 (by decide) (by omega) (by omega) (fun c3 => ?_) (fun c3 => ?_)
    · exact K49 (n) (i) (by omega) (by omega) (by first | (rw [← hv, nJ1, if_pos (by omega)]) | (rw [← hv, nJ1, if_neg (by omega)])) _ _ _ hP hD hS (lv_sub hl [0, 1] rfl)
    · refine lv_iinc (v := iI (((n + 8 : Nat) : Int))) (lv' := [(1, .int (iI (((n + 8 : Nat) : Int)))), (0, .int (iI (((i : Nat) : Int))))]) hx hb dJ6_numberOfTrailingZeros_41 hl (k := 1) rfl (iI_incK _ 8) (by decide) rfl (fun ls hl => ?_)
      refine lv_iload_n hx hb dJ6_numberOfTrailingZeros_44 rfl (lv_at hl 1 rfl) ?_
      refine lv_bipush (v := iI (((8 : Nat) : Int))) hx hb dJ6_numberOfTrailingZeros_45 (by decide +kernel) ?_
      refine rz_ushr hx hb dJ6_numberOfTrailingZeros_47 (by omega) (by omega) ?_
      refine lv_istore_n (lv' := [(0, .int (iI (((i / 2 ^ 8 : Nat) : Int)))), (1, .int (iI (((n + 8 : Nat) : Int))))]) hx hb dJ6_numberOfTrailingZeros_48 rfl hl (by decide) rfl (fun ls hl => ?_)
      exact K49 (n + 8) (i / 2 ^ 8) (by omega) (by omega) (by first | (rw [← hv, nJ1, if_pos (by omega)]) | (rw [← hv, nJ1, if_neg (by omega)])) _ _ _ hP hD hS (lv_sub hl [0, 1] rfl)
  refine lv_iload_n hx hb dJ6_numberOfTrailingZeros_0 rfl (lv_at hl 0 rfl) ?_
  refine lv_iconst (v := iI ((-1 : Int))) hx hb dJ6_numberOfTrailingZeros_1 (by decide +kernel) ?_
  refine lv_ixor hx hb dJ6_numberOfTrailingZeros_2 ?_
  refine lv_iload_n hx hb dJ6_numberOfTrailingZeros_3 rfl (lv_at hl 0 rfl) ?_
  refine lv_iconst (v := iI (((1 : Nat) : Int))) hx hb dJ6_numberOfTrailingZeros_4 (by decide +kernel) ?_
  refine rz_sub hx hb dJ6_numberOfTrailingZeros_5 ?_
  refine lv_iand hx hb dJ6_numberOfTrailingZeros_6 ?_
  refine rz_raw (y := nzA x) (nz_raw x hx2) ?_
  refine lv_istore_n (lv' := [(0, .int (iI (nzA x)))]) hx hb dJ6_numberOfTrailingZeros_7 rfl hl (by decide) rfl (fun ls hl => ?_)
  refine lv_iload_n hx hb dJ6_numberOfTrailingZeros_8 rfl (lv_at hl 0 rfl) ?_
  refine rz_igt (tgt := 17) hx hb dJ6_numberOfTrailingZeros_9 (by decide) (by have := nz_b x hx2; omega) (fun c4 => ?_) (fun c4 => ?_)
  · have hb1 := nz_b x hx2
    obtain ⟨i, hi⟩ : ∃ i : Nat, nzA x = ((i : Nat) : Int) := ⟨(nzA x).toNat, by omega⟩
    rw [hi] at hl
    refine lv_iconst (v := iI (((1 : Nat) : Int))) hx hb dJ6_numberOfTrailingZeros_17 (by decide +kernel) ?_
    refine lv_istore_n (lv' := [(1, .int (iI (((1 : Nat) : Int)))), (0, .int (iI (((i : Nat) : Int))))]) hx hb dJ6_numberOfTrailingZeros_18 rfl hl (by decide) rfl (fun ls hl => ?_)
    refine lv_iload_n hx hb dJ6_numberOfTrailingZeros_19 rfl (lv_at hl 1 rfl) ?_
    refine lv_ldcw (v := iI (((65536 : Nat) : Int))) hx hb hown (hts _ (List.mem_cons_of_mem _ tc_J6_264)) dJ6_numberOfTrailingZeros_20 ?_
    refine rz_cle (tgt := 34) hx hb dJ6_numberOfTrailingZeros_23 (by decide) (by omega) (by omega) (fun c5 => ?_) (fun c5 => ?_)
    · exact K34 (1) (i) (by omega) (by omega) (by rw [ntzV, if_neg (by omega), hi]; rfl) _ _ _ hP hD hS (lv_sub hl [1, 0] rfl)
    · exfalso; omega
  · refine lv_iload_n hx hb dJ6_numberOfTrailingZeros_12 rfl (lv_at hl 0 rfl) ?_
    refine lv_bipush (v := iI (((32 : Nat) : Int))) hx hb dJ6_numberOfTrailingZeros_13 (by decide +kernel) ?_
    refine lv_iand hx hb dJ6_numberOfTrailingZeros_15 ?_
    refine rz_raw (y := ((if x = 0 then 32 else 0 : Nat) : Int)) (nz_32 x hx2 (by omega)) ?_
    exact hret _ _ _ _ _ _ dJ6_numberOfTrailingZeros_16 ⟨rfl, (by rw [ntzV, if_pos (show nzA x ≤ 0 by omega)])⟩ hP hD hS

set_option maxHeartbeats 4000000 in
set_option maxRecDepth 100000 in
theorem k_J6_numberOfLeadingZeros (l : Launch) (D : va_G) (cI cZ : ClassId) (sz : Nat) (x : Nat) (hx2 : x < 1024) : Ci l yJ6_numberOfLeadingZeros wsJ6_numberOfLeadingZeros (rmD 0) D vwCl [(cI, .int), (cZ, .boolean)] [.int (iI (((x : Nat) : Int)))] [] sz (fun z w => w = [] ∧ (z = ((nlzV x : Nat) : Int))) 0 0 := by
  refine Ci_of (cc := cJ6_numberOfLeadingZeros) (nL := 2) (by decide) rfl (Nat.le_of_ble_eq_true rfl) ?_
  intro p e s m below meth c A Q hsz C hK hN hA hP hD hS hret ls hl
  obtain ⟨hx, hb, hml, hown, hts⟩ := id C
  have hown : s.vm.findClass RJ6 = some m.cls := hown
  have hl : lv_has ls 2 [(0, .int (iI (((x : Nat) : Int))))] := hl
  have K73 : ∀ (n : Nat) (i : Nat), (i < 4) → (10 ≤ n ∧ n < 32) → (n - i / 2 ^ 1 = nlzV x) → ∀ (H : Heap) (locs : List Loc) (ls : Array Slot), va_P D vwCl [] H → va_D A [] → va_S A s.heap H locs → lv_has ls 2 [(0, .int (iI (((i : Nat) : Int)))), (1, .int (iI (((n : Nat) : Int))))] → W p l e (rmD 0) s m ([.int (iI (((x : Nat) : Int)))] : List Value).toArray below meth c H locs 0 0 Q (F0 m 73 ls []) := by
    intro n i hi hn hv H locs ls hP hD hS hl
    refine lv_iload_n hx hb dJ6_numberOfLeadingZeros_73 rfl (lv_at hl 1 rfl) ?_
    refine lv_iload_n hx hb dJ6_numberOfLeadingZeros_74 rfl (lv_at hl 0 rfl) ?_
    refine lv_iconst (v := iI (((1 : Nat) : Int))) hx hb dJ6_numberOfLeadingZeros_75 (by decide +kernel) ?_
    refine rz_ushr hx hb dJ6_numberOfLeadingZeros_76 (by omega) (by omega) ?_
    refine rn_sub hx hb dJ6_numberOfLeadingZeros_77 (by omega) ?_
    exact hret _ _ _ _ _ _ dJ6_numberOfLeadingZeros_78 ⟨rfl, (by rw [hv])⟩ hP hD hS
  have K61 : ∀ (n : Nat) (i : Nat), (i < 16) → (15 ≤ n ∧ n < 32) → (lJ3 n i = nlzV x) → ∀ (H : Heap) (locs : List Loc) (ls : Array Slot), va_P D vwCl [] H → va_D A [] → va_S A s.heap H locs → lv_has ls 2 [(0, .int (iI (((i : Nat) : Int)))), (1, .int (iI (((n : Nat) : Int))))] → W p l e (rmD 0) s m ([.int (iI (((x : Nat) : Int)))] : List Value).toArray below meth c H locs 0 0 Q (F0 m 61 ls []) := by
    intro n i hi hn hv H locs ls hP hD hS hl
    refine lv_iload_n hx hb dJ6_numberOfLeadingZeros_61 rfl (lv_at hl 0 rfl) ?_
    refine lv_iconst (v := iI (((4 : Nat) : Int))) hx hb dJ6_numberOfLeadingZeros_62 (by decide +kernel) ?_
    refine rz_clt (tgt := 73) hx hb dJ6_numberOfLeadingZeros_63 (by decide) (by omega) (by omega) (fun c1 => ?_) (fun c1 => ?_)
    · exact K73 (n) (i) (by omega) (by omega) (by first | (rw [← hv, lJ3, if_pos (by omega)]) | (rw [← hv, lJ3, if_neg (by omega)])) _ _ _ hP hD hS (lv_sub hl [0, 1] rfl)
    · refine lv_iinc (v := iI (((n - 2 : Nat) : Int))) (lv' := [(1, .int (iI (((n - 2 : Nat) : Int)))), (0, .int (iI (((i : Nat) : Int))))]) hx hb dJ6_numberOfLeadingZeros_66 hl (k := 1) rfl (iI_decK (k := 2) (by omega)) (by decide) rfl (fun ls hl => ?_)
      refine lv_iload_n hx hb dJ6_numberOfLeadingZeros_69 rfl (lv_at hl 1 rfl) ?_
      refine lv_iconst (v := iI (((2 : Nat) : Int))) hx hb dJ6_numberOfLeadingZeros_70 (by decide +kernel) ?_
      refine rz_ushr hx hb dJ6_numberOfLeadingZeros_71 (by omega) (by omega) ?_
      refine lv_istore_n (lv' := [(0, .int (iI (((i / 2 ^ 2 : Nat) : Int)))), (1, .int (iI (((n - 2 : Nat) : Int))))]) hx hb dJ6_numberOfLeadingZeros_72 rfl hl (by decide) rfl (fun ls hl => ?_)
      exact K73 (n - 2) (i / 2 ^ 2) (by omega) (by omega) (by first | (rw [← hv, lJ3, if_pos (by omega)]) | (rw [← hv, lJ3, if_neg (by omega)])) _ _ _ hP hD hS (lv_sub hl [0, 1] rfl)
  have K48 : ∀ (n : Nat) (i : Nat), (i < 256) → (20 ≤ n ∧ n < 32) → (lJ2 n i = nlzV x) → ∀ (H : Heap) (locs : List Loc) (ls : Array Slot), va_P D vwCl [] H → va_D A [] → va_S A s.heap H locs → lv_has ls 2 [(0, .int (iI (((i : Nat) : Int)))), (1, .int (iI (((n : Nat) : Int))))] → W p l e (rmD 0) s m ([.int (iI (((x : Nat) : Int)))] : List Value).toArray below meth c H locs 0 0 Q (F0 m 48 ls []) := by
    intro n i hi hn hv H locs ls hP hD hS hl
    refine lv_iload_n hx hb dJ6_numberOfLeadingZeros_48 rfl (lv_at hl 0 rfl) ?_
    refine lv_bipush (v := iI (((16 : Nat) : Int))) hx hb dJ6_numberOfLeadingZeros_49 (by decide +kernel) ?_
    refine rz_clt (tgt := 61) hx hb dJ6_numberOfLeadingZeros_51 (by decide) (by omega) (by omega) (fun c2 => ?_) (fun c2 => ?_)
    · exact K61 (n) (i) (by omega) (by omega) (by first | (rw [← hv, lJ2, if_pos (by omega)]) | (rw [← hv, lJ2, if_neg (by omega)])) _ _ _ hP hD hS (lv_sub hl [0, 1] rfl)
    · refine lv_iinc (v := iI (((n - 4 : Nat) : Int))) (lv' := [(1, .int (iI (((n - 4 : Nat) : Int)))), (0, .int (iI (((i : Nat) : Int))))]) hx hb dJ6_numberOfLeadingZeros_54 hl (k := 1) rfl (iI_decK (k := 4) (by omega)) (by decide) rfl (fun ls hl => ?_)
      refine lv_iload_n hx hb dJ6_numberOfLeadingZeros_57 rfl (lv_at hl 1 rfl) ?_
      refine lv_iconst (v := iI (((4 : Nat) : Int))) hx hb dJ6_numberOfLeadingZeros_58 (by decide +kernel) ?_
      refine rz_ushr hx hb dJ6_numberOfLeadingZeros_59 (by omega) (by omega) ?_
      refine lv_istore_n (lv' := [(0, .int (iI (((i / 2 ^ 4 : Nat) : Int)))), (1, .int (iI (((n - 4 : Nat) : Int))))]) hx hb dJ6_numberOfLeadingZeros_60 rfl hl (by decide) rfl (fun ls hl => ?_)
      exact K61 (n - 4) (i / 2 ^ 4) (by omega) (by omega) (by first | (rw [← hv, lJ2, if_pos (by omega)]) | (rw [← hv, lJ2, if_neg (by omega)])) _ _ _ hP hD hS (lv_sub hl [0, 1] rfl)
  have K33 : ∀ (n : Nat) (i : Nat), (i < 1024) → (31 ≤ n ∧ n < 32) → (lJ1 n i = nlzV x) → ∀ (H : Heap) (locs : List Loc) (ls : Array Slot), va_P D vwCl [] H → va_D A [] → va_S A s.heap H locs → lv_has ls 2 [(0, .int (iI (((i : Nat) : Int)))), (1, .int (iI (((n : Nat) : Int))))] → W p l e (rmD 0) s m ([.int (iI (((x : Nat) : Int)))] : List Value).toArray below meth c H locs 0 0 Q (F0 m 33 ls []) := by
    intro n i hi hn hv H locs ls hP hD hS hl
    refine lv_iload_n hx hb dJ6_numberOfLeadingZeros_33 rfl (lv_at hl 0 rfl) ?_
    refine lv_sipush (v := iI (((256 : Nat) : Int))) hx hb dJ6_numberOfLeadingZeros_34 (by decide +kernel) ?_
    refine rz_clt (tgt := 48) hx hb dJ6_numberOfLeadingZeros_37 (by decide) (by omega) (by omega) (fun c3 => ?_) (fun c3 => ?_)
    · exact K48 (n) (i) (by omega) (by omega) (by first | (rw [← hv, lJ1, if_pos (by omega)]) | (rw [← hv, lJ1, if_neg (by omega)])) _ _ _ hP hD hS (lv_sub hl [0, 1] rfl)
    · refine lv_iinc (v := iI (((n - 8 : Nat) : Int))) (lv' := [(1, .int (iI (((n - 8 : Nat) : Int)))), (0, .int (iI (((i : Nat) : Int))))]) hx hb dJ6_numberOfLeadingZeros_40 hl (k := 1) rfl (iI_decK (k := 8) (by omega)) (by decide) rfl (fun ls hl => ?_)
      refine lv_iload_n hx hb dJ6_numberOfLeadingZeros_43 rfl (lv_at hl 1 rfl) ?_
      refine lv_bipush (v := iI (((8 : Nat) : Int))) hx hb dJ6_numberOfLeadingZeros_44 (by decide +kernel) ?_
      refine rz_ushr hx hb dJ6_numberOfLeadingZeros_46 (by omega) (by omega) ?_
      refine lv_istore_n (lv' := [(0, .int (iI (((i / 2 ^ 8 : Nat) : Int)))), (1, .int (iI (((n - 8 : Nat) : Int))))]) hx hb dJ6_numberOfLeadingZeros_47 rfl hl (by decide) rfl (fun ls hl => ?_)
      exact K48 (n - 8) (i / 2 ^ 8) (by omega) (by omega) (by first | (rw [← hv, lJ1, if_pos (by omega)]) | (rw [← hv, lJ1, if_neg (by omega)])) _ _ _ hP hD hS (lv_sub hl [0, 1] rfl)
  refine lv_iload_n hx hb dJ6_numberOfLeadingZeros_0 rfl (lv_at hl 0 rfl) ?_
  refine rz_igt (tgt := 15) hx hb dJ6_numberOfLeadingZeros_1 (by decide) (by omega) (fun c4 => ?_) (fun c4 => ?_)
  · refine lv_bipush (v := iI (((31 : Nat) : Int))) hx hb dJ6_numberOfLeadingZeros_15 (by decide +kernel) ?_
    refine lv_istore_n (lv' := [(1, .int (iI (((31 : Nat) : Int)))), (0, .int (iI (((x : Nat) : Int))))]) hx hb dJ6_numberOfLeadingZeros_17 rfl hl (by decide) rfl (fun ls hl => ?_)
    refine lv_iload_n hx hb dJ6_numberOfLeadingZeros_18 rfl (lv_at hl 1 rfl) ?_
    refine lv_ldcw (v := iI (((65536 : Nat) : Int))) hx hb hown (hts _ (List.mem_cons_of_mem _ tc_J6_264)) dJ6_numberOfLeadingZeros_19 ?_
    refine rz_clt (tgt := 33) hx hb dJ6_numberOfLeadingZeros_22 (by decide) (by omega) (by omega) (fun c5 => ?_) (fun c5 => ?_)
    · exact K33 (31) (x) (by omega) (by omega) (by rw [nlzV, if_neg (by omega)]) _ _ _ hP hD hS (lv_sub hl [1, 0] rfl)
    · exfalso; omega
  · refine lv_iload_n hx hb dJ6_numberOfLeadingZeros_4 rfl (lv_at hl 0 rfl) ?_
    refine rz_ine (tgt := 13) hx hb dJ6_numberOfLeadingZeros_5 (by decide) (by omega) (fun c6 => ?_) (fun c6 => ?_)
    · exfalso; omega
    · refine lv_bipush (v := iI (((32 : Nat) : Int))) hx hb dJ6_numberOfLeadingZeros_8 (by decide +kernel) ?_
      refine lv_goto (tgt := 14) hx hb dJ6_numberOfLeadingZeros_10 (by decide) ?_
      exact hret _ _ _ _ _ _ dJ6_numberOfLeadingZeros_14 ⟨rfl, (by rw [nlzV, if_pos (by omega)])⟩ hP hD hS

set_option maxHeartbeats 4000000 in
set_option maxRecDepth 100000 in
theorem k_X2_firstStart (l : Launch) (D : va_G) (cI cZ : ClassId) (sz : Nat) (x : Nat) (hx2 : x < 1073741824) : Ci l yX2_firstStart wsX2_firstStart (rmD 1) D vwCl [(cI, .int), (cZ, .boolean)] [.int (iI (((x : Nat) : Int)))] [] sz (fun z w => w = [] ∧ (z = ((ntzV (stI x) : Nat) : Int))) 0 0 := by
  refine Ci_of (cc := cX2_firstStart) (nL := 1) (by decide) rfl (Nat.le_of_ble_eq_true rfl) ?_
  intro p e s m below meth c A Q hsz C hK hN hA hP hD hS hret ls hl
  obtain ⟨hx, hb, hml, hown, hts⟩ := id C
  have hown : s.vm.findClass RX2 = some m.cls := hown
  have hl : lv_has ls 1 [(0, .int (iI (((x : Nat) : Int))))] := hl
  refine lv_iload_n hx hb dX2_firstStart_0 rfl (lv_at hl 0 rfl) ?_
  have hPc := hP.sub (ws' := []) [] rfl
  have hDc := hD.sub (ws' := []) [] (by decide) rfl
  refine rz_calliR (va_runS (As := [.int (iI (((x : Nat) : Int)))]) (rest := []) ⟨hx, hb, hml, hown, hts⟩ (k_X2_startsIn l D cI cZ s.heap.size x (by omega)) (va_cwS 1 hts (gG (g_S tm_X2_117 ts_X2_startsIn tin_X2 cmX2_startsIn)) rfl rfl rfl (by decide +kernel) ⟨Nat.le_of_ble_eq_true rfl, Nat.le_of_ble_eq_true rfl⟩) ⟨cP_blind, cP_pre hPc hK hN hDc⟩ rfl rfl hl.1 rfl (lv_room (Nat.le_of_ble_eq_true rfl)) dX2_firstStart_1 ⟨Nat.le_refl _, Nat.le_refl _⟩) hP hD hS hA [] rfl (fun z1 H locs hp hP hS => ?_)
  subst hp
  have hPc := hP.sub (ws' := []) [] rfl
  have hDc := hD.sub (ws' := []) [] (by decide) rfl
  refine rz_calliR (va_runS (As := [.int (iI (((stI x : Nat) : Int)))]) (rest := []) ⟨hx, hb, hml, hown, hts⟩ (k_J6_numberOfTrailingZeros l D cI cZ H.size (stI x) (stI_lt _)) (va_cwS 1 hts (gG (g_S tm_X2_120 ts_J6_numberOfTrailingZeros tin_J6 cmJ6_numberOfTrailingZeros)) rfl rfl rfl (by decide +kernel) ⟨Nat.le_of_ble_eq_true rfl, Nat.le_of_ble_eq_true rfl⟩) ⟨cP_blind, cP_pre hPc hK hN hDc⟩ rfl rfl hl.1 rfl (lv_room (Nat.le_of_ble_eq_true rfl)) dX2_firstStart_4 ⟨Nat.le_refl _, Nat.le_refl _⟩) hP hD hS hA [] rfl (fun z2 H locs hp hP hS => ?_)
  subst hp
  exact hret _ _ _ _ _ _ dX2_firstStart_7 ⟨rfl, rfl⟩ hP hD hS

set_option maxHeartbeats 4000000 in
set_option maxRecDepth 100000 in
theorem k_X2_lastStart (l : Launch) (D : va_G) (cI cZ : ClassId) (sz : Nat) (x : Nat) (hx2 : x < 1073741824) : Ci l yX2_lastStart wsX2_lastStart (rmD 1) D vwCl [(cI, .int), (cZ, .boolean)] [.int (iI (((x : Nat) : Int)))] [] sz (fun z w => w = [] ∧ (z = ((31 : Nat) : Int) - ((nlzV (stI x) : Nat) : Int))) 0 0 := by
  refine Ci_of (cc := cX2_lastStart) (nL := 1) (by decide) rfl (Nat.le_of_ble_eq_true rfl) ?_
  intro p e s m below meth c A Q hsz C hK hN hA hP hD hS hret ls hl
  obtain ⟨hx, hb, hml, hown, hts⟩ := id C
  have hown : s.vm.findClass RX2 = some m.cls := hown
  have hl : lv_has ls 1 [(0, .int (iI (((x : Nat) : Int))))] := hl
  refine lv_bipush (v := iI (((31 : Nat) : Int))) hx hb dX2_lastStart_0 (by decide +kernel) ?_
  refine lv_iload_n hx hb dX2_lastStart_2 rfl (lv_at hl 0 rfl) ?_
  have hPc := hP.sub (ws' := []) [] rfl
  have hDc := hD.sub (ws' := []) [] (by decide) rfl
  refine rz_calliR (va_runS (As := [.int (iI (((x : Nat) : Int)))]) (rest := [.int (iI (((31 : Nat) : Int)))]) ⟨hx, hb, hml, hown, hts⟩ (k_X2_startsIn l D cI cZ s.heap.size x (by omega)) (va_cwS 1 hts (gG (g_S tm_X2_117 ts_X2_startsIn tin_X2 cmX2_startsIn)) rfl rfl rfl (by decide +kernel) ⟨Nat.le_of_ble_eq_true rfl, Nat.le_of_ble_eq_true rfl⟩) ⟨cP_blind, cP_pre hPc hK hN hDc⟩ rfl rfl hl.1 rfl (lv_room (Nat.le_of_ble_eq_true rfl)) dX2_lastStart_3 ⟨Nat.le_refl _, Nat.le_refl _⟩) hP hD hS hA [] rfl (fun z1 H locs hp hP hS => ?_)
  subst hp
  have hPc := hP.sub (ws' := []) [] rfl
  have hDc := hD.sub (ws' := []) [] (by decide) rfl
  refine rz_calliR (va_runS (As := [.int (iI (((stI x : Nat) : Int)))]) (rest := [.int (iI (((31 : Nat) : Int)))]) ⟨hx, hb, hml, hown, hts⟩ (k_J6_numberOfLeadingZeros l D cI cZ H.size (stI x) (stI_lt _)) (va_cwS 1 hts (gG (g_S tm_X2_125 ts_J6_numberOfLeadingZeros tin_J6 cmJ6_numberOfLeadingZeros)) rfl rfl rfl (by decide +kernel) ⟨Nat.le_of_ble_eq_true rfl, Nat.le_of_ble_eq_true rfl⟩) ⟨cP_blind, cP_pre hPc hK hN hDc⟩ rfl rfl hl.1 rfl (lv_room (Nat.le_of_ble_eq_true rfl)) dX2_lastStart_6 ⟨Nat.le_refl _, Nat.le_refl _⟩) hP hD hS hA [] rfl (fun z2 H locs hp hP hS => ?_)
  subst hp
  refine rz_sub hx hb dX2_lastStart_9 ?_
  exact hret _ _ _ _ _ _ dX2_lastStart_10 ⟨rfl, rfl⟩ hP hD hS

set_option maxHeartbeats 4000000 in
set_option maxRecDepth 100000 in
theorem k_X2_bestChanges (l : Launch) (D : va_G) (cI cZ : ClassId) (sz : Nat) (hQ : Nat) (qb : Nat) (ql : Nat) (qh : Nat) (qf : Nat) (qg : Nat) (qa : Nat) (qo : Nat) (qt : Nat) (n : Nat) (bw : Nat) (hbw : bw < 10000) : Ci l yX2_bestChanges wsX2_bestChanges (rmD 0) D vwCl [(cI, .int), (cZ, .boolean)] [.ref hQ] [(hQ, .inr (2, [.ref qb, .ref ql, .ref qh, .ref qf, .ref qg, .ref qa, .ref qo, .ref qt, .int (iI (((n : Nat) : Int))), .int (iI (((bw : Nat) : Int)))]))] sz (fun z w => w = [(hQ, .inr (2, [.ref qb, .ref ql, .ref qh, .ref qf, .ref qg, .ref qa, .ref qo, .ref qt, .int (iI (((n : Nat) : Int))), .int (iI (((bw : Nat) : Int)))]))] ∧ (z = ((bw / 64 : Nat) : Int))) 0 0 := by
  refine Ci_of (cc := cX2_bestChanges) (nL := 1) (by decide) rfl (Nat.le_of_ble_eq_true rfl) ?_
  intro p e s m below meth c A Q hsz C hK hN hA hP hD hS hret ls hl
  obtain ⟨hx, hb, hml, hown, hts⟩ := id C
  have hown : s.vm.findClass RX2 = some m.cls := hown
  have hl : lv_has ls 1 [(0, .ref hQ)] := hl
  have in_X2 : ∀ w ∈ u_ws RX2 TX2 10, w ∈ wsX2_bestChanges := fun w h => List.mem_cons_of_mem _ (inX2 w h)
  refine lv_aload_n hx hb dX2_bestChanges_0 rfl (lv_at hl 0 rfl) ?_
  refine va_get (D := D) (ci := 2) (v := .int (iI (((bw : Nat) : Int)))) (C := RX2) (T := TX2) (N := 10) hx hb hts in_X2 hown hK hP 0 rfl rfl 9 (by decide) (hts _ (List.mem_cons_of_mem _ tf_X2_36)) (fun _ h9 => h9) rfl dX2_bestChanges_1 ?_
  refine lv_bipush (v := iI (((64 : Nat) : Int))) hx hb dX2_bestChanges_4 (by decide +kernel) ?_
  refine rn_div hx hb dX2_bestChanges_6 (by omega) (by omega) ?_
  exact hret _ _ _ _ _ _ dX2_bestChanges_7 ⟨rfl, rfl⟩ hP hD hS

set_option maxHeartbeats 4000000 in
set_option maxRecDepth 100000 in
theorem k_X2_bestCost (l : Launch) (D : va_G) (cI cZ : ClassId) (sz : Nat) (hQ : Nat) (qb : Nat) (ql : Nat) (qh : Nat) (qf : Nat) (qg : Nat) (qa : Nat) (qo : Nat) (qt : Nat) (n : Nat) (bw : Nat) (hbw : bw < 10000) : Ci l yX2_bestCost wsX2_bestCost (rmD 0) D vwCl [(cI, .int), (cZ, .boolean)] [.ref hQ] [(hQ, .inr (2, [.ref qb, .ref ql, .ref qh, .ref qf, .ref qg, .ref qa, .ref qo, .ref qt, .int (iI (((n : Nat) : Int))), .int (iI (((bw : Nat) : Int)))]))] sz (fun z w => w = [(hQ, .inr (2, [.ref qb, .ref ql, .ref qh, .ref qf, .ref qg, .ref qa, .ref qo, .ref qt, .int (iI (((n : Nat) : Int))), .int (iI (((bw : Nat) : Int)))]))] ∧ (z = ((bw % 64 : Nat) : Int))) 0 0 := by
  refine Ci_of (cc := cX2_bestCost) (nL := 1) (by decide) rfl (Nat.le_of_ble_eq_true rfl) ?_
  intro p e s m below meth c A Q hsz C hK hN hA hP hD hS hret ls hl
  obtain ⟨hx, hb, hml, hown, hts⟩ := id C
  have hown : s.vm.findClass RX2 = some m.cls := hown
  have hl : lv_has ls 1 [(0, .ref hQ)] := hl
  have in_X2 : ∀ w ∈ u_ws RX2 TX2 10, w ∈ wsX2_bestCost := fun w h => List.mem_cons_of_mem _ (inX2 w h)
  refine lv_aload_n hx hb dX2_bestCost_0 rfl (lv_at hl 0 rfl) ?_
  refine va_get (D := D) (ci := 2) (v := .int (iI (((bw : Nat) : Int)))) (C := RX2) (T := TX2) (N := 10) hx hb hts in_X2 hown hK hP 0 rfl rfl 9 (by decide) (hts _ (List.mem_cons_of_mem _ tf_X2_36)) (fun _ h9 => h9) rfl dX2_bestCost_1 ?_
  refine lv_bipush (v := iI (((64 : Nat) : Int))) hx hb dX2_bestCost_4 (by decide +kernel) ?_
  refine rn_rem hx hb dX2_bestCost_6 (by omega) (by omega) ?_
  exact hret _ _ _ _ _ _ dX2_bestCost_7 ⟨rfl, rfl⟩ hP hD hS

set_option maxHeartbeats 4000000 in
set_option maxRecDepth 100000 in
theorem k_X2_weightAt (l : Launch) (D : va_G) (cI cZ : ClassId) (sz : Nat) (hQ : Nat) (qb : Nat) (ql : Nat) (qh : Nat) (qf : Nat) (qg : Nat) (qa : Nat) (qo : Nat) (qt : Nat) (n : Nat) (bw : Nat) (hm : Nat → Nat) (b : Nat) (q : Nat) (hb4 : b < 4) (hq : q < 30) (hhm : ∀ j, hm j < 30) : Ci l yX2_weightAt wsX2_weightAt (rmD 1) D vwCl [(cI, .int), (cZ, .boolean)] [.ref hQ, .int (iI (((b : Nat) : Int))), .int (iI (((q : Nat) : Int)))] [(hQ, .inr (2, [.ref qb, .ref ql, .ref qh, .ref qf, .ref qg, .ref qa, .ref qo, .ref qt, .int (iI (((n : Nat) : Int))), .int (iI (((bw : Nat) : Int)))])), ce_i qh cI 4 (nZ (hm))] sz (fun z w => w = [(hQ, .inr (2, [.ref qb, .ref ql, .ref qh, .ref qf, .ref qg, .ref qa, .ref qo, .ref qt, .int (iI (((n : Nat) : Int))), .int (iI (((bw : Nat) : Int)))])), ce_i qh cI 4 (nZ (hm))] ∧ (z = ((wAt (hm b) q : Nat) : Int))) 0 0 := by
  refine Ci_of (cc := cX2_weightAt) (nL := 5) (by decide) rfl (Nat.le_of_ble_eq_true rfl) ?_
  intro p e s m below meth c A Q hsz C hK hN hA hP hD hS hret ls hl
  obtain ⟨hx, hb, hml, hown, hts⟩ := id C
  have hown : s.vm.findClass RX2 = some m.cls := hown
  have hl : lv_has ls 5 [(0, .ref hQ), (1, .int (iI (((b : Nat) : Int)))), (2, .int (iI (((q : Nat) : Int))))] := hl
  have in_X2 : ∀ w ∈ u_ws RX2 TX2 10, w ∈ wsX2_weightAt := fun w h => List.mem_cons_of_mem _ (inX2 w h)
  have h30 : hm b < 30 := hhm b
  refine lv_aload_n hx hb dX2_weightAt_0 rfl (lv_at hl 0 rfl) ?_
  refine va_get (D := D) (ci := 2) (v := .ref qh) (C := RX2) (T := TX2) (N := 10) hx hb hts in_X2 hown hK hP 0 rfl rfl 2 (by decide) (hts _ (List.mem_cons_of_mem _ tf_X2_18)) (fun _ h9 => h9) rfl dX2_weightAt_1 ?_
  refine lv_iload_n hx hb dX2_weightAt_4 rfl (lv_at hl 1 rfl) ?_
  refine rn_aldM hx hb hK hP 1 0 rfl rfl (by omega) (by omega) dX2_weightAt_5 ?_
  refine lv_istore_n (lv' := [(3, .int (iI (((hm b : Nat) : Int)))), (0, .ref hQ), (1, .int (iI (((b : Nat) : Int)))), (2, .int (iI (((q : Nat) : Int))))]) hx hb dX2_weightAt_6 rfl hl (by decide) rfl (fun ls hl => ?_)
  refine lv_iload_n hx hb dX2_weightAt_7 rfl (lv_at hl 3 rfl) ?_
  refine lv_iload_n hx hb dX2_weightAt_8 rfl (lv_at hl 0 rfl) ?_
  refine rz_cne (tgt := 14) hx hb dX2_weightAt_9 (by decide) (by omega) (by omega) (fun c1 => ?_) (fun c1 => ?_)
  · refine lv_iload_n hx hb dX2_weightAt_14 rfl (lv_at hl 3 rfl) ?_
    have hPc := hP.sub (ws' := []) [] rfl
    have hDc := hD.sub (ws' := []) [] (by decide) rfl
    refine rz_calliR (va_runSN (As := [.int (iI (((q : Nat) : Int)))]) (rest := []) ⟨hx, hb, hml, hown, hts⟩ (k_X4_startOfPlace l D cI cZ s.heap.size q (by omega)) ⟨va_cnB 1 hts (gG (g_c cmX4_startOfPlace)) rfl rfl rfl (nK_X2_65 hN) (hts _ (List.mem_cons_of_mem _ tin_X4)) (by decide +kernel) ⟨Nat.le_of_ble_eq_true rfl, Nat.le_of_ble_eq_true rfl⟩, hts _ (List.mem_cons_of_mem _ ts_X4_startOfPlace), trivial⟩ ⟨cP_blind, cP_pre hPc hK hN hDc⟩ rfl rfl hl.1 rfl (lv_room (Nat.le_of_ble_eq_true rfl)) dX2_weightAt_15 ⟨Nat.le_refl _, Nat.le_refl _⟩) hP hD hS hA [] rfl (fun z2 H locs hp hP hS => ?_)
    subst hp
    refine lv_iload_n hx hb dX2_weightAt_18 rfl (lv_at hl 0 rfl) ?_
    have hPc := hP.sub (ws' := []) [] rfl
    have hDc := hD.sub (ws' := []) [] (by decide) rfl
    refine rz_calliR (va_runSN (As := [.int (iI (((hm b : Nat) : Int)))]) (rest := [.int (iI (((q % 10 : Nat) : Int)))]) ⟨hx, hb, hml, hown, hts⟩ (k_X4_startOfPlace l D cI cZ H.size (hm b) (by omega)) ⟨va_cnB 1 hts (gG (g_c cmX4_startOfPlace)) rfl rfl rfl (nK_X2_65 hN) (hts _ (List.mem_cons_of_mem _ tin_X4)) (by decide +kernel) ⟨Nat.le_of_ble_eq_true rfl, Nat.le_of_ble_eq_true rfl⟩, hts _ (List.mem_cons_of_mem _ ts_X4_startOfPlace), trivial⟩ ⟨cP_blind, cP_pre hPc hK hN hDc⟩ rfl rfl hl.1 rfl (lv_room (Nat.le_of_ble_eq_true rfl)) dX2_weightAt_19 ⟨Nat.le_refl _, Nat.le_refl _⟩) hP hD hS hA [] rfl (fun z3 H locs hp hP hS => ?_)
    subst hp
    refine rz_sub hx hb dX2_weightAt_22 ?_
    refine rz_mabs (rest := []) hx hb (hml.trans hl.1.symm) hown hts tm_X2_146 (Nat.le_of_ble_eq_true rfl) (Nat.le_of_ble_eq_true rfl) (Nat.le_of_ble_eq_true rfl) (Nat.le_of_ble_eq_true rfl) dX2_weightAt_23 (by omega) ?_
    refine rz_as (y := ((q % 10 - hm b % 10 + (hm b % 10 - q % 10) : Nat) : Int)) (by split <;> omega) ?_
    refine lv_istore (lv' := [(4, .int (iI (((q % 10 - hm b % 10 + (hm b % 10 - q % 10) : Nat) : Int)))), (3, .int (iI (((hm b : Nat) : Int)))), (0, .ref hQ), (1, .int (iI (((b : Nat) : Int)))), (2, .int (iI (((q : Nat) : Int))))]) hx hb dX2_weightAt_26 hl (by decide) rfl (fun ls hl => ?_)
    refine lv_bipush (v := iI (((64 : Nat) : Int))) hx hb dX2_weightAt_28 (by decide +kernel) ?_
    refine lv_iload hx hb dX2_weightAt_30 (lv_at hl 0 rfl) ?_
    refine rn_add hx hb dX2_weightAt_32 ?_
    refine lv_iload_n hx hb dX2_weightAt_33 rfl (lv_at hl 4 rfl) ?_
    have hPc := hP.sub (ws' := []) [] rfl
    have hDc := hD.sub (ws' := []) [] (by decide) rfl
    refine rz_calliR (va_runSN (As := [.int (iI (((q : Nat) : Int)))]) (rest := [.int (iI (((64 + (q % 10 - hm b % 10 + (hm b % 10 - q % 10)) : Nat) : Int)))]) ⟨hx, hb, hml, hown, hts⟩ (k_X4_tankOfPlace l D cI cZ H.size q (by omega)) ⟨va_cnB 1 hts (gG (g_c cmX4_tankOfPlace)) rfl rfl rfl (nK_X2_149 hN) (hts _ (List.mem_cons_of_mem _ tin_X4)) (by decide +kernel) ⟨Nat.le_of_ble_eq_true rfl, Nat.le_of_ble_eq_true rfl⟩, hts _ (List.mem_cons_of_mem _ ts_X4_tankOfPlace), trivial⟩ ⟨cP_blind, cP_pre hPc hK hN hDc⟩ rfl rfl hl.1 rfl (lv_room (Nat.le_of_ble_eq_true rfl)) dX2_weightAt_34 ⟨Nat.le_refl _, Nat.le_refl _⟩) hP hD hS hA [] rfl (fun z4 H locs hp hP hS => ?_)
    subst hp
    refine lv_iload_n hx hb dX2_weightAt_37 rfl (lv_at hl 1 rfl) ?_
    have hPc := hP.sub (ws' := []) [] rfl
    have hDc := hD.sub (ws' := []) [] (by decide) rfl
    refine rz_calliR (va_runSN (As := [.int (iI (((hm b : Nat) : Int)))]) (rest := [.int (iI (((q / 10 : Nat) : Int))), .int (iI (((64 + (q % 10 - hm b % 10 + (hm b % 10 - q % 10)) : Nat) : Int)))]) ⟨hx, hb, hml, hown, hts⟩ (k_X4_tankOfPlace l D cI cZ H.size (hm b) (by omega)) ⟨va_cnB 1 hts (gG (g_c cmX4_tankOfPlace)) rfl rfl rfl (nK_X2_149 hN) (hts _ (List.mem_cons_of_mem _ tin_X4)) (by decide +kernel) ⟨Nat.le_of_ble_eq_true rfl, Nat.le_of_ble_eq_true rfl⟩, hts _ (List.mem_cons_of_mem _ ts_X4_tankOfPlace), trivial⟩ ⟨cP_blind, cP_pre hPc hK hN hDc⟩ rfl rfl hl.1 rfl (lv_room (Nat.le_of_ble_eq_true rfl)) dX2_weightAt_38 ⟨Nat.le_refl _, Nat.le_refl _⟩) hP hD hS hA [] rfl (fun z5 H locs hp hP hS => ?_)
    subst hp
    refine rz_cne (tgt := 48) hx hb dX2_weightAt_41 (by decide) (by omega) (by omega) (fun c6 => ?_) (fun c6 => ?_)
    · refine lv_iconst (v := iI (((3 : Nat) : Int))) hx hb dX2_weightAt_48 (by decide +kernel) ?_
      refine rn_add hx hb dX2_weightAt_49 ?_
      exact hret _ _ _ _ _ _ dX2_weightAt_50 ⟨rfl, (by unfold wAt; split <;> (try split) <;> omega)⟩ hP hD hS
    · refine lv_iconst (v := iI (((0 : Nat) : Int))) hx hb dX2_weightAt_44 (by decide +kernel) ?_
      refine lv_goto (tgt := 49) hx hb dX2_weightAt_45 (by decide) ?_
      refine rn_add hx hb dX2_weightAt_49 ?_
      exact hret _ _ _ _ _ _ dX2_weightAt_50 ⟨rfl, (by unfold wAt; split <;> (try split) <;> omega)⟩ hP hD hS
  · refine lv_iconst (v := iI (((0 : Nat) : Int))) hx hb dX2_weightAt_12 (by decide +kernel) ?_
    exact hret _ _ _ _ _ _ dX2_weightAt_13 ⟨rfl, (by unfold wAt; split <;> (try split) <;> omega)⟩ hP hD hS

set_option maxHeartbeats 4000000 in
set_option maxRecDepth 100000 in
theorem k_X2_leastWeightFrom (l : Launch) (D : va_G) (cI cZ : ClassId) (sz : Nat) (hQ : Nat) (qb : Nat) (ql : Nat) (qh : Nat) (qf : Nat) (qg : Nat) (qa : Nat) (qo : Nat) (qt : Nat) (n : Nat) (bw : Nat) (hm : Nat → Nat) (op : Nat → Nat) (b : Nat) (hn : n ≤ 4) (hb4 : b ≤ n) (hhm : ∀ j, hm j < 30) (hop : ∀ j, op j < 1073741824) : Ci l yX2_leastWeightFrom wsX2_leastWeightFrom (rmD 0) D vwCl [(cI, .int), (cZ, .boolean)] [.ref hQ, .int (iI (((b : Nat) : Int)))] [(hQ, .inr (2, [.ref qb, .ref ql, .ref qh, .ref qf, .ref qg, .ref qa, .ref qo, .ref qt, .int (iI (((n : Nat) : Int))), .int (iI (((bw : Nat) : Int)))])), ce_i qh cI 4 (nZ (hm)), ce_i qo cI 16 (nZ (op))] sz (fun z w => w = [(hQ, .inr (2, [.ref qb, .ref ql, .ref qh, .ref qf, .ref qg, .ref qa, .ref qo, .ref qt, .int (iI (((n : Nat) : Int))), .int (iI (((bw : Nat) : Int)))])), ce_i qh cI 4 (nZ (hm)), ce_i qo cI 16 (nZ (op))] ∧ (z = ((lwF op hm (b * 4) n (n - b) : Nat) : Int))) 0 0 := by
  refine Ci_of (cc := cX2_leastWeightFrom) (nL := 4) (by decide) rfl (Nat.le_of_ble_eq_true rfl) ?_
  intro p e s m below meth c A Q hsz C hK hN hA hP hD hS hret ls hl
  obtain ⟨hx, hb, hml, hown, hts⟩ := id C
  have hown : s.vm.findClass RX2 = some m.cls := hown
  have hl : lv_has ls 4 [(0, .ref hQ), (1, .int (iI (((b : Nat) : Int))))] := hl
  have in_X2 : ∀ w ∈ u_ws RX2 TX2 10, w ∈ wsX2_leastWeightFrom := fun w h => List.mem_cons_of_mem _ (inX2 w h)
  have K4 : ∀ (fu : Nat) (o : Nat) (wt : Nat), n - o < fu → (b ≤ o ∧ o ≤ n) → (wt ≤ 65 * (o - b)) → (wt + lwF op hm (b * 4) n (n - o) = lwF op hm (b * 4) n (n - b)) → ∀ (H : Heap) (locs : List Loc) (ls : Array Slot), va_P D vwCl [(hQ, .inr (2, [.ref qb, .ref ql, .ref qh, .ref qf, .ref qg, .ref qa, .ref qo, .ref qt, .int (iI (((n : Nat) : Int))), .int (iI (((bw : Nat) : Int)))])), ce_i qh cI 4 (nZ (hm)), ce_i qo cI 16 (nZ (op))] H → va_D A [(hQ, .inr (2, [.ref qb, .ref ql, .ref qh, .ref qf, .ref qg, .ref qa, .ref qo, .ref qt, .int (iI (((n : Nat) : Int))), .int (iI (((bw : Nat) : Int)))])), ce_i qh cI 4 (nZ (hm)), ce_i qo cI 16 (nZ (op))] → va_S A s.heap H locs → lv_has ls 4 [(0, .ref hQ), (1, .int (iI (((b : Nat) : Int)))), (2, .int (iI (((wt : Nat) : Int)))), (3, .int (iI (((o : Nat) : Int))))] → W p l e (rmD 0) s m ([.ref hQ, .int (iI (((b : Nat) : Int)))] : List Value).toArray below meth c H locs 0 0 Q (F0 m 4 ls []) := by
    intro fu
    induction fu with
    | zero => intro o wt hmu; exact absurd hmu (Nat.not_lt_zero _)
    | succ fu ih =>
      intro o wt hmu ho hw1 hw H locs ls hP hD hS hl
      refine lv_iload_n hx hb dX2_leastWeightFrom_4 rfl (lv_at hl 3 rfl) ?_
      refine lv_aload_n hx hb dX2_leastWeightFrom_5 rfl (lv_at hl 0 rfl) ?_
      refine va_get (D := D) (ci := 2) (v := .int (iI (((n : Nat) : Int)))) (C := RX2) (T := TX2) (N := 10) hx hb hts in_X2 hown hK hP 0 rfl rfl 8 (by decide) (hts _ (List.mem_cons_of_mem _ tf_X2_45)) (fun _ h9 => h9) rfl dX2_leastWeightFrom_6 ?_
      refine rz_cge (tgt := 43) hx hb dX2_leastWeightFrom_9 (by decide) (by omega) (by omega) (fun c1 => ?_) (fun c1 => ?_)
      · refine lv_iload_n hx hb dX2_leastWeightFrom_43 rfl (lv_at hl 2 rfl) ?_
        exact hret _ _ _ _ _ _ dX2_leastWeightFrom_44 ⟨rfl, (by rw [← hw, show n - o = 0 by omega]; rfl)⟩ hP hD hS
      · refine lv_aload_n hx hb dX2_leastWeightFrom_12 rfl (lv_at hl 0 rfl) ?_
        refine va_get (D := D) (ci := 2) (v := .ref qo) (C := RX2) (T := TX2) (N := 10) hx hb hts in_X2 hown hK hP 0 rfl rfl 6 (by decide) (hts _ (List.mem_cons_of_mem _ tf_X2_30)) (fun _ h9 => h9) rfl dX2_leastWeightFrom_13 ?_
        refine lv_iload_n hx hb dX2_leastWeightFrom_16 rfl (lv_at hl 1 rfl) ?_
        refine lv_iconst (v := iI (((4 : Nat) : Int))) hx hb dX2_leastWeightFrom_17 (by decide +kernel) ?_
        refine rn_mul hx hb dX2_leastWeightFrom_18 ?_
        refine lv_iload_n hx hb dX2_leastWeightFrom_19 rfl (lv_at hl 3 rfl) ?_
        refine rn_add hx hb dX2_leastWeightFrom_20 ?_
        refine rn_aldM hx hb hK hP 2 0 rfl rfl (by omega) (by omega) dX2_leastWeightFrom_21 ?_
        refine lv_aload_n hx hb dX2_leastWeightFrom_22 rfl (lv_at hl 0 rfl) ?_
        refine va_get (D := D) (ci := 2) (v := .ref qh) (C := RX2) (T := TX2) (N := 10) hx hb hts in_X2 hown hK hP 0 rfl rfl 2 (by decide) (hts _ (List.mem_cons_of_mem _ tf_X2_18)) (fun _ h9 => h9) rfl dX2_leastWeightFrom_23 ?_
        refine lv_iload_n hx hb dX2_leastWeightFrom_26 rfl (lv_at hl 3 rfl) ?_
        refine rn_aldM hx hb hK hP 1 0 rfl rfl (by omega) (by omega) dX2_leastWeightFrom_27 ?_
        refine rz_shr hx hb dX2_leastWeightFrom_28 (by have := hhm o; omega) (by have := hop (b * 4 + o); omega) ?_
        refine lv_iconst (v := iI (((1 : Nat) : Int))) hx hb dX2_leastWeightFrom_29 (by decide +kernel) ?_
        refine rz_and hx hb dX2_leastWeightFrom_30 ?_
        refine rz_ine (tgt := 37) hx hb dX2_leastWeightFrom_31 (by decide) (by have := tb_r (op (b * 4 + o)) (hm o); omega) (fun c2 => ?_) (fun c2 => ?_)
        · have c2 := tb_t c2
          refine lv_iinc (v := iI (((o + 1 : Nat) : Int))) (lv' := [(3, .int (iI (((o + 1 : Nat) : Int)))), (0, .ref hQ), (1, .int (iI (((b : Nat) : Int)))), (2, .int (iI (((wt : Nat) : Int))))]) hx hb dX2_leastWeightFrom_37 hl (k := 3) rfl (iI_inc _) (by decide) rfl (fun ls hl => ?_)
          refine lv_goto (tgt := 4) hx hb dX2_leastWeightFrom_40 (by decide) ?_
          exact ih (o + 1) (wt) (by omega) (by omega) (by omega) (by rw [← hw, show n - o = (n - (o + 1)) + 1 by omega, lwF, show n - (n - (o + 1) + 1) = o by omega]; first | (rw [if_pos (by assumption)]; omega) | (rw [if_neg (by simp_all)]; omega)) _ _ _ hP hD hS (lv_sub hl [1, 2, 3, 0] rfl)
        · have c2 := tb_f c2
          refine lv_iinc (v := iI (((wt + 65 : Nat) : Int))) (lv' := [(2, .int (iI (((wt + 65 : Nat) : Int)))), (0, .ref hQ), (1, .int (iI (((b : Nat) : Int)))), (3, .int (iI (((o : Nat) : Int))))]) hx hb dX2_leastWeightFrom_34 hl (k := 2) rfl (iI_incK _ 65) (by decide) rfl (fun ls hl => ?_)
          refine lv_iinc (v := iI (((o + 1 : Nat) : Int))) (lv' := [(3, .int (iI (((o + 1 : Nat) : Int)))), (2, .int (iI (((wt + 65 : Nat) : Int)))), (0, .ref hQ), (1, .int (iI (((b : Nat) : Int))))]) hx hb dX2_leastWeightFrom_37 hl (k := 3) rfl (iI_inc _) (by decide) rfl (fun ls hl => ?_)
          refine lv_goto (tgt := 4) hx hb dX2_leastWeightFrom_40 (by decide) ?_
          exact ih (o + 1) (wt + 65) (by omega) (by omega) (by omega) (by rw [← hw, show n - o = (n - (o + 1)) + 1 by omega, lwF, show n - (n - (o + 1) + 1) = o by omega]; first | (rw [if_pos (by assumption)]; omega) | (rw [if_neg (by simp_all)]; omega)) _ _ _ hP hD hS (lv_sub hl [2, 3, 1, 0] rfl)
  refine lv_iconst (v := iI (((0 : Nat) : Int))) hx hb dX2_leastWeightFrom_0 (by decide +kernel) ?_
  refine lv_istore_n (lv' := [(2, .int (iI (((0 : Nat) : Int)))), (0, .ref hQ), (1, .int (iI (((b : Nat) : Int))))]) hx hb dX2_leastWeightFrom_1 rfl hl (by decide) rfl (fun ls hl => ?_)
  refine lv_iload_n hx hb dX2_leastWeightFrom_2 rfl (lv_at hl 2 rfl) ?_
  refine lv_istore_n (lv' := [(3, .int (iI (((b : Nat) : Int)))), (2, .int (iI (((0 : Nat) : Int)))), (0, .ref hQ), (1, .int (iI (((b : Nat) : Int))))]) hx hb dX2_leastWeightFrom_3 rfl hl (by decide) rfl (fun ls hl => ?_)
  exact K4 (n - (b) + 1) (b) (0) (Nat.lt_succ_self _) (by omega) (by omega) (Nat.zero_add _) _ _ _ hP hD hS (lv_sub hl [2, 3, 1, 0] rfl)

set_option maxHeartbeats 4000000 in
set_option maxRecDepth 100000 in
theorem k_J7_fill (l : Launch) (D : va_G) (cI cZ : ClassId) (sz : Nat) (q : Nat) (N0 : Nat) (g : Nat → Int) (v : Int) (hN : N0 < 1000) : Cv l yJ7_fill wsJ7_fill (rmD 0) D vwCl [(cI, .int), (cZ, .boolean)] [.ref q, .int (iI (v))] [ce_i q cI N0 (g)] sz (fun w => ∃ g2 : Nat → Int, w = [ce_i q cI N0 (g2)] ∧ (∀ j : Nat, g2 j = if j < N0 then v else g j)) 0 0 := by
  refine Cv_of (cc := cJ7_fill) (nL := 4) (by decide) rfl (Nat.le_of_ble_eq_true rfl) ?_
  intro p e s m below meth c A Q hsz C hK hN hA hP hD hS hin hret ls hl
  obtain ⟨hx, hb, hml, hown, hts⟩ := id C
  have hown : s.vm.findClass RJ7 = some m.cls := hown
  have hl : lv_has ls 4 [(0, .ref q), (1, .int (iI (v)))] := hl
  have K5 : ∀ (fu : Nat) (i : Nat) (g1 : Nat → Int), N0 - i < fu → (i ≤ N0) → (∀ j : Nat, g1 j = if j < i then v else g j) → ∀ (H : Heap) (locs : List Loc) (ls : Array Slot), va_P D vwCl [ce_i q cI N0 (g1)] H → va_D A [ce_i q cI N0 (g1)] → va_S A s.heap H locs → lv_has ls 4 [(0, .ref q), (1, .int (iI (v))), (2, .int (iI (((i : Nat) : Int)))), (3, .int (iI (((N0 : Nat) : Int))))] → W p l e (rmD 0) s m ([.ref q, .int (iI (v))] : List Value).toArray below meth c H locs 0 0 Q (F0 m 5 ls []) := by
    intro fu
    induction fu with
    | zero => intro i g1 hmu; exact absurd hmu (Nat.not_lt_zero _)
    | succ fu ih =>
      intro i g1 hmu hi hg H locs ls hP hD hS hl
      refine lv_iload_n hx hb dJ7_fill_5 rfl (lv_at hl 2 rfl) ?_
      refine lv_iload_n hx hb dJ7_fill_6 rfl (lv_at hl 3 rfl) ?_
      refine rz_cge (tgt := 20) hx hb dJ7_fill_7 (by decide) (by omega) (by omega) (fun c1 => ?_) (fun c1 => ?_)
      · exact hret _ _ _ _ _ dJ7_fill_20 ⟨_, rfl, fun j => by rw [hg j, show i = N0 by omega]⟩ hP hD hS
      · refine lv_aload_n hx hb dJ7_fill_10 rfl (lv_at hl 0 rfl) ?_
        refine lv_iload_n hx hb dJ7_fill_11 rfl (lv_at hl 2 rfl) ?_
        refine lv_iload_n hx hb dJ7_fill_12 rfl (lv_at hl 1 rfl) ?_
        refine rn_ast hx hb hK hP hD hS 0 0 rfl rfl (by omega) (by omega) dJ7_fill_13 (fun H locs hP hD hS => ?_)
        have hP : va_P D vwCl [ce_i q cI N0 (uZ g1 i v)] H := hP
        have hD : va_D A [ce_i q cI N0 (uZ g1 i v)] := hD
        refine lv_iinc (v := iI (((i + 1 : Nat) : Int))) (lv' := [(2, .int (iI (((i + 1 : Nat) : Int)))), (0, .ref q), (1, .int (iI (v))), (3, .int (iI (((N0 : Nat) : Int))))]) hx hb dJ7_fill_14 hl (k := 2) rfl (iI_inc _) (by decide) rfl (fun ls hl => ?_)
        refine lv_goto (tgt := 5) hx hb dJ7_fill_17 (by decide) ?_
        exact ih (i + 1) (uZ g1 i v) (by omega) (by omega) (fun j => by simp only [uZ]; by_cases h : j = i; (rw [if_pos h, if_pos (by omega)]); (rw [if_neg h, hg j]; by_cases h2 : j < i; (rw [if_pos h2, if_pos (by omega)]); (rw [if_neg h2, if_neg (by omega)]))) _ _ _ hP hD hS (lv_sub hl [1, 2, 0, 3] rfl)
  refine lv_iconst (v := iI (((0 : Nat) : Int))) hx hb dJ7_fill_0 (by decide +kernel) ?_
  refine lv_istore_n (lv' := [(2, .int (iI (((0 : Nat) : Int)))), (0, .ref q), (1, .int (iI (v)))]) hx hb dJ7_fill_1 rfl hl (by decide) rfl (fun ls hl => ?_)
  refine lv_aload_n hx hb dJ7_fill_2 rfl (lv_at hl 1 rfl) ?_
  refine va_alen (v := iI (((N0 : Nat) : Int))) hx hb hK hP 0 0 rfl rfl (iI_n _).symm dJ7_fill_3 ?_
  refine lv_istore_n (lv' := [(3, .int (iI (((N0 : Nat) : Int)))), (2, .int (iI (((0 : Nat) : Int)))), (0, .ref q), (1, .int (iI (v)))]) hx hb dJ7_fill_4 rfl hl (by decide) rfl (fun ls hl => ?_)
  exact K5 (N0 - (0) + 1) (0) (g) (Nat.lt_succ_self _) (by omega) (fun j => by rw [if_neg (Nat.not_lt_zero j)]) _ _ _ hP hD hS (lv_sub hl [2, 3, 1, 0] rfl)

set_option maxHeartbeats 4000000 in
set_option maxRecDepth 100000 in
theorem k_J7_fillM (l : Launch) (D : va_G) (cI cZ : ClassId) (sz : Nat) (q : Nat) (N0 : Nat) (g : Nat → Nat) (hN : N0 < 1000) : Cv l yJ7_fill wsJ7_fill (rmD 0) D vwCl [(cI, .int), (cZ, .boolean)] [.ref q, .int (iI (((0 : Nat) : Int)))] [ce_i q cI N0 (nZ (g))] sz (fun w => ∃ g2 : Nat → Nat, w = [ce_i q cI N0 (nZ (g2))] ∧ (∀ j : Nat, g2 j = if j < N0 then 0 else g j)) 0 0 := by
  refine Cv_of (cc := cJ7_fill) (nL := 4) (by decide) rfl (Nat.le_of_ble_eq_true rfl) ?_
  intro p e s m below meth c A Q hsz C hK hN hA hP hD hS hin hret ls hl
  obtain ⟨hx, hb, hml, hown, hts⟩ := id C
  have hown : s.vm.findClass RJ7 = some m.cls := hown
  have hl : lv_has ls 4 [(0, .ref q), (1, .int (iI (((0 : Nat) : Int))))] := hl
  have K5 : ∀ (fu : Nat) (i : Nat) (g1 : Nat → Nat), N0 - i < fu → (i ≤ N0) → (∀ j : Nat, g1 j = if j < i then 0 else g j) → ∀ (H : Heap) (locs : List Loc) (ls : Array Slot), va_P D vwCl [ce_i q cI N0 (nZ (g1))] H → va_D A [ce_i q cI N0 (nZ (g1))] → va_S A s.heap H locs → lv_has ls 4 [(0, .ref q), (1, .int (iI (((0 : Nat) : Int)))), (2, .int (iI (((i : Nat) : Int)))), (3, .int (iI (((N0 : Nat) : Int))))] → W p l e (rmD 0) s m ([.ref q, .int (iI (((0 : Nat) : Int)))] : List Value).toArray below meth c H locs 0 0 Q (F0 m 5 ls []) := by
    intro fu
    induction fu with
    | zero => intro i g1 hmu; exact absurd hmu (Nat.not_lt_zero _)
    | succ fu ih =>
      intro i g1 hmu hi hg H locs ls hP hD hS hl
      refine lv_iload_n hx hb dJ7_fill_5 rfl (lv_at hl 2 rfl) ?_
      refine lv_iload_n hx hb dJ7_fill_6 rfl (lv_at hl 3 rfl) ?_
      refine rz_cge (tgt := 20) hx hb dJ7_fill_7 (by decide) (by omega) (by omega) (fun c1 => ?_) (fun c1 => ?_)
      · exact hret _ _ _ _ _ dJ7_fill_20 ⟨_, rfl, fun j => by rw [hg j, show i = N0 by omega]⟩ hP hD hS
      · refine lv_aload_n hx hb dJ7_fill_10 rfl (lv_at hl 0 rfl) ?_
        refine lv_iload_n hx hb dJ7_fill_11 rfl (lv_at hl 2 rfl) ?_
        refine lv_iload_n hx hb dJ7_fill_12 rfl (lv_at hl 1 rfl) ?_
        refine rn_astM hx hb hK hP hD hS 0 0 rfl rfl (by omega) (by omega) dJ7_fill_13 (fun H locs hP hD hS => ?_)
        have hP : va_P D vwCl [ce_i q cI N0 (nZ (uN g1 i 0))] H := hP
        have hD : va_D A [ce_i q cI N0 (nZ (uN g1 i 0))] := hD
        refine lv_iinc (v := iI (((i + 1 : Nat) : Int))) (lv' := [(2, .int (iI (((i + 1 : Nat) : Int)))), (0, .ref q), (1, .int (iI (((0 : Nat) : Int)))), (3, .int (iI (((N0 : Nat) : Int))))]) hx hb dJ7_fill_14 hl (k := 2) rfl (iI_inc _) (by decide) rfl (fun ls hl => ?_)
        refine lv_goto (tgt := 5) hx hb dJ7_fill_17 (by decide) ?_
        exact ih (i + 1) (uN g1 i 0) (by omega) (by omega) (fun j => by simp only [uN]; by_cases h : j = i; (rw [if_pos h, if_pos (by omega)]); (rw [if_neg h, hg j]; by_cases h2 : j < i; (rw [if_pos h2, if_pos (by omega)]); (rw [if_neg h2, if_neg (by omega)]))) _ _ _ hP hD hS (lv_sub hl [1, 2, 0, 3] rfl)
  refine lv_iconst (v := iI (((0 : Nat) : Int))) hx hb dJ7_fill_0 (by decide +kernel) ?_
  refine lv_istore_n (lv' := [(2, .int (iI (((0 : Nat) : Int)))), (0, .ref q), (1, .int (iI (((0 : Nat) : Int))))]) hx hb dJ7_fill_1 rfl hl (by decide) rfl (fun ls hl => ?_)
  refine lv_aload_n hx hb dJ7_fill_2 rfl (lv_at hl 1 rfl) ?_
  refine va_alen (v := iI (((N0 : Nat) : Int))) hx hb hK hP 0 0 rfl rfl (iI_n _).symm dJ7_fill_3 ?_
  refine lv_istore_n (lv' := [(3, .int (iI (((N0 : Nat) : Int)))), (2, .int (iI (((0 : Nat) : Int)))), (0, .ref q), (1, .int (iI (((0 : Nat) : Int))))]) hx hb dJ7_fill_4 rfl hl (by decide) rfl (fun ls hl => ?_)
  exact K5 (N0 - (0) + 1) (0) (g) (Nat.lt_succ_self _) (by omega) (fun j => by rw [if_neg (Nat.not_lt_zero j)]) _ _ _ hP hD hS (lv_sub hl [2, 3, 1, 0] rfl)

set_option maxHeartbeats 4000000 in
set_option maxRecDepth 100000 in
theorem k_X2_openBeside (l : Launch) (D : va_G) (cI cZ : ClassId) (sz : Nat) (hQ : Nat) (qb : Nat) (ql : Nat) (qh : Nat) (qf : Nat) (qg : Nat) (qa : Nat) (qo : Nat) (qt : Nat) (n : Nat) (bw : Nat) (ln : Nat → Nat) (lg : Nat → Int) (ap : Nat → Nat) (b : Nat) (q : Nat) (o : Nat) (hb4 : b < 4) (ho4 : o < 4) (hq : q < 30) (hln : ∀ j, ln j ≤ 10) (hlg : ∀ j, -10 ≤ lg j ∧ lg j ≤ 10) (hap : ∀ j, ap j < 16) : Ci l yX2_openBeside wsX2_openBeside (rmD 2) D vwCl [(cI, .int), (cZ, .boolean)] [.ref hQ, .int (iI (((b : Nat) : Int))), .int (iI (((q : Nat) : Int))), .int (iI (((o : Nat) : Int)))] [(hQ, .inr (2, [.ref qb, .ref ql, .ref qh, .ref qf, .ref qg, .ref qa, .ref qo, .ref qt, .int (iI (((n : Nat) : Int))), .int (iI (((bw : Nat) : Int)))])), ce_i ql cI 4 (nZ (ln)), ce_i qg cI 16 (lg), ce_i qa cI 4 (nZ (ap))] sz (fun z w => w = [(hQ, .inr (2, [.ref qb, .ref ql, .ref qh, .ref qf, .ref qg, .ref qa, .ref qo, .ref qt, .int (iI (((n : Nat) : Int))), .int (iI (((bw : Nat) : Int)))])), ce_i ql cI 4 (nZ (ln)), ce_i qg cI 16 (lg), ce_i qa cI 4 (nZ (ap))] ∧ (z = ((besF ln lg ap b q o : Nat) : Int))) 0 0 := by
  refine Ci_of (cc := cX2_openBeside) (nL := 10) (by decide) rfl (Nat.le_of_ble_eq_true rfl) ?_
  intro p e s m below meth c A Q hsz C hK hN hA hP hD hS hret ls hl
  obtain ⟨hx, hb, hml, hown, hts⟩ := id C
  have hown : s.vm.findClass RX2 = some m.cls := hown
  have hl : lv_has ls 10 [(0, .ref hQ), (1, .int (iI (((b : Nat) : Int)))), (2, .int (iI (((q : Nat) : Int)))), (3, .int (iI (((o : Nat) : Int))))] := hl
  have in_X2 : ∀ w ∈ u_ws RX2 TX2 10, w ∈ wsX2_openBeside := fun w h => List.mem_cons_of_mem _ (inX2 w h)
  have l1 := hln b
  have l2 := hln o
  have g1 := hlg (o * 4 + b)
  have g2 := hlg (b * 4 + o)
  have a1 := hap b
  refine lv_iload_n hx hb dX2_openBeside_0 rfl (lv_at hl 2 rfl) ?_
  have hPc := hP.sub (ws' := []) [] rfl
  have hDc := hD.sub (ws' := []) [] (by decide) rfl
  refine rz_calliR (va_runSN (As := [.int (iI (((q : Nat) : Int)))]) (rest := []) ⟨hx, hb, hml, hown, hts⟩ (k_X4_startOfPlace l D cI cZ s.heap.size q (by omega)) ⟨va_cnB 1 hts (gG (g_c cmX4_startOfPlace)) rfl rfl rfl (nK_X2_65 hN) (hts _ (List.mem_cons_of_mem _ tin_X4)) (by decide +kernel) ⟨Nat.le_of_ble_eq_true rfl, Nat.le_of_ble_eq_true rfl⟩, hts _ (List.mem_cons_of_mem _ ts_X4_startOfPlace), trivial⟩ ⟨cP_blind, cP_pre hPc hK hN hDc⟩ rfl rfl hl.1 rfl (lv_room (Nat.le_of_ble_eq_true rfl)) dX2_openBeside_1 ⟨Nat.le_refl _, Nat.le_refl _⟩) hP hD hS hA [] rfl (fun z1 H locs hp hP hS => ?_)
  subst hp
  refine lv_istore (lv' := [(4, .int (iI (((q % 10 : Nat) : Int)))), (0, .ref hQ), (1, .int (iI (((b : Nat) : Int)))), (2, .int (iI (((q : Nat) : Int)))), (3, .int (iI (((o : Nat) : Int))))]) hx hb dX2_openBeside_4 hl (by decide) rfl (fun ls hl => ?_)
  refine lv_iload hx hb dX2_openBeside_6 (lv_at hl 0 rfl) ?_
  refine lv_aload_n hx hb dX2_openBeside_8 rfl (lv_at hl 1 rfl) ?_
  refine va_get (D := D) (ci := 2) (v := .ref ql) (C := RX2) (T := TX2) (N := 10) hx hb hts in_X2 hown hK hP 0 rfl rfl 1 (by decide) (hts _ (List.mem_cons_of_mem _ tf_X2_15)) (fun _ h9 => h9) rfl dX2_openBeside_9 ?_
  refine lv_iload_n hx hb dX2_openBeside_12 rfl (lv_at hl 2 rfl) ?_
  refine rn_aldM hx hb hK hP 1 0 rfl rfl (by omega) (by omega) dX2_openBeside_13 ?_
  refine rn_add hx hb dX2_openBeside_14 ?_
  refine lv_istore (lv' := [(5, .int (iI ((((q % 10) + (ln b) : Nat) : Int)))), (4, .int (iI (((q % 10 : Nat) : Int)))), (0, .ref hQ), (1, .int (iI (((b : Nat) : Int)))), (2, .int (iI (((q : Nat) : Int)))), (3, .int (iI (((o : Nat) : Int))))]) hx hb dX2_openBeside_15 hl (by decide) rfl (fun ls hl => ?_)
  refine lv_iload hx hb dX2_openBeside_17 (lv_at hl 0 rfl) ?_
  refine lv_aload_n hx hb dX2_openBeside_19 rfl (lv_at hl 2 rfl) ?_
  refine va_get (D := D) (ci := 2) (v := .ref qg) (C := RX2) (T := TX2) (N := 10) hx hb hts in_X2 hown hK hP 0 rfl rfl 4 (by decide) (hts _ (List.mem_cons_of_mem _ tf_X2_24)) (fun _ h9 => h9) rfl dX2_openBeside_20 ?_
  refine lv_iload_n hx hb dX2_openBeside_23 rfl (lv_at hl 5 rfl) ?_
  refine lv_iconst (v := iI (((4 : Nat) : Int))) hx hb dX2_openBeside_24 (by decide +kernel) ?_
  refine rn_mul hx hb dX2_openBeside_25 ?_
  refine lv_iload_n hx hb dX2_openBeside_26 rfl (lv_at hl 3 rfl) ?_
  refine rn_add hx hb dX2_openBeside_27 ?_
  refine rn_ald hx hb hK hP 2 0 rfl rfl (by omega) (by omega) dX2_openBeside_28 ?_
  refine rz_add hx hb dX2_openBeside_29 ?_
  refine lv_istore (lv' := [(6, .int (iI ((((q % 10) + (ln b) : Nat) : Int) + (lg ((o * 4) + b))))), (5, .int (iI ((((q % 10) + (ln b) : Nat) : Int)))), (4, .int (iI (((q % 10 : Nat) : Int)))), (0, .ref hQ), (1, .int (iI (((b : Nat) : Int)))), (2, .int (iI (((q : Nat) : Int)))), (3, .int (iI (((o : Nat) : Int))))]) hx hb dX2_openBeside_30 hl (by decide) rfl (fun ls hl => ?_)
  refine lv_iload hx hb dX2_openBeside_32 (lv_at hl 2 rfl) ?_
  refine lv_aload_n hx hb dX2_openBeside_34 rfl (lv_at hl 3 rfl) ?_
  refine va_get (D := D) (ci := 2) (v := .ref qg) (C := RX2) (T := TX2) (N := 10) hx hb hts in_X2 hown hK hP 0 rfl rfl 4 (by decide) (hts _ (List.mem_cons_of_mem _ tf_X2_24)) (fun _ h9 => h9) rfl dX2_openBeside_35 ?_
  refine lv_iload_n hx hb dX2_openBeside_38 rfl (lv_at hl 4 rfl) ?_
  refine lv_iconst (v := iI (((4 : Nat) : Int))) hx hb dX2_openBeside_39 (by decide +kernel) ?_
  refine rn_mul hx hb dX2_openBeside_40 ?_
  refine lv_iload_n hx hb dX2_openBeside_41 rfl (lv_at hl 6 rfl) ?_
  refine rn_add hx hb dX2_openBeside_42 ?_
  refine rn_ald hx hb hK hP 2 0 rfl rfl (by omega) (by omega) dX2_openBeside_43 ?_
  refine rz_sub hx hb dX2_openBeside_44 ?_
  refine lv_aload_n hx hb dX2_openBeside_45 rfl (lv_at hl 3 rfl) ?_
  refine va_get (D := D) (ci := 2) (v := .ref ql) (C := RX2) (T := TX2) (N := 10) hx hb hts in_X2 hown hK hP 0 rfl rfl 1 (by decide) (hts _ (List.mem_cons_of_mem _ tf_X2_15)) (fun _ h9 => h9) rfl dX2_openBeside_46 ?_
  refine lv_iload_n hx hb dX2_openBeside_49 rfl (lv_at hl 6 rfl) ?_
  refine rn_aldM hx hb hK hP 1 0 rfl rfl (by omega) (by omega) dX2_openBeside_50 ?_
  refine rz_sub hx hb dX2_openBeside_51 ?_
  refine lv_istore (lv' := [(7, .int (iI ((((q % 10 : Nat) : Int) - (lg ((b * 4) + o))) - ((ln o : Nat) : Int)))), (6, .int (iI ((((q % 10) + (ln b) : Nat) : Int) + (lg ((o * 4) + b))))), (5, .int (iI ((((q % 10) + (ln b) : Nat) : Int)))), (4, .int (iI (((q % 10 : Nat) : Int)))), (0, .ref hQ), (1, .int (iI (((b : Nat) : Int)))), (2, .int (iI (((q : Nat) : Int)))), (3, .int (iI (((o : Nat) : Int))))]) hx hb dX2_openBeside_52 hl (by decide) rfl (fun ls hl => ?_)
  refine lv_aload_n hx hb dX2_openBeside_54 rfl (lv_at hl 4 rfl) ?_
  refine va_get (D := D) (ci := 2) (v := .ref qa) (C := RX2) (T := TX2) (N := 10) hx hb hts in_X2 hown hK hP 0 rfl rfl 5 (by decide) (hts _ (List.mem_cons_of_mem _ tf_X2_27)) (fun _ h9 => h9) rfl dX2_openBeside_55 ?_
  refine lv_iload_n hx hb dX2_openBeside_58 rfl (lv_at hl 5 rfl) ?_
  refine rn_aldM hx hb hK hP 3 0 rfl rfl (by omega) (by omega) dX2_openBeside_59 ?_
  refine lv_iload_n hx hb dX2_openBeside_60 rfl (lv_at hl 7 rfl) ?_
  refine rz_shr hx hb dX2_openBeside_61 (by omega) (by omega) ?_
  refine lv_iconst (v := iI (((1 : Nat) : Int))) hx hb dX2_openBeside_62 (by decide +kernel) ?_
  refine rz_and hx hb dX2_openBeside_63 ?_
  refine rz_ine (tgt := 71) hx hb dX2_openBeside_64 (by decide) (by have := tb_r (ap b) o; omega) (fun c2 => ?_) (fun c2 => ?_)
  · have c2 := tb_t c2
    refine lv_iconst (v := iI (((0 : Nat) : Int))) hx hb dX2_openBeside_71 (by decide +kernel) ?_
    refine lv_istore (lv' := [(8, .int (iI (((0 : Nat) : Int)))), (7, .int (iI ((((q % 10 : Nat) : Int) - (lg ((b * 4) + o))) - ((ln o : Nat) : Int)))), (6, .int (iI ((((q % 10) + (ln b) : Nat) : Int) + (lg ((o * 4) + b))))), (5, .int (iI ((((q % 10) + (ln b) : Nat) : Int)))), (4, .int (iI (((q % 10 : Nat) : Int)))), (0, .ref hQ), (1, .int (iI (((b : Nat) : Int)))), (2, .int (iI (((q : Nat) : Int)))), (3, .int (iI (((o : Nat) : Int))))]) hx hb dX2_openBeside_72 hl (by decide) rfl (fun ls hl => ?_)
    refine lv_iload hx hb dX2_openBeside_74 (lv_at hl 0 rfl) ?_
    refine rz_ieq (tgt := 100) hx hb dX2_openBeside_76 (by decide) (by omega) (fun c3 => ?_) (fun c3 => ?_)
    · refine lv_sipush (v := iI (((1023 : Nat) : Int))) hx hb dX2_openBeside_100 (by decide +kernel) ?_
      refine lv_istore (lv' := [(9, .int (iI (((1023 : Nat) : Int)))), (8, .int (iI (((0 : Nat) : Int)))), (7, .int (iI ((((q % 10 : Nat) : Int) - (lg ((b * 4) + o))) - ((ln o : Nat) : Int)))), (6, .int (iI ((((q % 10) + (ln b) : Nat) : Int) + (lg ((o * 4) + b))))), (5, .int (iI ((((q % 10) + (ln b) : Nat) : Int)))), (4, .int (iI (((q % 10 : Nat) : Int)))), (0, .ref hQ), (1, .int (iI (((b : Nat) : Int)))), (2, .int (iI (((q : Nat) : Int)))), (3, .int (iI (((o : Nat) : Int))))]) hx hb dX2_openBeside_103 hl (by decide) rfl (fun ls hl => ?_)
      refine lv_iload hx hb dX2_openBeside_105 (lv_at hl 3 rfl) ?_
      refine lv_iload hx hb dX2_openBeside_107 (lv_at hl 2 rfl) ?_
      have hPc := hP.sub (ws' := []) [] rfl
      have hDc := hD.sub (ws' := []) [] (by decide) rfl
      refine rz_calliR (va_runSN (As := [.int (iI ((((q % 10) + (ln b) : Nat) : Int) + (lg ((o * 4) + b)))), .int (iI ((((q % 10 : Nat) : Int) - (lg ((b * 4) + o))) - ((ln o : Nat) : Int)))]) (rest := []) ⟨hx, hb, hml, hown, hts⟩ (k_X4_daysFromTo l D cI cZ H.size ((((q % 10) + (ln b) : Nat) : Int) + (lg ((o * 4) + b))) ((((q % 10 : Nat) : Int) - (lg ((b * 4) + o))) - ((ln o : Nat) : Int)) (by omega) (by omega)) ⟨va_cnB 2 hts (gG (g_c cmX4_daysFromTo)) rfl rfl rfl (nK_X2_50 hN) (hts _ (List.mem_cons_of_mem _ tin_X4)) (by decide +kernel) ⟨Nat.le_of_ble_eq_true rfl, Nat.le_of_ble_eq_true rfl⟩, hts _ (List.mem_cons_of_mem _ ts_X4_daysFromTo), trivial⟩ ⟨cP_blind, cP_pre hPc hK hN hDc⟩ rfl rfl hl.1 rfl (lv_room (Nat.le_of_ble_eq_true rfl)) dX2_openBeside_109 ⟨Nat.le_refl _, Nat.le_refl _⟩) hP hD hS hA [] rfl (fun z4 H locs hp hP hS => ?_)
      subst hp
      have hPc := hP.sub (ws' := []) [] rfl
      have hDc := hD.sub (ws' := []) [] (by decide) rfl
      refine rz_calliR (va_runS (As := [.int (iI (((daysF ((((q % 10) + (ln b) : Nat) : Int) + (lg ((o * 4) + b))) ((((q % 10 : Nat) : Int) - (lg ((b * 4) + o))) - ((ln o : Nat) : Int)) : Nat) : Int)))]) (rest := []) ⟨hx, hb, hml, hown, hts⟩ (k_X2_inEveryTank l D cI cZ H.size (daysF ((((q % 10) + (ln b) : Nat) : Int) + (lg ((o * 4) + b))) ((((q % 10 : Nat) : Int) - (lg ((b * 4) + o))) - ((ln o : Nat) : Int))) ) (va_cwS 1 hts (gG (g_S tm_X2_108 ts_X2_inEveryTank tin_X2 cmX2_inEveryTank)) rfl rfl rfl (by decide +kernel) ⟨Nat.le_of_ble_eq_true rfl, Nat.le_of_ble_eq_true rfl⟩) ⟨cP_blind, cP_pre hPc hK hN hDc⟩ rfl rfl hl.1 rfl (lv_room (Nat.le_of_ble_eq_true rfl)) dX2_openBeside_112 ⟨Nat.le_refl _, Nat.le_refl _⟩) hP hD hS hA [] rfl (fun z5 H locs hp hP hS => ?_)
      subst hp
      refine lv_iload hx hb dX2_openBeside_115 (lv_at hl 0 rfl) ?_
      refine lv_iload_n hx hb dX2_openBeside_117 rfl (lv_at hl 8 rfl) ?_
      have hPc := hP.sub (ws' := []) [] rfl
      have hDc := hD.sub (ws' := []) [] (by decide) rfl
      refine rz_calliR (va_runSN (As := [.int (iI (((q : Nat) : Int)))]) (rest := [.int (iI (((1023 : Nat) : Int))), .int (iI ((((daysF ((((q % 10) + (ln b) : Nat) : Int) + (lg ((o * 4) + b))) ((((q % 10 : Nat) : Int) - (lg ((b * 4) + o))) - ((ln o : Nat) : Int))) * 1049601 : Nat) : Int)))]) ⟨hx, hb, hml, hown, hts⟩ (k_X4_tankOfPlace l D cI cZ H.size q (by omega)) ⟨va_cnB 1 hts (gG (g_c cmX4_tankOfPlace)) rfl rfl rfl (nK_X2_149 hN) (hts _ (List.mem_cons_of_mem _ tin_X4)) (by decide +kernel) ⟨Nat.le_of_ble_eq_true rfl, Nat.le_of_ble_eq_true rfl⟩, hts _ (List.mem_cons_of_mem _ ts_X4_tankOfPlace), trivial⟩ ⟨cP_blind, cP_pre hPc hK hN hDc⟩ rfl rfl hl.1 rfl (lv_room (Nat.le_of_ble_eq_true rfl)) dX2_openBeside_118 ⟨Nat.le_refl _, Nat.le_refl _⟩) hP hD hS hA [] rfl (fun z6 H locs hp hP hS => ?_)
      subst hp
      refine lv_bipush (v := iI (((10 : Nat) : Int))) hx hb dX2_openBeside_121 (by decide +kernel) ?_
      refine rn_mul hx hb dX2_openBeside_123 ?_
      refine rz_shl hx hb dX2_openBeside_124 (by omega) (Nat.lt_trans (sh_lt (by first | exact daysF_lt _ _ | decide) (by omega)) (by decide)) ?_
      refine lv_iconst (v := iI ((-1 : Int))) hx hb dX2_openBeside_125 (by decide +kernel) ?_
      refine lv_ixor hx hb dX2_openBeside_126 ?_
      refine lv_iand hx hb dX2_openBeside_127 ?_
      refine rz_raw (y := ((besF ln lg ap b q o : Nat) : Int)) (by rw [iI_dif, besF]; first | rw [if_pos (by assumption)] | rw [if_neg (by simp_all)]) ?_
      exact hret _ _ _ _ _ _ dX2_openBeside_128 ⟨rfl, rfl⟩ hP hD hS
    · exfalso; omega
  · have c2 := tb_f c2
    refine lv_iconst (v := iI (((1 : Nat) : Int))) hx hb dX2_openBeside_67 (by decide +kernel) ?_
    refine lv_goto (tgt := 72) hx hb dX2_openBeside_68 (by decide) ?_
    refine lv_istore (lv' := [(8, .int (iI (((1 : Nat) : Int)))), (7, .int (iI ((((q % 10 : Nat) : Int) - (lg ((b * 4) + o))) - ((ln o : Nat) : Int)))), (6, .int (iI ((((q % 10) + (ln b) : Nat) : Int) + (lg ((o * 4) + b))))), (5, .int (iI ((((q % 10) + (ln b) : Nat) : Int)))), (4, .int (iI (((q % 10 : Nat) : Int)))), (0, .ref hQ), (1, .int (iI (((b : Nat) : Int)))), (2, .int (iI (((q : Nat) : Int)))), (3, .int (iI (((o : Nat) : Int))))]) hx hb dX2_openBeside_72 hl (by decide) rfl (fun ls hl => ?_)
    refine lv_iload hx hb dX2_openBeside_74 (lv_at hl 0 rfl) ?_
    refine rz_ieq (tgt := 100) hx hb dX2_openBeside_76 (by decide) (by omega) (fun c7 => ?_) (fun c7 => ?_)
    · exfalso; omega
    · refine lv_iload hx hb dX2_openBeside_79 (lv_at hl 4 rfl) ?_
      refine lv_aload_n hx hb dX2_openBeside_81 rfl (lv_at hl 5 rfl) ?_
      refine va_get (D := D) (ci := 2) (v := .ref ql) (C := RX2) (T := TX2) (N := 10) hx hb hts in_X2 hown hK hP 0 rfl rfl 1 (by decide) (hts _ (List.mem_cons_of_mem _ tf_X2_15)) (fun _ h9 => h9) rfl dX2_openBeside_82 ?_
      refine lv_iload_n hx hb dX2_openBeside_85 rfl (lv_at hl 8 rfl) ?_
      refine rn_aldM hx hb hK hP 1 0 rfl rfl (by omega) (by omega) dX2_openBeside_86 ?_
      refine rz_sub hx hb dX2_openBeside_87 ?_
      refine lv_iconst (v := iI (((1 : Nat) : Int))) hx hb dX2_openBeside_88 (by decide +kernel) ?_
      refine rz_add hx hb dX2_openBeside_89 ?_
      refine lv_iload hx hb dX2_openBeside_90 (lv_at hl 3 rfl) ?_
      refine lv_iconst (v := iI (((1 : Nat) : Int))) hx hb dX2_openBeside_92 (by decide +kernel) ?_
      refine rz_sub hx hb dX2_openBeside_93 ?_
      have hPc := hP.sub (ws' := []) [] rfl
      have hDc := hD.sub (ws' := []) [] (by decide) rfl
      refine rz_calliR (va_runSN (As := [.int (iI ((((q % 10 : Nat) : Int) - ((ln o : Nat) : Int)) + ((1 : Nat) : Int))), .int (iI ((((q % 10) + (ln b) : Nat) : Int) - ((1 : Nat) : Int)))]) (rest := []) ⟨hx, hb, hml, hown, hts⟩ (k_X4_daysFromTo l D cI cZ H.size ((((q % 10 : Nat) : Int) - ((ln o : Nat) : Int)) + ((1 : Nat) : Int)) ((((q % 10) + (ln b) : Nat) : Int) - ((1 : Nat) : Int)) (by omega) (by omega)) ⟨va_cnB 2 hts (gG (g_c cmX4_daysFromTo)) rfl rfl rfl (nK_X2_50 hN) (hts _ (List.mem_cons_of_mem _ tin_X4)) (by decide +kernel) ⟨Nat.le_of_ble_eq_true rfl, Nat.le_of_ble_eq_true rfl⟩, hts _ (List.mem_cons_of_mem _ ts_X4_daysFromTo), trivial⟩ ⟨cP_blind, cP_pre hPc hK hN hDc⟩ rfl rfl hl.1 rfl (lv_room (Nat.le_of_ble_eq_true rfl)) dX2_openBeside_94 ⟨Nat.le_refl _, Nat.le_refl _⟩) hP hD hS hA [] rfl (fun z8 H locs hp hP hS => ?_)
      subst hp
      refine lv_goto (tgt := 103) hx hb dX2_openBeside_97 (by decide) ?_
      refine lv_istore (lv' := [(9, .int (iI (((daysF ((((q % 10 : Nat) : Int) - ((ln o : Nat) : Int)) + ((1 : Nat) : Int)) ((((q % 10) + (ln b) : Nat) : Int) - ((1 : Nat) : Int)) : Nat) : Int)))), (8, .int (iI (((1 : Nat) : Int)))), (7, .int (iI ((((q % 10 : Nat) : Int) - (lg ((b * 4) + o))) - ((ln o : Nat) : Int)))), (6, .int (iI ((((q % 10) + (ln b) : Nat) : Int) + (lg ((o * 4) + b))))), (5, .int (iI ((((q % 10) + (ln b) : Nat) : Int)))), (4, .int (iI (((q % 10 : Nat) : Int)))), (0, .ref hQ), (1, .int (iI (((b : Nat) : Int)))), (2, .int (iI (((q : Nat) : Int)))), (3, .int (iI (((o : Nat) : Int))))]) hx hb dX2_openBeside_103 hl (by decide) rfl (fun ls hl => ?_)
      refine lv_iload hx hb dX2_openBeside_105 (lv_at hl 3 rfl) ?_
      refine lv_iload hx hb dX2_openBeside_107 (lv_at hl 2 rfl) ?_
      have hPc := hP.sub (ws' := []) [] rfl
      have hDc := hD.sub (ws' := []) [] (by decide) rfl
      refine rz_calliR (va_runSN (As := [.int (iI ((((q % 10) + (ln b) : Nat) : Int) + (lg ((o * 4) + b)))), .int (iI ((((q % 10 : Nat) : Int) - (lg ((b * 4) + o))) - ((ln o : Nat) : Int)))]) (rest := []) ⟨hx, hb, hml, hown, hts⟩ (k_X4_daysFromTo l D cI cZ H.size ((((q % 10) + (ln b) : Nat) : Int) + (lg ((o * 4) + b))) ((((q % 10 : Nat) : Int) - (lg ((b * 4) + o))) - ((ln o : Nat) : Int)) (by omega) (by omega)) ⟨va_cnB 2 hts (gG (g_c cmX4_daysFromTo)) rfl rfl rfl (nK_X2_50 hN) (hts _ (List.mem_cons_of_mem _ tin_X4)) (by decide +kernel) ⟨Nat.le_of_ble_eq_true rfl, Nat.le_of_ble_eq_true rfl⟩, hts _ (List.mem_cons_of_mem _ ts_X4_daysFromTo), trivial⟩ ⟨cP_blind, cP_pre hPc hK hN hDc⟩ rfl rfl hl.1 rfl (lv_room (Nat.le_of_ble_eq_true rfl)) dX2_openBeside_109 ⟨Nat.le_refl _, Nat.le_refl _⟩) hP hD hS hA [] rfl (fun z9 H locs hp hP hS => ?_)
      subst hp
      have hPc := hP.sub (ws' := []) [] rfl
      have hDc := hD.sub (ws' := []) [] (by decide) rfl
      refine rz_calliR (va_runS (As := [.int (iI (((daysF ((((q % 10) + (ln b) : Nat) : Int) + (lg ((o * 4) + b))) ((((q % 10 : Nat) : Int) - (lg ((b * 4) + o))) - ((ln o : Nat) : Int)) : Nat) : Int)))]) (rest := []) ⟨hx, hb, hml, hown, hts⟩ (k_X2_inEveryTank l D cI cZ H.size (daysF ((((q % 10) + (ln b) : Nat) : Int) + (lg ((o * 4) + b))) ((((q % 10 : Nat) : Int) - (lg ((b * 4) + o))) - ((ln o : Nat) : Int))) ) (va_cwS 1 hts (gG (g_S tm_X2_108 ts_X2_inEveryTank tin_X2 cmX2_inEveryTank)) rfl rfl rfl (by decide +kernel) ⟨Nat.le_of_ble_eq_true rfl, Nat.le_of_ble_eq_true rfl⟩) ⟨cP_blind, cP_pre hPc hK hN hDc⟩ rfl rfl hl.1 rfl (lv_room (Nat.le_of_ble_eq_true rfl)) dX2_openBeside_112 ⟨Nat.le_refl _, Nat.le_refl _⟩) hP hD hS hA [] rfl (fun z10 H locs hp hP hS => ?_)
      subst hp
      refine lv_iload hx hb dX2_openBeside_115 (lv_at hl 0 rfl) ?_
      refine lv_iload_n hx hb dX2_openBeside_117 rfl (lv_at hl 8 rfl) ?_
      have hPc := hP.sub (ws' := []) [] rfl
      have hDc := hD.sub (ws' := []) [] (by decide) rfl
      refine rz_calliR (va_runSN (As := [.int (iI (((q : Nat) : Int)))]) (rest := [.int (iI (((daysF ((((q % 10 : Nat) : Int) - ((ln o : Nat) : Int)) + ((1 : Nat) : Int)) ((((q % 10) + (ln b) : Nat) : Int) - ((1 : Nat) : Int)) : Nat) : Int))), .int (iI ((((daysF ((((q % 10) + (ln b) : Nat) : Int) + (lg ((o * 4) + b))) ((((q % 10 : Nat) : Int) - (lg ((b * 4) + o))) - ((ln o : Nat) : Int))) * 1049601 : Nat) : Int)))]) ⟨hx, hb, hml, hown, hts⟩ (k_X4_tankOfPlace l D cI cZ H.size q (by omega)) ⟨va_cnB 1 hts (gG (g_c cmX4_tankOfPlace)) rfl rfl rfl (nK_X2_149 hN) (hts _ (List.mem_cons_of_mem _ tin_X4)) (by decide +kernel) ⟨Nat.le_of_ble_eq_true rfl, Nat.le_of_ble_eq_true rfl⟩, hts _ (List.mem_cons_of_mem _ ts_X4_tankOfPlace), trivial⟩ ⟨cP_blind, cP_pre hPc hK hN hDc⟩ rfl rfl hl.1 rfl (lv_room (Nat.le_of_ble_eq_true rfl)) dX2_openBeside_118 ⟨Nat.le_refl _, Nat.le_refl _⟩) hP hD hS hA [] rfl (fun z11 H locs hp hP hS => ?_)
      subst hp
      refine lv_bipush (v := iI (((10 : Nat) : Int))) hx hb dX2_openBeside_121 (by decide +kernel) ?_
      refine rn_mul hx hb dX2_openBeside_123 ?_
      refine rz_shl hx hb dX2_openBeside_124 (by omega) (Nat.lt_trans (sh_lt (by first | exact daysF_lt _ _ | decide) (by omega)) (by decide)) ?_
      refine lv_iconst (v := iI ((-1 : Int))) hx hb dX2_openBeside_125 (by decide +kernel) ?_
      refine lv_ixor hx hb dX2_openBeside_126 ?_
      refine lv_iand hx hb dX2_openBeside_127 ?_
      refine rz_raw (y := ((besF ln lg ap b q o : Nat) : Int)) (by rw [iI_dif, besF]; first | rw [if_pos (by assumption)] | rw [if_neg (by simp_all)]) ?_
      exact hret _ _ _ _ _ _ dX2_openBeside_128 ⟨rfl, rfl⟩ hP hD hS

set_option maxHeartbeats 4000000 in
set_option maxRecDepth 100000 in
theorem k_X2_freePlaces (l : Launch) (D : va_G) (cI cZ : ClassId) (sz : Nat) (S0 : Nat) (l0 : Nat) (T : Nat) (sh : Nat) (hS0 : S0 < 1024) (hl0 : l0 ≤ 10) (hT : T ≤ 3) (hsh : sh < 1073741824) : Ci l yX2_freePlaces wsX2_freePlaces (rmD 2) D vwCl [(cI, .int), (cZ, .boolean)] [.int (iI (((S0 : Nat) : Int))), .int (iI (((l0 : Nat) : Int))), .int (iI (((T : Nat) : Int))), .int (iI (((sh : Nat) : Int)))] [] sz (fun z w => w = [] ∧ (z = ((freeF S0 (daysF 0 (((l0 : Nat) : Int) - ((1 : Nat) : Int))) sh (T * 10) : Nat) : Int))) 0 0 := by
  refine Ci_of (cc := cX2_freePlaces) (nL := 8) (by decide) rfl (Nat.le_of_ble_eq_true rfl) ?_
  intro p e s m below meth c A Q hsz C hK hN hA hP hD hS hret ls hl
  obtain ⟨hx, hb, hml, hown, hts⟩ := id C
  have hown : s.vm.findClass RX2 = some m.cls := hown
  have hl : lv_has ls 8 [(0, .int (iI (((S0 : Nat) : Int)))), (1, .int (iI (((l0 : Nat) : Int)))), (2, .int (iI (((T : Nat) : Int)))), (3, .int (iI (((sh : Nat) : Int))))] := hl
  have K15 : ∀ (fu : Nat) (i : Nat) (ac : Nat), T * 10 - i < fu → (i ≤ T * 10) → (ac = freeF S0 (daysF 0 (((l0 : Nat) : Int) - ((1 : Nat) : Int))) sh i) → ∀ (H : Heap) (locs : List Loc) (ls : Array Slot), va_P D vwCl [] H → va_D A [] → va_S A s.heap H locs → lv_has ls 8 [(0, .int (iI (((S0 : Nat) : Int)))), (1, .int (iI (((l0 : Nat) : Int)))), (2, .int (iI (((T : Nat) : Int)))), (3, .int (iI (((sh : Nat) : Int)))), (4, .int (iI (((daysF 0 (((l0 : Nat) : Int) - ((1 : Nat) : Int)) : Nat) : Int)))), (5, .int (iI (((ac : Nat) : Int)))), (6, .int (iI (((i : Nat) : Int))))] → W p l e (rmD 2) s m ([.int (iI (((S0 : Nat) : Int))), .int (iI (((l0 : Nat) : Int))), .int (iI (((T : Nat) : Int))), .int (iI (((sh : Nat) : Int)))] : List Value).toArray below meth c H locs 0 0 Q (F0 m 15 ls []) := by
    intro fu
    induction fu with
    | zero => intro i ac hmu; exact absurd hmu (Nat.not_lt_zero _)
    | succ fu ih =>
      intro i ac hmu hi hac H locs ls hP hD hS hl
      refine lv_iload hx hb dX2_freePlaces_15 (lv_at hl 6 rfl) ?_
      refine lv_iload_n hx hb dX2_freePlaces_17 rfl (lv_at hl 2 rfl) ?_
      refine lv_bipush (v := iI (((10 : Nat) : Int))) hx hb dX2_freePlaces_18 (by decide +kernel) ?_
      refine rn_mul hx hb dX2_freePlaces_20 ?_
      refine rz_cge (tgt := 73) hx hb dX2_freePlaces_21 (by decide) (by omega) (by omega) (fun c1 => ?_) (fun c1 => ?_)
      · refine lv_iload hx hb dX2_freePlaces_73 (lv_at hl 5 rfl) ?_
        exact hret _ _ _ _ _ _ dX2_freePlaces_75 ⟨rfl, (by rw [hac, show i = T * 10 by omega])⟩ hP hD hS
      · refine lv_iload_n hx hb dX2_freePlaces_24 rfl (lv_at hl 0 rfl) ?_
        refine lv_iload hx hb dX2_freePlaces_25 (lv_at hl 6 rfl) ?_
        have hPc := hP.sub (ws' := []) [] rfl
        have hDc := hD.sub (ws' := []) [] (by decide) rfl
        refine rz_calliR (va_runSN (As := [.int (iI (((i : Nat) : Int)))]) (rest := [.int (iI (((S0 : Nat) : Int)))]) ⟨hx, hb, hml, hown, hts⟩ (k_X4_startOfPlace l D cI cZ H.size i (by omega)) ⟨va_cnB 1 hts (gG (g_c cmX4_startOfPlace)) rfl rfl rfl (nK_X2_65 hN) (hts _ (List.mem_cons_of_mem _ tin_X4)) (by decide +kernel) ⟨Nat.le_of_ble_eq_true rfl, Nat.le_of_ble_eq_true rfl⟩, hts _ (List.mem_cons_of_mem _ ts_X4_startOfPlace), trivial⟩ ⟨cP_blind, cP_pre hPc hK hN hDc⟩ rfl rfl hl.1 rfl (lv_room (Nat.le_of_ble_eq_true rfl)) dX2_freePlaces_27 ⟨Nat.le_refl _, Nat.le_refl _⟩) hP hD hS hA [] rfl (fun z2 H locs hp hP hS => ?_)
        subst hp
        refine rz_shr hx hb dX2_freePlaces_30 (by omega) (by omega) ?_
        refine lv_iconst (v := iI (((1 : Nat) : Int))) hx hb dX2_freePlaces_31 (by decide +kernel) ?_
        refine rz_and hx hb dX2_freePlaces_32 ?_
        refine rz_ieq (tgt := 40) hx hb dX2_freePlaces_33 (by decide) (by have := tb_r S0 (i % 10); omega) (fun c3 => ?_) (fun c3 => ?_)
        · have c3 := tb_f c3
          refine lv_iconst (v := iI (((0 : Nat) : Int))) hx hb dX2_freePlaces_40 (by decide +kernel) ?_
          refine lv_istore (lv' := [(7, .int (iI (((0 : Nat) : Int)))), (0, .int (iI (((S0 : Nat) : Int)))), (1, .int (iI (((l0 : Nat) : Int)))), (2, .int (iI (((T : Nat) : Int)))), (3, .int (iI (((sh : Nat) : Int)))), (4, .int (iI (((daysF 0 (((l0 : Nat) : Int) - ((1 : Nat) : Int)) : Nat) : Int)))), (5, .int (iI (((ac : Nat) : Int)))), (6, .int (iI (((i : Nat) : Int))))]) hx hb dX2_freePlaces_41 hl (by decide) rfl (fun ls hl => ?_)
          refine lv_iload hx hb dX2_freePlaces_43 (lv_at hl 0 rfl) ?_
          refine rz_ieq (tgt := 67) hx hb dX2_freePlaces_45 (by decide) (by omega) (fun c4 => ?_) (fun c4 => ?_)
          · refine lv_iinc (v := iI (((i + 1 : Nat) : Int))) (lv' := [(6, .int (iI (((i + 1 : Nat) : Int)))), (7, .int (iI (((0 : Nat) : Int)))), (0, .int (iI (((S0 : Nat) : Int)))), (1, .int (iI (((l0 : Nat) : Int)))), (2, .int (iI (((T : Nat) : Int)))), (3, .int (iI (((sh : Nat) : Int)))), (4, .int (iI (((daysF 0 (((l0 : Nat) : Int) - ((1 : Nat) : Int)) : Nat) : Int)))), (5, .int (iI (((ac : Nat) : Int))))]) hx hb dX2_freePlaces_67 hl (k := 7) rfl (iI_inc _) (by decide) rfl (fun ls hl => ?_)
            refine lv_goto (tgt := 15) hx hb dX2_freePlaces_70 (by decide) ?_
            exact ih (i + 1) (ac) (by omega) (by omega) (by first | (rw [hac, freeF, if_pos ⟨by assumption, by omega⟩]) | (rw [hac, freeF, if_neg (fun h => by simp_all)]) | (rw [hac, freeF, if_neg (fun h => by omega)])) _ _ _ hP hD hS (lv_sub hl [2, 3, 4, 5, 6, 7, 0] rfl)
          · exfalso; omega
        · have c3 := tb_t c3
          refine lv_iconst (v := iI (((1 : Nat) : Int))) hx hb dX2_freePlaces_36 (by decide +kernel) ?_
          refine lv_goto (tgt := 41) hx hb dX2_freePlaces_37 (by decide) ?_
          refine lv_istore (lv' := [(7, .int (iI (((1 : Nat) : Int)))), (0, .int (iI (((S0 : Nat) : Int)))), (1, .int (iI (((l0 : Nat) : Int)))), (2, .int (iI (((T : Nat) : Int)))), (3, .int (iI (((sh : Nat) : Int)))), (4, .int (iI (((daysF 0 (((l0 : Nat) : Int) - ((1 : Nat) : Int)) : Nat) : Int)))), (5, .int (iI (((ac : Nat) : Int)))), (6, .int (iI (((i : Nat) : Int))))]) hx hb dX2_freePlaces_41 hl (by decide) rfl (fun ls hl => ?_)
          refine lv_iload hx hb dX2_freePlaces_43 (lv_at hl 0 rfl) ?_
          refine rz_ieq (tgt := 67) hx hb dX2_freePlaces_45 (by decide) (by omega) (fun c5 => ?_) (fun c5 => ?_)
          · exfalso; omega
          · refine lv_iload_n hx hb dX2_freePlaces_48 rfl (lv_at hl 4 rfl) ?_
            refine lv_iload hx hb dX2_freePlaces_49 (lv_at hl 7 rfl) ?_
            refine rz_shr hx hb dX2_freePlaces_51 (by omega) (by omega) ?_
            refine lv_iload hx hb dX2_freePlaces_52 (lv_at hl 5 rfl) ?_
            refine rz_and hx hb dX2_freePlaces_54 ?_
            refine rz_ine (tgt := 67) hx hb dX2_freePlaces_55 (by decide) (by have := Nat.and_lt_two_pow (n := 10) (sh / 2 ^ i) (daysF_lt 0 (((l0 : Nat) : Int) - ((1 : Nat) : Int))); omega) (fun c6 => ?_) (fun c6 => ?_)
            · refine lv_iinc (v := iI (((i + 1 : Nat) : Int))) (lv' := [(6, .int (iI (((i + 1 : Nat) : Int)))), (7, .int (iI (((1 : Nat) : Int)))), (0, .int (iI (((S0 : Nat) : Int)))), (1, .int (iI (((l0 : Nat) : Int)))), (2, .int (iI (((T : Nat) : Int)))), (3, .int (iI (((sh : Nat) : Int)))), (4, .int (iI (((daysF 0 (((l0 : Nat) : Int) - ((1 : Nat) : Int)) : Nat) : Int)))), (5, .int (iI (((ac : Nat) : Int))))]) hx hb dX2_freePlaces_67 hl (k := 7) rfl (iI_inc _) (by decide) rfl (fun ls hl => ?_)
              refine lv_goto (tgt := 15) hx hb dX2_freePlaces_70 (by decide) ?_
              exact ih (i + 1) (ac) (by omega) (by omega) (by first | (rw [hac, freeF, if_pos ⟨by assumption, by omega⟩]) | (rw [hac, freeF, if_neg (fun h => by simp_all)]) | (rw [hac, freeF, if_neg (fun h => by omega)])) _ _ _ hP hD hS (lv_sub hl [2, 3, 4, 5, 6, 7, 0] rfl)
            · refine lv_iload hx hb dX2_freePlaces_58 (lv_at hl 6 rfl) ?_
              refine lv_iconst (v := iI (((1 : Nat) : Int))) hx hb dX2_freePlaces_60 (by decide +kernel) ?_
              refine lv_iload hx hb dX2_freePlaces_61 (lv_at hl 7 rfl) ?_
              refine rz_shl hx hb dX2_freePlaces_63 (by omega) (pw_lt (by omega)) ?_
              refine rz_or hx hb dX2_freePlaces_64 ?_
              refine lv_istore (lv' := [(5, .int (iI (((ac ||| (1 * 2 ^ i) : Nat) : Int)))), (7, .int (iI (((1 : Nat) : Int)))), (0, .int (iI (((S0 : Nat) : Int)))), (1, .int (iI (((l0 : Nat) : Int)))), (2, .int (iI (((T : Nat) : Int)))), (3, .int (iI (((sh : Nat) : Int)))), (4, .int (iI (((daysF 0 (((l0 : Nat) : Int) - ((1 : Nat) : Int)) : Nat) : Int)))), (6, .int (iI (((i : Nat) : Int))))]) hx hb dX2_freePlaces_65 hl (by decide) rfl (fun ls hl => ?_)
              refine lv_iinc (v := iI (((i + 1 : Nat) : Int))) (lv' := [(6, .int (iI (((i + 1 : Nat) : Int)))), (5, .int (iI (((ac ||| (1 * 2 ^ i) : Nat) : Int)))), (7, .int (iI (((1 : Nat) : Int)))), (0, .int (iI (((S0 : Nat) : Int)))), (1, .int (iI (((l0 : Nat) : Int)))), (2, .int (iI (((T : Nat) : Int)))), (3, .int (iI (((sh : Nat) : Int)))), (4, .int (iI (((daysF 0 (((l0 : Nat) : Int) - ((1 : Nat) : Int)) : Nat) : Int))))]) hx hb dX2_freePlaces_67 hl (k := 7) rfl (iI_inc _) (by decide) rfl (fun ls hl => ?_)
              refine lv_goto (tgt := 15) hx hb dX2_freePlaces_70 (by decide) ?_
              exact ih (i + 1) (ac ||| (1 * 2 ^ i)) (by omega) (by omega) (by first | (rw [hac, freeF, if_pos ⟨by assumption, by omega⟩]) | (rw [hac, freeF, if_neg (fun h => by simp_all)]) | (rw [hac, freeF, if_neg (fun h => by omega)])) _ _ _ hP hD hS (lv_sub hl [3, 4, 5, 6, 7, 1, 0] rfl)
  refine lv_iconst (v := iI (((0 : Nat) : Int))) hx hb dX2_freePlaces_0 (by decide +kernel) ?_
  refine lv_iload_n hx hb dX2_freePlaces_1 rfl (lv_at hl 1 rfl) ?_
  refine lv_iconst (v := iI (((1 : Nat) : Int))) hx hb dX2_freePlaces_2 (by decide +kernel) ?_
  refine rz_sub hx hb dX2_freePlaces_3 ?_
  have hPc := hP.sub (ws' := []) [] rfl
  have hDc := hD.sub (ws' := []) [] (by decide) rfl
  refine rz_calliR (va_runSN (As := [.int (iI (((0 : Nat) : Int))), .int (iI (((l0 : Nat) : Int) - ((1 : Nat) : Int)))]) (rest := []) ⟨hx, hb, hml, hown, hts⟩ (k_X4_daysFromTo l D cI cZ s.heap.size ((0 : Nat) : Int) (((l0 : Nat) : Int) - ((1 : Nat) : Int)) (by omega) (by omega)) ⟨va_cnB 2 hts (gG (g_c cmX4_daysFromTo)) rfl rfl rfl (nK_X2_50 hN) (hts _ (List.mem_cons_of_mem _ tin_X4)) (by decide +kernel) ⟨Nat.le_of_ble_eq_true rfl, Nat.le_of_ble_eq_true rfl⟩, hts _ (List.mem_cons_of_mem _ ts_X4_daysFromTo), trivial⟩ ⟨cP_blind, cP_pre hPc hK hN hDc⟩ rfl rfl hl.1 rfl (lv_room (Nat.le_of_ble_eq_true rfl)) dX2_freePlaces_4 ⟨Nat.le_refl _, Nat.le_refl _⟩) hP hD hS hA [] rfl (fun z7 H locs hp hP hS => ?_)
  subst hp
  refine lv_istore (lv' := [(4, .int (iI (((daysF ((0 : Nat) : Int) (((l0 : Nat) : Int) - ((1 : Nat) : Int)) : Nat) : Int)))), (0, .int (iI (((S0 : Nat) : Int)))), (1, .int (iI (((l0 : Nat) : Int)))), (2, .int (iI (((T : Nat) : Int)))), (3, .int (iI (((sh : Nat) : Int))))]) hx hb dX2_freePlaces_7 hl (by decide) rfl (fun ls hl => ?_)
  refine lv_iconst (v := iI (((0 : Nat) : Int))) hx hb dX2_freePlaces_9 (by decide +kernel) ?_
  refine lv_istore (lv' := [(5, .int (iI (((0 : Nat) : Int)))), (4, .int (iI (((daysF ((0 : Nat) : Int) (((l0 : Nat) : Int) - ((1 : Nat) : Int)) : Nat) : Int)))), (0, .int (iI (((S0 : Nat) : Int)))), (1, .int (iI (((l0 : Nat) : Int)))), (2, .int (iI (((T : Nat) : Int)))), (3, .int (iI (((sh : Nat) : Int))))]) hx hb dX2_freePlaces_10 hl (by decide) rfl (fun ls hl => ?_)
  refine lv_iconst (v := iI (((0 : Nat) : Int))) hx hb dX2_freePlaces_12 (by decide +kernel) ?_
  refine lv_istore (lv' := [(6, .int (iI (((0 : Nat) : Int)))), (5, .int (iI (((0 : Nat) : Int)))), (4, .int (iI (((daysF ((0 : Nat) : Int) (((l0 : Nat) : Int) - ((1 : Nat) : Int)) : Nat) : Int)))), (0, .int (iI (((S0 : Nat) : Int)))), (1, .int (iI (((l0 : Nat) : Int)))), (2, .int (iI (((T : Nat) : Int)))), (3, .int (iI (((sh : Nat) : Int))))]) hx hb dX2_freePlaces_13 hl (by decide) rfl (fun ls hl => ?_)
  exact K15 (T * 10 - (0) + 1) (0) (0) (Nat.lt_succ_self _) (by omega) rfl _ _ _ hP hD hS (lv_sub hl [3, 4, 5, 6, 2, 1, 0] rfl)
