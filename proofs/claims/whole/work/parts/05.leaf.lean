/-! pure words of the class, and its small methods -/
def daysF (a b : Int) : Nat := if max a 0 ≤ min b 9 then 1 * 2 ^ (min b 9 + 1).toNat - 1 * 2 ^ (max a 0).toNat else 0
theorem pw_lt {n : Nat} (h : n ≤ 31) : 1 * 2 ^ n < 4294967296 := by
  rw [Nat.one_mul]; exact Nat.lt_of_le_of_lt (Nat.pow_le_pow_right (by decide) h) (by decide)
theorem pw_le {n k : Nat} (h : n ≤ k) : 1 * 2 ^ n ≤ 1 * 2 ^ k := by
  rw [Nat.one_mul, Nat.one_mul]; exact Nat.pow_le_pow_right (by decide) h
theorem tb_e (x b : Nat) : (x / 2 ^ b &&& 1) = (x.testBit b).toNat := by
  rw [Nat.and_one_is_mod, Nat.toNat_testBit]
theorem tb_f {x b : Nat} (h : (((x / 2 ^ b &&& 1 : Nat)) : Int) = 0) : x.testBit b = false := by
  rw [tb_e] at h; cases hb : x.testBit b
  · rfl
  · rw [hb] at h; exact absurd h (by decide)
theorem tb_t {x b : Nat} (h : (((x / 2 ^ b &&& 1 : Nat)) : Int) ≠ 0) : x.testBit b = true := by
  rw [tb_e] at h; cases hb : x.testBit b
  · rw [hb] at h; exact absurd rfl h
  · rfl
theorem tb_r (x b : Nat) : (x / 2 ^ b &&& 1) ≤ 1 := by
  rw [tb_e]; cases x.testBit b <;> decide
/-- the member of a set that has k smaller ones in it: r to look at, from b on, sn seen -/
def memF (X : Nat → Bool) (k : Int) : Nat → Nat → Int → Int
  | 0, _, _ => -1
  | r + 1, b, sn => if X b = true then (if sn = k then (b : Int) else memF X k r (b + 1) (sn + 1)) else memF X k r (b + 1) sn
theorem memF_0 {X : Nat → Bool} {k sn : Int} {N b : Nat} (h : N ≤ b) : memF X k (N - b) b sn = -1 := by
  rw [Nat.sub_eq_zero_of_le h]; rfl
theorem memF_1 {X : Nat → Bool} {k sn : Int} {N b : Nat} (h : b < N) (hx : X b = true) (hk : sn = k) : memF X k (N - b) b sn = (b : Int) := by
  obtain ⟨r, hr⟩ : ∃ r, N - b = r + 1 := ⟨N - b - 1, by omega⟩
  rw [hr, memF, if_pos hx, if_pos hk]
theorem memF_2 {X : Nat → Bool} {k sn : Int} {N b : Nat} (h : b < N) (hx : X b = true) (hk : sn ≠ k) : memF X k (N - b) b sn = memF X k (N - (b + 1)) (b + 1) (sn + 1) := by
  obtain ⟨r, hr⟩ : ∃ r, N - b = r + 1 := ⟨N - b - 1, by omega⟩
  rw [hr, memF, if_pos hx, if_neg hk, show N - (b + 1) = r by omega]
theorem memF_3 {X : Nat → Bool} {k sn : Int} {N b : Nat} (h : b < N) (hx : X b = false) : memF X k (N - b) b sn = memF X k (N - (b + 1)) (b + 1) sn := by
  obtain ⟨r, hr⟩ : ∃ r, N - b = r + 1 := ⟨N - b - 1, by omega⟩
  rw [hr, memF, if_neg (by rw [hx]; decide), show N - (b + 1) = r by omega]

set_option maxHeartbeats 4000000 in
set_option maxRecDepth 100000 in
theorem k_X0_isFull (l : Launch) (D : va_G) (cI cZ : ClassId) (sz : Nat) (hB : Nat) (qL : Nat) (qP : Nat) (qE : Nat) (qF : Nat) (n : Nat) (hn : n ≤ 4) : Ci l yX0_isFull wsX0_isFull (rmD 0) D vwCl [(cI, .int), (cZ, .boolean)] [.ref hB] [(hB, .inr (0, [.ref qL, .ref qP, .ref qE, .ref qF, .int (iI (((n : Nat) : Int)))]))] sz (fun z w => w = [(hB, .inr (0, [.ref qL, .ref qP, .ref qE, .ref qF, .int (iI (((n : Nat) : Int)))]))] ∧ (z = b2z (decide (4 ≤ n)))) 0 0 := by
  refine Cz_of (cc := cX0_isFull) (nL := 1) (by decide) rfl (Nat.le_of_ble_eq_true rfl) ?_
  intro p e s m below meth c A Q hsz C hK hN hA hP hD hS hret ls hl
  obtain ⟨hx, hb, hml, hown, hts⟩ := id C
  have hown : s.vm.findClass RX0 = some m.cls := hown
  have hl : lv_has ls 1 [(0, .ref hB)] := hl
  have in_X0 : ∀ w ∈ u_ws RX0 TX0 5, w ∈ wsX0_isFull := fun w h => List.mem_cons_of_mem _ (inX0 w h)
  refine lv_aload_n hx hb dX0_isFull_0 rfl (lv_at hl 0 rfl) ?_
  refine va_get (D := D) (ci := 0) (v := .int (iI (((n : Nat) : Int)))) (C := RX0) (T := TX0) (N := 5) hx hb hts in_X0 hown hK hP 0 rfl rfl 4 (by decide) (hts _ (List.mem_cons_of_mem _ tf_X0_25)) (fun _ h9 => h9) rfl dX0_isFull_1 ?_
  refine lv_iconst (v := iI (((4 : Nat) : Int))) hx hb dX0_isFull_4 (by decide +kernel) ?_
  refine rz_clt (tgt := 12) hx hb dX0_isFull_5 (by decide) (by omega) (by omega) (fun c1 => ?_) (fun c1 => ?_)
  · refine lv_iconst (v := iI (((0 : Nat) : Int))) hx hb dX0_isFull_12 (by decide +kernel) ?_
    exact hret _ _ _ _ _ _ dX0_isFull_13 (Or.inl rfl) ⟨rfl, (by first | exact (b2z_t (by omega)).symm | exact (b2z_f (by omega)).symm)⟩ hP hD hS
  · refine lv_iconst (v := iI (((1 : Nat) : Int))) hx hb dX0_isFull_8 (by decide +kernel) ?_
    refine lv_goto (tgt := 13) hx hb dX0_isFull_9 (by decide) ?_
    exact hret _ _ _ _ _ _ dX0_isFull_13 (Or.inr rfl) ⟨rfl, (by first | exact (b2z_t (by omega)).symm | exact (b2z_f (by omega)).symm)⟩ hP hD hS

set_option maxHeartbeats 4000000 in
set_option maxRecDepth 100000 in
theorem k_X0_has (l : Launch) (D : va_G) (cI cZ : ClassId) (sz : Nat) (hB : Nat) (qL : Nat) (qP : Nat) (qE : Nat) (qF : Nat) (n : Nat) (k : Int) (hn : n ≤ 4) (hk : -2147483648 ≤ k ∧ k < 2147483648) : Ci l yX0_has wsX0_has (rmD 0) D vwCl [(cI, .int), (cZ, .boolean)] [.ref hB, .int (iI (k))] [(hB, .inr (0, [.ref qL, .ref qP, .ref qE, .ref qF, .int (iI (((n : Nat) : Int)))]))] sz (fun z w => w = [(hB, .inr (0, [.ref qL, .ref qP, .ref qE, .ref qF, .int (iI (((n : Nat) : Int)))]))] ∧ (z = b2z (decide (0 ≤ k ∧ k < ((n : Nat) : Int))))) 0 0 := by
  refine Cz_of (cc := cX0_has) (nL := 2) (by decide) rfl (Nat.le_of_ble_eq_true rfl) ?_
  intro p e s m below meth c A Q hsz C hK hN hA hP hD hS hret ls hl
  obtain ⟨hx, hb, hml, hown, hts⟩ := id C
  have hown : s.vm.findClass RX0 = some m.cls := hown
  have hl : lv_has ls 2 [(0, .ref hB), (1, .int (iI (k)))] := hl
  have in_X0 : ∀ w ∈ u_ws RX0 TX0 5, w ∈ wsX0_has := fun w h => List.mem_cons_of_mem _ (inX0 w h)
  refine lv_iload_n hx hb dX0_has_0 rfl (lv_at hl 1 rfl) ?_
  refine rz_ilt (tgt := 16) hx hb dX0_has_1 (by decide) (by omega) (fun c1 => ?_) (fun c1 => ?_)
  · refine lv_iconst (v := iI (((0 : Nat) : Int))) hx hb dX0_has_16 (by decide +kernel) ?_
    exact hret _ _ _ _ _ _ dX0_has_17 (Or.inl rfl) ⟨rfl, (by first | exact (b2z_t (by omega)).symm | exact (b2z_f (by omega)).symm)⟩ hP hD hS
  · refine lv_iload_n hx hb dX0_has_4 rfl (lv_at hl 1 rfl) ?_
    refine lv_aload_n hx hb dX0_has_5 rfl (lv_at hl 0 rfl) ?_
    refine va_get (D := D) (ci := 0) (v := .int (iI (((n : Nat) : Int)))) (C := RX0) (T := TX0) (N := 5) hx hb hts in_X0 hown hK hP 0 rfl rfl 4 (by decide) (hts _ (List.mem_cons_of_mem _ tf_X0_25)) (fun _ h9 => h9) rfl dX0_has_6 ?_
    refine rz_cge (tgt := 16) hx hb dX0_has_9 (by decide) (by omega) (by omega) (fun c2 => ?_) (fun c2 => ?_)
    · refine lv_iconst (v := iI (((0 : Nat) : Int))) hx hb dX0_has_16 (by decide +kernel) ?_
      exact hret _ _ _ _ _ _ dX0_has_17 (Or.inl rfl) ⟨rfl, (by first | exact (b2z_t (by omega)).symm | exact (b2z_f (by omega)).symm)⟩ hP hD hS
    · refine lv_iconst (v := iI (((1 : Nat) : Int))) hx hb dX0_has_12 (by decide +kernel) ?_
      refine lv_goto (tgt := 17) hx hb dX0_has_13 (by decide) ?_
      exact hret _ _ _ _ _ _ dX0_has_17 (Or.inr rfl) ⟨rfl, (by first | exact (b2z_t (by omega)).symm | exact (b2z_f (by omega)).symm)⟩ hP hD hS

set_option maxHeartbeats 4000000 in
set_option maxRecDepth 100000 in
theorem k_X0_add (l : Launch) (D : va_G) (cI cZ : ClassId) (sz : Nat) (hB : Nat) (qL : Nat) (qP : Nat) (qE : Nat) (qF : Nat) (n : Nat) (ln : Nat → Nat) (pl : Nat → Nat) (p0 : Nat) (l0 : Nat) (hn : n < 4) : Ci l yX0_add wsX0_add (rmD 0) D vwCl [(cI, .int), (cZ, .boolean)] [.ref hB, .int (iI (((p0 : Nat) : Int))), .int (iI (((l0 : Nat) : Int)))] [(hB, .inr (0, [.ref qL, .ref qP, .ref qE, .ref qF, .int (iI (((n : Nat) : Int)))])), ce_i qL cI 4 (nZ (ln)), ce_i qP cI 4 (nZ (pl))] sz (fun z w => w = [(hB, .inr (0, [.ref qL, .ref qP, .ref qE, .ref qF, .int (iI (((n + 1 : Nat) : Int)))])), ce_i qL cI 4 (nZ (uN ln n l0)), ce_i qP cI 4 (nZ (uN pl n p0))] ∧ (z = ((n : Nat) : Int))) 0 0 := by
  refine Ci_of (cc := cX0_add) (nL := 3) (by decide) rfl (Nat.le_of_ble_eq_true rfl) ?_
  intro p e s m below meth c A Q hsz C hK hN hA hP hD hS hret ls hl
  obtain ⟨hx, hb, hml, hown, hts⟩ := id C
  have hown : s.vm.findClass RX0 = some m.cls := hown
  have hl : lv_has ls 3 [(0, .ref hB), (1, .int (iI (((p0 : Nat) : Int)))), (2, .int (iI (((l0 : Nat) : Int))))] := hl
  have in_X0 : ∀ w ∈ u_ws RX0 TX0 5, w ∈ wsX0_add := fun w h => List.mem_cons_of_mem _ (inX0 w h)
  refine lv_aload_n hx hb dX0_add_0 rfl (lv_at hl 0 rfl) ?_
  refine va_get (D := D) (ci := 0) (v := .ref qL) (C := RX0) (T := TX0) (N := 5) hx hb hts in_X0 hown hK hP 0 rfl rfl 0 (by decide) (hts _ (List.mem_cons_of_mem _ tf_X0_9)) (fun _ h9 => h9) rfl dX0_add_1 ?_
  refine lv_aload_n hx hb dX0_add_4 rfl (lv_at hl 0 rfl) ?_
  refine va_get (D := D) (ci := 0) (v := .int (iI (((n : Nat) : Int)))) (C := RX0) (T := TX0) (N := 5) hx hb hts in_X0 hown hK hP 0 rfl rfl 4 (by decide) (hts _ (List.mem_cons_of_mem _ tf_X0_25)) (fun _ h9 => h9) rfl dX0_add_5 ?_
  refine lv_iload_n hx hb dX0_add_8 rfl (lv_at hl 2 rfl) ?_
  refine rn_astM hx hb hK hP hD hS 1 0 rfl rfl (by omega) (by omega) dX0_add_9 (fun H locs hP hD hS => ?_)
  have hP : va_P D vwCl [(hB, .inr (0, [.ref qL, .ref qP, .ref qE, .ref qF, .int (iI (((n : Nat) : Int)))])), ce_i qL cI 4 (nZ (uN ln n l0)), ce_i qP cI 4 (nZ (pl))] H := hP
  have hD : va_D A [(hB, .inr (0, [.ref qL, .ref qP, .ref qE, .ref qF, .int (iI (((n : Nat) : Int)))])), ce_i qL cI 4 (nZ (uN ln n l0)), ce_i qP cI 4 (nZ (pl))] := hD
  refine lv_aload_n hx hb dX0_add_10 rfl (lv_at hl 0 rfl) ?_
  refine va_get (D := D) (ci := 0) (v := .ref qP) (C := RX0) (T := TX0) (N := 5) hx hb hts in_X0 hown hK hP 0 rfl rfl 1 (by decide) (hts _ (List.mem_cons_of_mem _ tf_X0_15)) (fun _ h9 => h9) rfl dX0_add_11 ?_
  refine lv_aload_n hx hb dX0_add_14 rfl (lv_at hl 0 rfl) ?_
  refine va_get (D := D) (ci := 0) (v := .int (iI (((n : Nat) : Int)))) (C := RX0) (T := TX0) (N := 5) hx hb hts in_X0 hown hK hP 0 rfl rfl 4 (by decide) (hts _ (List.mem_cons_of_mem _ tf_X0_25)) (fun _ h9 => h9) rfl dX0_add_15 ?_
  refine lv_iload_n hx hb dX0_add_18 rfl (lv_at hl 1 rfl) ?_
  refine rn_astM hx hb hK hP hD hS 2 0 rfl rfl (by omega) (by omega) dX0_add_19 (fun H locs hP hD hS => ?_)
  have hP : va_P D vwCl [(hB, .inr (0, [.ref qL, .ref qP, .ref qE, .ref qF, .int (iI (((n : Nat) : Int)))])), ce_i qL cI 4 (nZ (uN ln n l0)), ce_i qP cI 4 (nZ (uN pl n p0))] H := hP
  have hD : va_D A [(hB, .inr (0, [.ref qL, .ref qP, .ref qE, .ref qF, .int (iI (((n : Nat) : Int)))])), ce_i qL cI 4 (nZ (uN ln n l0)), ce_i qP cI 4 (nZ (uN pl n p0))] := hD
  refine lv_aload_n hx hb dX0_add_20 rfl (lv_at hl 0 rfl) ?_
  refine lv_dup hx hb dX0_add_21 rfl ?_
  refine va_get (D := D) (ci := 0) (v := .int (iI (((n : Nat) : Int)))) (C := RX0) (T := TX0) (N := 5) hx hb hts in_X0 hown hK hP 0 rfl rfl 4 (by decide) (hts _ (List.mem_cons_of_mem _ tf_X0_25)) (fun _ h9 => h9) rfl dX0_add_22 ?_
  refine lv_iconst (v := iI (((1 : Nat) : Int))) hx hb dX0_add_25 (by decide +kernel) ?_
  refine rn_add hx hb dX0_add_26 ?_
  refine va_put (D := D) (ci := 0) (v := .int (iI (((n + 1 : Nat) : Int)))) (ty := .int) (C := RX0) (T := TX0) (N := 5) hx hb hts in_X0 tyX0 tyX0_ok nmX0 hown hK hP hD hS 0 rfl rfl 4 (by decide) (hts _ (List.mem_cons_of_mem _ tf_X0_25)) (fun _ h9 => h9) rfl (by decide +kernel) rfl rfl (Nat.le_of_ble_eq_true rfl) dX0_add_27 (fun H locs hP hD hS => ?_)
  have hP : va_P D vwCl [(hB, .inr (0, [.ref qL, .ref qP, .ref qE, .ref qF, .int (iI (((n + 1 : Nat) : Int)))])), ce_i qL cI 4 (nZ (uN ln n l0)), ce_i qP cI 4 (nZ (uN pl n p0))] H := hP
  have hD : va_D A [(hB, .inr (0, [.ref qL, .ref qP, .ref qE, .ref qF, .int (iI (((n + 1 : Nat) : Int)))])), ce_i qL cI 4 (nZ (uN ln n l0)), ce_i qP cI 4 (nZ (uN pl n p0))] := hD
  refine lv_aload_n hx hb dX0_add_30 rfl (lv_at hl 0 rfl) ?_
  refine va_get (D := D) (ci := 0) (v := .int (iI (((n + 1 : Nat) : Int)))) (C := RX0) (T := TX0) (N := 5) hx hb hts in_X0 hown hK hP 0 rfl rfl 4 (by decide) (hts _ (List.mem_cons_of_mem _ tf_X0_25)) (fun _ h9 => h9) rfl dX0_add_31 ?_
  refine lv_iconst (v := iI (((1 : Nat) : Int))) hx hb dX0_add_34 (by decide +kernel) ?_
  refine rn_sub hx hb dX0_add_35 (by omega) ?_
  exact hret _ _ _ _ _ _ dX0_add_36 ⟨rfl, by omega⟩ hP hD hS

set_option maxHeartbeats 4000000 in
set_option maxRecDepth 100000 in
theorem k_X4_daysFromTo (l : Launch) (D : va_G) (cI cZ : ClassId) (sz : Nat) (a : Int) (b : Int) (ha : -1000 ≤ a ∧ a ≤ 1000) (hb2 : -1000 ≤ b ∧ b ≤ 1000) : Ci l yX4_daysFromTo wsX4_daysFromTo (rmD 1) D vwCl [(cI, .int), (cZ, .boolean)] [.int (iI (a)), .int (iI (b))] [] sz (fun z w => w = [] ∧ (z = ((daysF a b : Nat) : Int))) 0 0 := by
  refine Ci_of (cc := cX4_daysFromTo) (nL := 4) (by decide) rfl (Nat.le_of_ble_eq_true rfl) ?_
  intro p e s m below meth c A Q hsz C hK hN hA hP hD hS hret ls hl
  obtain ⟨hx, hb, hml, hown, hts⟩ := id C
  have hown : s.vm.findClass RX4 = some m.cls := hown
  have hl : lv_has ls 4 [(0, .int (iI (a))), (1, .int (iI (b)))] := hl
  refine lv_iload_n hx hb dX4_daysFromTo_0 rfl (lv_at hl 0 rfl) ?_
  refine lv_iconst (v := iI (((0 : Nat) : Int))) hx hb dX4_daysFromTo_1 (by decide +kernel) ?_
  refine rz_mmax (rest := []) hx hb (hml.trans hl.1.symm) hown hts tm_X4_48 (Nat.le_of_ble_eq_true rfl) (Nat.le_of_ble_eq_true rfl) (Nat.le_of_ble_eq_true rfl) (Nat.le_of_ble_eq_true rfl) dX4_daysFromTo_2 (by omega) (by omega) ?_
  refine lv_istore_n (lv' := [(2, .int (iI (max a ((0 : Nat) : Int)))), (0, .int (iI (a))), (1, .int (iI (b)))]) hx hb dX4_daysFromTo_5 rfl hl (by decide) rfl (fun ls hl => ?_)
  refine lv_iload_n hx hb dX4_daysFromTo_6 rfl (lv_at hl 2 rfl) ?_
  refine lv_bipush (v := iI (((9 : Nat) : Int))) hx hb dX4_daysFromTo_7 (by decide +kernel) ?_
  refine rz_mmin (rest := []) hx hb (hml.trans hl.1.symm) hown hts tm_X4_42 (Nat.le_of_ble_eq_true rfl) (Nat.le_of_ble_eq_true rfl) (Nat.le_of_ble_eq_true rfl) (Nat.le_of_ble_eq_true rfl) dX4_daysFromTo_9 (by omega) (by omega) ?_
  refine lv_istore_n (lv' := [(3, .int (iI (min b ((9 : Nat) : Int)))), (2, .int (iI (max a ((0 : Nat) : Int)))), (0, .int (iI (a))), (1, .int (iI (b)))]) hx hb dX4_daysFromTo_12 rfl hl (by decide) rfl (fun ls hl => ?_)
  refine lv_iload_n hx hb dX4_daysFromTo_13 rfl (lv_at hl 1 rfl) ?_
  refine lv_iload_n hx hb dX4_daysFromTo_14 rfl (lv_at hl 0 rfl) ?_
  refine rz_cle (tgt := 22) hx hb dX4_daysFromTo_15 (by decide) (by omega) (by omega) (fun c1 => ?_) (fun c1 => ?_)
  · refine lv_iconst (v := iI (((1 : Nat) : Int))) hx hb dX4_daysFromTo_22 (by decide +kernel) ?_
    refine lv_iload_n hx hb dX4_daysFromTo_23 rfl (lv_at hl 0 rfl) ?_
    refine lv_iconst (v := iI (((1 : Nat) : Int))) hx hb dX4_daysFromTo_24 (by decide +kernel) ?_
    refine rz_add hx hb dX4_daysFromTo_25 ?_
    refine rz_as (y := (((min b 9 + 1).toNat : Nat) : Int)) (by omega) ?_
    refine rz_shl hx hb dX4_daysFromTo_26 (by omega) (pw_lt (by omega)) ?_
    refine lv_iconst (v := iI (((1 : Nat) : Int))) hx hb dX4_daysFromTo_27 (by decide +kernel) ?_
    refine lv_iload_n hx hb dX4_daysFromTo_28 rfl (lv_at hl 1 rfl) ?_
    refine rz_as (y := (((max a 0).toNat : Nat) : Int)) (by omega) ?_
    refine rz_shl hx hb dX4_daysFromTo_29 (by omega) (pw_lt (by omega)) ?_
    refine rn_sub hx hb dX4_daysFromTo_30 (pw_le (by omega)) ?_
    exact hret _ _ _ _ _ _ dX4_daysFromTo_31 ⟨rfl, (by first | rw [daysF, if_pos (by omega)] | rw [daysF, if_neg (by omega)])⟩ hP hD hS
  · refine lv_iconst (v := iI (((0 : Nat) : Int))) hx hb dX4_daysFromTo_18 (by decide +kernel) ?_
    refine lv_goto (tgt := 31) hx hb dX4_daysFromTo_19 (by decide) ?_
    exact hret _ _ _ _ _ _ dX4_daysFromTo_31 ⟨rfl, (by first | rw [daysF, if_pos (by omega)] | rw [daysF, if_neg (by omega)])⟩ hP hD hS

set_option maxHeartbeats 4000000 in
set_option maxRecDepth 100000 in
theorem k_X4_tankOfPlace (l : Launch) (D : va_G) (cI cZ : ClassId) (sz : Nat) (x : Nat) (hx2 : x < 2147483648) : Ci l yX4_tankOfPlace wsX4_tankOfPlace (rmD 0) D vwCl [(cI, .int), (cZ, .boolean)] [.int (iI (((x : Nat) : Int)))] [] sz (fun z w => w = [] ∧ (z = ((x / 10 : Nat) : Int))) 0 0 := by
  refine Ci_of (cc := cX4_tankOfPlace) (nL := 1) (by decide) rfl (Nat.le_of_ble_eq_true rfl) ?_
  intro p e s m below meth c A Q hsz C hK hN hA hP hD hS hret ls hl
  obtain ⟨hx, hb, hml, hown, hts⟩ := id C
  have hown : s.vm.findClass RX4 = some m.cls := hown
  have hl : lv_has ls 1 [(0, .int (iI (((x : Nat) : Int))))] := hl
  refine lv_iload_n hx hb dX4_tankOfPlace_0 rfl (lv_at hl 0 rfl) ?_
  refine lv_bipush (v := iI (((10 : Nat) : Int))) hx hb dX4_tankOfPlace_1 (by decide +kernel) ?_
  refine rn_div hx hb dX4_tankOfPlace_3 (by omega) (by omega) ?_
  exact hret _ _ _ _ _ _ dX4_tankOfPlace_4 ⟨rfl, rfl⟩ hP hD hS

set_option maxHeartbeats 4000000 in
set_option maxRecDepth 100000 in
theorem k_X4_startOfPlace (l : Launch) (D : va_G) (cI cZ : ClassId) (sz : Nat) (x : Nat) (hx2 : x < 2147483648) : Ci l yX4_startOfPlace wsX4_startOfPlace (rmD 0) D vwCl [(cI, .int), (cZ, .boolean)] [.int (iI (((x : Nat) : Int)))] [] sz (fun z w => w = [] ∧ (z = ((x % 10 : Nat) : Int))) 0 0 := by
  refine Ci_of (cc := cX4_startOfPlace) (nL := 1) (by decide) rfl (Nat.le_of_ble_eq_true rfl) ?_
  intro p e s m below meth c A Q hsz C hK hN hA hP hD hS hret ls hl
  obtain ⟨hx, hb, hml, hown, hts⟩ := id C
  have hown : s.vm.findClass RX4 = some m.cls := hown
  have hl : lv_has ls 1 [(0, .int (iI (((x : Nat) : Int))))] := hl
  refine lv_iload_n hx hb dX4_startOfPlace_0 rfl (lv_at hl 0 rfl) ?_
  refine lv_bipush (v := iI (((10 : Nat) : Int))) hx hb dX4_startOfPlace_1 (by decide +kernel) ?_
  refine rn_rem hx hb dX4_startOfPlace_3 (by omega) (by omega) ?_
  exact hret _ _ _ _ _ _ dX4_startOfPlace_4 ⟨rfl, rfl⟩ hP hD hS

set_option maxHeartbeats 4000000 in
set_option maxRecDepth 100000 in
theorem k_X4_isNumber (l : Launch) (D : va_G) (cI cZ : ClassId) (sz : Nat) (x : Int) (hx2 : -2147483648 ≤ x ∧ x < 2147483648) : Ci l yX4_isNumber wsX4_isNumber (rmD 0) D vwCl [(cI, .int), (cZ, .boolean)] [.int (iI (x))] [] sz (fun z w => w = [] ∧ (z = b2z (decide (0 ≤ x ∧ x ≤ 10)))) 0 0 := by
  refine Cz_of (cc := cX4_isNumber) (nL := 1) (by decide) rfl (Nat.le_of_ble_eq_true rfl) ?_
  intro p e s m below meth c A Q hsz C hK hN hA hP hD hS hret ls hl
  obtain ⟨hx, hb, hml, hown, hts⟩ := id C
  have hown : s.vm.findClass RX4 = some m.cls := hown
  have hl : lv_has ls 1 [(0, .int (iI (x)))] := hl
  refine lv_iload_n hx hb dX4_isNumber_0 rfl (lv_at hl 0 rfl) ?_
  refine rz_ilt (tgt := 14) hx hb dX4_isNumber_1 (by decide) (by omega) (fun c1 => ?_) (fun c1 => ?_)
  · refine lv_iconst (v := iI (((0 : Nat) : Int))) hx hb dX4_isNumber_14 (by decide +kernel) ?_
    exact hret _ _ _ _ _ _ dX4_isNumber_15 (Or.inl rfl) ⟨rfl, (by first | exact (b2z_t (by omega)).symm | exact (b2z_f (by omega)).symm)⟩ hP hD hS
  · refine lv_iload_n hx hb dX4_isNumber_4 rfl (lv_at hl 0 rfl) ?_
    refine lv_bipush (v := iI (((10 : Nat) : Int))) hx hb dX4_isNumber_5 (by decide +kernel) ?_
    refine rz_cgt (tgt := 14) hx hb dX4_isNumber_7 (by decide) (by omega) (by omega) (fun c2 => ?_) (fun c2 => ?_)
    · refine lv_iconst (v := iI (((0 : Nat) : Int))) hx hb dX4_isNumber_14 (by decide +kernel) ?_
      exact hret _ _ _ _ _ _ dX4_isNumber_15 (Or.inl rfl) ⟨rfl, (by first | exact (b2z_t (by omega)).symm | exact (b2z_f (by omega)).symm)⟩ hP hD hS
    · refine lv_iconst (v := iI (((1 : Nat) : Int))) hx hb dX4_isNumber_10 (by decide +kernel) ?_
      refine lv_goto (tgt := 15) hx hb dX4_isNumber_11 (by decide) ?_
      exact hret _ _ _ _ _ _ dX4_isNumber_15 (Or.inr rfl) ⟨rfl, (by first | exact (b2z_t (by omega)).symm | exact (b2z_f (by omega)).symm)⟩ hP hD hS

set_option maxHeartbeats 4000000 in
set_option maxRecDepth 100000 in
theorem k_X2_inEveryTank (l : Launch) (D : va_G) (cI cZ : ClassId) (sz : Nat) (x : Nat)  : Ci l yX2_inEveryTank wsX2_inEveryTank (rmD 0) D vwCl [(cI, .int), (cZ, .boolean)] [.int (iI (((x : Nat) : Int)))] [] sz (fun z w => w = [] ∧ (z = ((x * 1049601 : Nat) : Int))) 0 0 := by
  refine Ci_of (cc := cX2_inEveryTank) (nL := 1) (by decide) rfl (Nat.le_of_ble_eq_true rfl) ?_
  intro p e s m below meth c A Q hsz C hK hN hA hP hD hS hret ls hl
  obtain ⟨hx, hb, hml, hown, hts⟩ := id C
  have hown : s.vm.findClass RX2 = some m.cls := hown
  have hl : lv_has ls 1 [(0, .int (iI (((x : Nat) : Int))))] := hl
  refine lv_iload_n hx hb dX2_inEveryTank_0 rfl (lv_at hl 0 rfl) ?_
  refine lv_ldc (v := iI (((1049601 : Nat) : Int))) hx hb hown (hts _ (List.mem_cons_of_mem _ tc_X2_156)) dX2_inEveryTank_1 ?_
  refine rn_mul hx hb dX2_inEveryTank_3 ?_
  exact hret _ _ _ _ _ _ dX2_inEveryTank_4 ⟨rfl, rfl⟩ hP hD hS

set_option maxHeartbeats 4000000 in
set_option maxRecDepth 100000 in
theorem k_X4_memberAt (l : Launch) (D : va_G) (cI cZ : ClassId) (sz : Nat) (st : Nat) (k : Int) (hst : st < 16) (hk : -2147483648 ≤ k ∧ k < 2147483648) : Ci l yX4_memberAt wsX4_memberAt (rmD 0) D vwCl [(cI, .int), (cZ, .boolean)] [.int (iI (((st : Nat) : Int))), .int (iI (k))] [] sz (fun z w => w = [] ∧ (z = memF (fun j => Nat.testBit st j) k 4 0 0)) 0 0 := by
  refine Ci_of (cc := cX4_memberAt) (nL := 4) (by decide) rfl (Nat.le_of_ble_eq_true rfl) ?_
  intro p e s m below meth c A Q hsz C hK hN hA hP hD hS hret ls hl
  obtain ⟨hx, hb, hml, hown, hts⟩ := id C
  have hown : s.vm.findClass RX4 = some m.cls := hown
  have hl : lv_has ls 4 [(0, .int (iI (((st : Nat) : Int)))), (1, .int (iI (k)))] := hl
  have K4 : ∀ (fu : Nat) (b : Nat) (sn : Int), 4 - b < fu → (b ≤ 4) → (0 ≤ sn ∧ sn ≤ (b : Int)) → (memF (fun j => Nat.testBit st j) k (4 - b) b sn = memF (fun j => Nat.testBit st j) k 4 0 0) → ∀ (H : Heap) (locs : List Loc) (ls : Array Slot), va_P D vwCl [] H → va_D A [] → va_S A s.heap H locs → lv_has ls 4 [(0, .int (iI (((st : Nat) : Int)))), (1, .int (iI (k))), (2, .int (iI (sn))), (3, .int (iI (((b : Nat) : Int))))] → W p l e (rmD 0) s m ([.int (iI (((st : Nat) : Int))), .int (iI (k))] : List Value).toArray below meth c H locs 0 0 Q (F0 m 4 ls []) := by
    intro fu
    induction fu with
    | zero => intro b sn hmu; exact absurd hmu (Nat.not_lt_zero _)
    | succ fu ih =>
      intro b sn hmu hb4 hs hv H locs ls hP hD hS hl
      refine lv_iload_n hx hb dX4_memberAt_4 rfl (lv_at hl 3 rfl) ?_
      refine lv_iconst (v := iI (((4 : Nat) : Int))) hx hb dX4_memberAt_5 (by decide +kernel) ?_
      refine rz_cge (tgt := 33) hx hb dX4_memberAt_6 (by decide) (by omega) (by omega) (fun c1 => ?_) (fun c1 => ?_)
      · refine lv_iconst (v := iI ((-1 : Int))) hx hb dX4_memberAt_33 (by decide +kernel) ?_
        exact hret _ _ _ _ _ _ dX4_memberAt_34 ⟨rfl, ((memF_0 (N := 4) (by omega)).symm.trans hv)⟩ hP hD hS
      · refine lv_iload_n hx hb dX4_memberAt_9 rfl (lv_at hl 0 rfl) ?_
        refine lv_iload_n hx hb dX4_memberAt_10 rfl (lv_at hl 3 rfl) ?_
        refine rz_shr hx hb dX4_memberAt_11 (by omega) (by omega) ?_
        refine lv_iconst (v := iI (((1 : Nat) : Int))) hx hb dX4_memberAt_12 (by decide +kernel) ?_
        refine rz_and hx hb dX4_memberAt_13 ?_
        refine rz_ieq (tgt := 27) hx hb dX4_memberAt_14 (by decide) (by have := tb_r st b; omega) (fun c2 => ?_) (fun c2 => ?_)
        · have c2 := tb_f c2
          refine lv_iinc (v := iI (((b + 1 : Nat) : Int))) (lv' := [(3, .int (iI (((b + 1 : Nat) : Int)))), (0, .int (iI (((st : Nat) : Int)))), (1, .int (iI (k))), (2, .int (iI (sn)))]) hx hb dX4_memberAt_27 hl (k := 3) rfl (iI_inc _) (by decide) rfl (fun ls hl => ?_)
          refine lv_goto (tgt := 4) hx hb dX4_memberAt_30 (by decide) ?_
          exact ih (b + 1) (sn) (by omega) (by omega) (by omega) (by first | exact (memF_2 (N := 4) (by omega) (by assumption) (by assumption)).symm.trans hv | exact (memF_3 (N := 4) (by omega) (by assumption)).symm.trans hv) _ _ _ hP hD hS (lv_sub hl [1, 2, 3, 0] rfl)
        · have c2 := tb_t c2
          refine lv_iload_n hx hb dX4_memberAt_17 rfl (lv_at hl 2 rfl) ?_
          refine lv_iload_n hx hb dX4_memberAt_18 rfl (lv_at hl 1 rfl) ?_
          refine rz_cne (tgt := 24) hx hb dX4_memberAt_19 (by decide) (by omega) (by omega) (fun c3 => ?_) (fun c3 => ?_)
          · refine lv_iinc (v := iI (sn + (1))) (lv' := [(2, .int (iI (sn + (1)))), (0, .int (iI (((st : Nat) : Int)))), (1, .int (iI (k))), (3, .int (iI (((b : Nat) : Int))))]) hx hb dX4_memberAt_24 hl (k := 2) rfl (iI_add _ _) (by decide) rfl (fun ls hl => ?_)
            refine lv_iinc (v := iI (((b + 1 : Nat) : Int))) (lv' := [(3, .int (iI (((b + 1 : Nat) : Int)))), (2, .int (iI (sn + (1)))), (0, .int (iI (((st : Nat) : Int)))), (1, .int (iI (k)))]) hx hb dX4_memberAt_27 hl (k := 3) rfl (iI_inc _) (by decide) rfl (fun ls hl => ?_)
            refine lv_goto (tgt := 4) hx hb dX4_memberAt_30 (by decide) ?_
            exact ih (b + 1) (sn + (1)) (by omega) (by omega) (by omega) (by first | exact (memF_2 (N := 4) (by omega) (by assumption) (by assumption)).symm.trans hv | exact (memF_3 (N := 4) (by omega) (by assumption)).symm.trans hv) _ _ _ hP hD hS (lv_sub hl [2, 3, 1, 0] rfl)
          · refine lv_iload_n hx hb dX4_memberAt_22 rfl (lv_at hl 3 rfl) ?_
            exact hret _ _ _ _ _ _ dX4_memberAt_23 ⟨rfl, ((memF_1 (N := 4) (by omega) (by assumption) (by assumption)).symm.trans hv)⟩ hP hD hS
  refine lv_iconst (v := iI (((0 : Nat) : Int))) hx hb dX4_memberAt_0 (by decide +kernel) ?_
  refine lv_istore_n (lv' := [(2, .int (iI (((0 : Nat) : Int)))), (0, .int (iI (((st : Nat) : Int)))), (1, .int (iI (k)))]) hx hb dX4_memberAt_1 rfl hl (by decide) rfl (fun ls hl => ?_)
  refine lv_iconst (v := iI (((0 : Nat) : Int))) hx hb dX4_memberAt_2 (by decide +kernel) ?_
  refine lv_istore_n (lv' := [(3, .int (iI (((0 : Nat) : Int)))), (2, .int (iI (((0 : Nat) : Int)))), (0, .int (iI (((st : Nat) : Int)))), (1, .int (iI (k)))]) hx hb dX4_memberAt_3 rfl hl (by decide) rfl (fun ls hl => ?_)
  exact K4 (4 - (0) + 1) (0) (((0 : Nat) : Int)) (Nat.lt_succ_self _) (by omega) (by omega) rfl _ _ _ hP hD hS (lv_sub hl [2, 3, 1, 0] rfl)
