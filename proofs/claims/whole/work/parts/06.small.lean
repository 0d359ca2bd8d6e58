/-! the small methods of Rules, Shelf, and of the class itself -/
def othF (X : Nat → Bool) : Nat → Nat
  | 0 => 0
  | b + 1 => if X b = true then othF X b ||| 1 * 2 ^ b else othF X b
theorem othF_lt (X : Nat → Bool) : ∀ n, othF X n < 2 ^ n
  | 0 => Nat.one_pos
  | n + 1 => by
    have h := othF_lt X n
    have h2 : othF X n < 2 ^ (n + 1) := Nat.lt_of_lt_of_le h (Nat.pow_le_pow_right (by decide) (Nat.le_succ n))
    rw [othF]; split
    · exact Nat.or_lt_two_pow h2 (by rw [Nat.one_mul]; exact Nat.pow_lt_pow_right (by decide) (Nat.lt_succ_self n))
    · exact h2
theorem othF_tb (X : Nat → Bool) (j : Nat) : ∀ n, (othF X n).testBit j = (decide (j < n) && X j)
  | 0 => by simp [othF]
  | n + 1 => by
    have h := othF_tb X j n
    by_cases hj : j = n
    · subst hj
      have hlt : (othF X j).testBit j = false := by rw [h]; simp
      rw [othF]; split
      · rename_i hx; rw [Nat.testBit_or, hlt, Nat.one_mul, Nat.testBit_two_pow_self]; simp [hx]
      · rename_i hx; rw [hlt]; simp [hx]
    · have e : (decide (j < n + 1)) = decide (j < n) := by by_cases q : j < n <;> simp [q] <;> omega
      rw [othF, e]; split
      · rw [Nat.testBit_or, h, Nat.one_mul, Nat.testBit_two_pow_of_ne (Ne.symm hj)]; simp
      · exact h
/-- the batches that have another place now than in a plan laid by, or had none then -/
def othX (sz sp pl : Nat → Nat) (nu : Nat) (b : Nat) : Bool := decide (sz nu ≤ b ∨ sp (nu * 4 + b) ≠ pl b)

set_option maxHeartbeats 4000000 in
set_option maxRecDepth 100000 in
theorem k_X1_isFull (l : Launch) (D : va_G) (cI cZ : ClassId) (sz : Nat) (hR : Nat) (qK : Nat) (qA : Nat) (qB : Nat) (qN : Nat) (nr : Nat) (hm : nr ≤ 8) : Ci l yX1_isFull wsX1_isFull (rmD 0) D vwCl [(cI, .int), (cZ, .boolean)] [.ref hR] [(hR, .inr (1, [.ref qK, .ref qA, .ref qB, .ref qN, .int (iI (((nr : Nat) : Int)))]))] sz (fun z w => w = [(hR, .inr (1, [.ref qK, .ref qA, .ref qB, .ref qN, .int (iI (((nr : Nat) : Int)))]))] ∧ (z = b2z (decide (8 ≤ nr)))) 0 0 := by
  refine Cz_of (cc := cX1_isFull) (nL := 1) (by decide) rfl (Nat.le_of_ble_eq_true rfl) ?_
  intro p e s m below meth c A Q hsz C hK hN hA hP hD hS hret ls hl
  obtain ⟨hx, hb, hml, hown, hts⟩ := id C
  have hown : s.vm.findClass RX1 = some m.cls := hown
  have hl : lv_has ls 1 [(0, .ref hR)] := hl
  have in_X1 : ∀ w ∈ u_ws RX1 TX1 5, w ∈ wsX1_isFull := fun w h => List.mem_cons_of_mem _ (inX1 w h)
  refine lv_aload_n hx hb dX1_isFull_0 rfl (lv_at hl 0 rfl) ?_
  refine va_get (D := D) (ci := 1) (v := .int (iI (((nr : Nat) : Int)))) (C := RX1) (T := TX1) (N := 5) hx hb hts in_X1 hown hK hP 0 rfl rfl 4 (by decide) (hts _ (List.mem_cons_of_mem _ tf_X1_24)) (fun _ h9 => h9) rfl dX1_isFull_1 ?_
  refine lv_bipush (v := iI (((8 : Nat) : Int))) hx hb dX1_isFull_4 (by decide +kernel) ?_
  refine rz_clt (tgt := 13) hx hb dX1_isFull_6 (by decide) (by omega) (by omega) (fun c1 => ?_) (fun c1 => ?_)
  · refine lv_iconst (v := iI (((0 : Nat) : Int))) hx hb dX1_isFull_13 (by decide +kernel) ?_
    exact hret _ _ _ _ _ _ dX1_isFull_14 (Or.inl rfl) ⟨rfl, (by first | exact (b2z_t (by omega)).symm | exact (b2z_f (by omega)).symm)⟩ hP hD hS
  · refine lv_iconst (v := iI (((1 : Nat) : Int))) hx hb dX1_isFull_9 (by decide +kernel) ?_
    refine lv_goto (tgt := 14) hx hb dX1_isFull_10 (by decide) ?_
    exact hret _ _ _ _ _ _ dX1_isFull_14 (Or.inr rfl) ⟨rfl, (by first | exact (b2z_t (by omega)).symm | exact (b2z_f (by omega)).symm)⟩ hP hD hS

set_option maxHeartbeats 4000000 in
set_option maxRecDepth 100000 in
theorem k_X1_add (l : Launch) (D : va_G) (cI cZ : ClassId) (sz : Nat) (hR : Nat) (qK : Nat) (qA : Nat) (qB : Nat) (qN : Nat) (nr : Nat) (rk : Nat → Int) (ra : Nat → Int) (rb : Nat → Int) (rd : Nat → Int) (x0 : Int) (x1 : Int) (x2 : Int) (x3 : Int) (hm : nr < 8) : Cv l yX1_add wsX1_add (rmD 0) D vwCl [(cI, .int), (cZ, .boolean)] [.ref hR, .int (iI (x0)), .int (iI (x1)), .int (iI (x2)), .int (iI (x3))] [(hR, .inr (1, [.ref qK, .ref qA, .ref qB, .ref qN, .int (iI (((nr : Nat) : Int)))])), ce_i qK cI 8 (rk), ce_i qA cI 8 (ra), ce_i qB cI 8 (rb), ce_i qN cI 8 (rd)] sz (fun w => w = [(hR, .inr (1, [.ref qK, .ref qA, .ref qB, .ref qN, .int (iI (((nr + 1 : Nat) : Int)))])), ce_i qK cI 8 (uZ rk nr x0), ce_i qA cI 8 (uZ ra nr x1), ce_i qB cI 8 (uZ rb nr x2), ce_i qN cI 8 (uZ rd nr x3)]) 0 0 := by
  refine Cv_of (cc := cX1_add) (nL := 5) (by decide) rfl (Nat.le_of_ble_eq_true rfl) ?_
  intro p e s m below meth c A Q hsz C hK hN hA hP hD hS hin hret ls hl
  obtain ⟨hx, hb, hml, hown, hts⟩ := id C
  have hown : s.vm.findClass RX1 = some m.cls := hown
  have hl : lv_has ls 5 [(0, .ref hR), (1, .int (iI (x0))), (2, .int (iI (x1))), (3, .int (iI (x2))), (4, .int (iI (x3)))] := hl
  have in_X1 : ∀ w ∈ u_ws RX1 TX1 5, w ∈ wsX1_add := fun w h => List.mem_cons_of_mem _ (inX1 w h)
  refine lv_aload_n hx hb dX1_add_0 rfl (lv_at hl 0 rfl) ?_
  refine va_get (D := D) (ci := 1) (v := .ref qK) (C := RX1) (T := TX1) (N := 5) hx hb hts in_X1 hown hK hP 0 rfl rfl 0 (by decide) (hts _ (List.mem_cons_of_mem _ tf_X1_9)) (fun _ h9 => h9) rfl dX1_add_1 ?_
  refine lv_aload_n hx hb dX1_add_4 rfl (lv_at hl 0 rfl) ?_
  refine va_get (D := D) (ci := 1) (v := .int (iI (((nr : Nat) : Int)))) (C := RX1) (T := TX1) (N := 5) hx hb hts in_X1 hown hK hP 0 rfl rfl 4 (by decide) (hts _ (List.mem_cons_of_mem _ tf_X1_24)) (fun _ h9 => h9) rfl dX1_add_5 ?_
  refine lv_iload_n hx hb dX1_add_8 rfl (lv_at hl 1 rfl) ?_
  refine rn_ast hx hb hK hP hD hS 1 0 rfl rfl (by omega) (by omega) dX1_add_9 (fun H locs hP hD hS => ?_)
  have hP : va_P D vwCl [(hR, .inr (1, [.ref qK, .ref qA, .ref qB, .ref qN, .int (iI (((nr : Nat) : Int)))])), ce_i qK cI 8 (uZ rk nr x0), ce_i qA cI 8 (ra), ce_i qB cI 8 (rb), ce_i qN cI 8 (rd)] H := hP
  have hD : va_D A [(hR, .inr (1, [.ref qK, .ref qA, .ref qB, .ref qN, .int (iI (((nr : Nat) : Int)))])), ce_i qK cI 8 (uZ rk nr x0), ce_i qA cI 8 (ra), ce_i qB cI 8 (rb), ce_i qN cI 8 (rd)] := hD
  refine lv_aload_n hx hb dX1_add_10 rfl (lv_at hl 0 rfl) ?_
  refine va_get (D := D) (ci := 1) (v := .ref qA) (C := RX1) (T := TX1) (N := 5) hx hb hts in_X1 hown hK hP 0 rfl rfl 1 (by decide) (hts _ (List.mem_cons_of_mem _ tf_X1_15)) (fun _ h9 => h9) rfl dX1_add_11 ?_
  refine lv_aload_n hx hb dX1_add_14 rfl (lv_at hl 0 rfl) ?_
  refine va_get (D := D) (ci := 1) (v := .int (iI (((nr : Nat) : Int)))) (C := RX1) (T := TX1) (N := 5) hx hb hts in_X1 hown hK hP 0 rfl rfl 4 (by decide) (hts _ (List.mem_cons_of_mem _ tf_X1_24)) (fun _ h9 => h9) rfl dX1_add_15 ?_
  refine lv_iload_n hx hb dX1_add_18 rfl (lv_at hl 2 rfl) ?_
  refine rn_ast hx hb hK hP hD hS 2 0 rfl rfl (by omega) (by omega) dX1_add_19 (fun H locs hP hD hS => ?_)
  have hP : va_P D vwCl [(hR, .inr (1, [.ref qK, .ref qA, .ref qB, .ref qN, .int (iI (((nr : Nat) : Int)))])), ce_i qK cI 8 (uZ rk nr x0), ce_i qA cI 8 (uZ ra nr x1), ce_i qB cI 8 (rb), ce_i qN cI 8 (rd)] H := hP
  have hD : va_D A [(hR, .inr (1, [.ref qK, .ref qA, .ref qB, .ref qN, .int (iI (((nr : Nat) : Int)))])), ce_i qK cI 8 (uZ rk nr x0), ce_i qA cI 8 (uZ ra nr x1), ce_i qB cI 8 (rb), ce_i qN cI 8 (rd)] := hD
  refine lv_aload_n hx hb dX1_add_20 rfl (lv_at hl 0 rfl) ?_
  refine va_get (D := D) (ci := 1) (v := .ref qB) (C := RX1) (T := TX1) (N := 5) hx hb hts in_X1 hown hK hP 0 rfl rfl 2 (by decide) (hts _ (List.mem_cons_of_mem _ tf_X1_18)) (fun _ h9 => h9) rfl dX1_add_21 ?_
  refine lv_aload_n hx hb dX1_add_24 rfl (lv_at hl 0 rfl) ?_
  refine va_get (D := D) (ci := 1) (v := .int (iI (((nr : Nat) : Int)))) (C := RX1) (T := TX1) (N := 5) hx hb hts in_X1 hown hK hP 0 rfl rfl 4 (by decide) (hts _ (List.mem_cons_of_mem _ tf_X1_24)) (fun _ h9 => h9) rfl dX1_add_25 ?_
  refine lv_iload_n hx hb dX1_add_28 rfl (lv_at hl 3 rfl) ?_
  refine rn_ast hx hb hK hP hD hS 3 0 rfl rfl (by omega) (by omega) dX1_add_29 (fun H locs hP hD hS => ?_)
  have hP : va_P D vwCl [(hR, .inr (1, [.ref qK, .ref qA, .ref qB, .ref qN, .int (iI (((nr : Nat) : Int)))])), ce_i qK cI 8 (uZ rk nr x0), ce_i qA cI 8 (uZ ra nr x1), ce_i qB cI 8 (uZ rb nr x2), ce_i qN cI 8 (rd)] H := hP
  have hD : va_D A [(hR, .inr (1, [.ref qK, .ref qA, .ref qB, .ref qN, .int (iI (((nr : Nat) : Int)))])), ce_i qK cI 8 (uZ rk nr x0), ce_i qA cI 8 (uZ ra nr x1), ce_i qB cI 8 (uZ rb nr x2), ce_i qN cI 8 (rd)] := hD
  refine lv_aload_n hx hb dX1_add_30 rfl (lv_at hl 0 rfl) ?_
  refine va_get (D := D) (ci := 1) (v := .ref qN) (C := RX1) (T := TX1) (N := 5) hx hb hts in_X1 hown hK hP 0 rfl rfl 3 (by decide) (hts _ (List.mem_cons_of_mem _ tf_X1_21)) (fun _ h9 => h9) rfl dX1_add_31 ?_
  refine lv_aload_n hx hb dX1_add_34 rfl (lv_at hl 0 rfl) ?_
  refine va_get (D := D) (ci := 1) (v := .int (iI (((nr : Nat) : Int)))) (C := RX1) (T := TX1) (N := 5) hx hb hts in_X1 hown hK hP 0 rfl rfl 4 (by decide) (hts _ (List.mem_cons_of_mem _ tf_X1_24)) (fun _ h9 => h9) rfl dX1_add_35 ?_
  refine lv_iload hx hb dX1_add_38 (lv_at hl 4 rfl) ?_
  refine rn_ast hx hb hK hP hD hS 4 0 rfl rfl (by omega) (by omega) dX1_add_40 (fun H locs hP hD hS => ?_)
  have hP : va_P D vwCl [(hR, .inr (1, [.ref qK, .ref qA, .ref qB, .ref qN, .int (iI (((nr : Nat) : Int)))])), ce_i qK cI 8 (uZ rk nr x0), ce_i qA cI 8 (uZ ra nr x1), ce_i qB cI 8 (uZ rb nr x2), ce_i qN cI 8 (uZ rd nr x3)] H := hP
  have hD : va_D A [(hR, .inr (1, [.ref qK, .ref qA, .ref qB, .ref qN, .int (iI (((nr : Nat) : Int)))])), ce_i qK cI 8 (uZ rk nr x0), ce_i qA cI 8 (uZ ra nr x1), ce_i qB cI 8 (uZ rb nr x2), ce_i qN cI 8 (uZ rd nr x3)] := hD
  refine lv_aload_n hx hb dX1_add_41 rfl (lv_at hl 0 rfl) ?_
  refine lv_dup hx hb dX1_add_42 rfl ?_
  refine va_get (D := D) (ci := 1) (v := .int (iI (((nr : Nat) : Int)))) (C := RX1) (T := TX1) (N := 5) hx hb hts in_X1 hown hK hP 0 rfl rfl 4 (by decide) (hts _ (List.mem_cons_of_mem _ tf_X1_24)) (fun _ h9 => h9) rfl dX1_add_43 ?_
  refine lv_iconst (v := iI (((1 : Nat) : Int))) hx hb dX1_add_46 (by decide +kernel) ?_
  refine rn_add hx hb dX1_add_47 ?_
  refine va_put (D := D) (ci := 1) (v := .int (iI (((nr + 1 : Nat) : Int)))) (ty := .int) (C := RX1) (T := TX1) (N := 5) hx hb hts in_X1 tyX1 tyX1_ok nmX1 hown hK hP hD hS 0 rfl rfl 4 (by decide) (hts _ (List.mem_cons_of_mem _ tf_X1_24)) (fun _ h9 => h9) rfl (by decide +kernel) rfl rfl (Nat.le_of_ble_eq_true rfl) dX1_add_48 (fun H locs hP hD hS => ?_)
  have hP : va_P D vwCl [(hR, .inr (1, [.ref qK, .ref qA, .ref qB, .ref qN, .int (iI (((nr + 1 : Nat) : Int)))])), ce_i qK cI 8 (uZ rk nr x0), ce_i qA cI 8 (uZ ra nr x1), ce_i qB cI 8 (uZ rb nr x2), ce_i qN cI 8 (uZ rd nr x3)] H := hP
  have hD : va_D A [(hR, .inr (1, [.ref qK, .ref qA, .ref qB, .ref qN, .int (iI (((nr + 1 : Nat) : Int)))])), ce_i qK cI 8 (uZ rk nr x0), ce_i qA cI 8 (uZ ra nr x1), ce_i qB cI 8 (uZ rb nr x2), ce_i qN cI 8 (uZ rd nr x3)] := hD
  exact hret _ _ _ _ _ dX1_add_51 rfl hP hD hS

set_option maxHeartbeats 4000000 in
set_option maxRecDepth 100000 in
theorem k_X3_isEmpty (l : Launch) (D : va_G) (cI cZ : ClassId) (sz : Nat) (hW : Nat) (rm : Nat) (qS : Nat) (qQ : Nat) (cn : Nat) (hc : cn ≤ 16) : Ci l yX3_isEmpty wsX3_isEmpty (rmD 0) D vwCl [(cI, .int), (cZ, .boolean)] [.ref hW] [(hW, .inr (3, [.int (iI (((rm : Nat) : Int))), .ref qS, .ref qQ, .int (iI (((cn : Nat) : Int)))]))] sz (fun z w => w = [(hW, .inr (3, [.int (iI (((rm : Nat) : Int))), .ref qS, .ref qQ, .int (iI (((cn : Nat) : Int)))]))] ∧ (z = b2z (decide (cn = 0)))) 0 0 := by
  refine Cz_of (cc := cX3_isEmpty) (nL := 1) (by decide) rfl (Nat.le_of_ble_eq_true rfl) ?_
  intro p e s m below meth c A Q hsz C hK hN hA hP hD hS hret ls hl
  obtain ⟨hx, hb, hml, hown, hts⟩ := id C
  have hown : s.vm.findClass RX3 = some m.cls := hown
  have hl : lv_has ls 1 [(0, .ref hW)] := hl
  have in_X3 : ∀ w ∈ u_ws RX3 TX3 4, w ∈ wsX3_isEmpty := fun w h => List.mem_cons_of_mem _ (inX3 w h)
  refine lv_aload_n hx hb dX3_isEmpty_0 rfl (lv_at hl 0 rfl) ?_
  refine va_get (D := D) (ci := 3) (v := .int (iI (((cn : Nat) : Int)))) (C := RX3) (T := TX3) (N := 4) hx hb hts in_X3 hown hK hP 0 rfl rfl 3 (by decide) (hts _ (List.mem_cons_of_mem _ tf_X3_28)) (fun _ h9 => h9) rfl dX3_isEmpty_1 ?_
  refine rz_ine (tgt := 11) hx hb dX3_isEmpty_4 (by decide) (by omega) (fun c1 => ?_) (fun c1 => ?_)
  · refine lv_iconst (v := iI (((0 : Nat) : Int))) hx hb dX3_isEmpty_11 (by decide +kernel) ?_
    exact hret _ _ _ _ _ _ dX3_isEmpty_12 (Or.inl rfl) ⟨rfl, (by first | exact (b2z_t (by omega)).symm | exact (b2z_f (by omega)).symm)⟩ hP hD hS
  · refine lv_iconst (v := iI (((1 : Nat) : Int))) hx hb dX3_isEmpty_7 (by decide +kernel) ?_
    refine lv_goto (tgt := 12) hx hb dX3_isEmpty_8 (by decide) ?_
    exact hret _ _ _ _ _ _ dX3_isEmpty_12 (Or.inr rfl) ⟨rfl, (by first | exact (b2z_t (by omega)).symm | exact (b2z_f (by omega)).symm)⟩ hP hD hS

set_option maxHeartbeats 4000000 in
set_option maxRecDepth 100000 in
theorem k_X3_isFull (l : Launch) (D : va_G) (cI cZ : ClassId) (sz : Nat) (hW : Nat) (rm : Nat) (qS : Nat) (qQ : Nat) (cn : Nat) (hc : cn ≤ 16) (hrm : rm ≤ 16) : Ci l yX3_isFull wsX3_isFull (rmD 0) D vwCl [(cI, .int), (cZ, .boolean)] [.ref hW] [(hW, .inr (3, [.int (iI (((rm : Nat) : Int))), .ref qS, .ref qQ, .int (iI (((cn : Nat) : Int)))]))] sz (fun z w => w = [(hW, .inr (3, [.int (iI (((rm : Nat) : Int))), .ref qS, .ref qQ, .int (iI (((cn : Nat) : Int)))]))] ∧ (z = b2z (decide (rm ≤ cn)))) 0 0 := by
  refine Cz_of (cc := cX3_isFull) (nL := 1) (by decide) rfl (Nat.le_of_ble_eq_true rfl) ?_
  intro p e s m below meth c A Q hsz C hK hN hA hP hD hS hret ls hl
  obtain ⟨hx, hb, hml, hown, hts⟩ := id C
  have hown : s.vm.findClass RX3 = some m.cls := hown
  have hl : lv_has ls 1 [(0, .ref hW)] := hl
  have in_X3 : ∀ w ∈ u_ws RX3 TX3 4, w ∈ wsX3_isFull := fun w h => List.mem_cons_of_mem _ (inX3 w h)
  refine lv_aload_n hx hb dX3_isFull_0 rfl (lv_at hl 0 rfl) ?_
  refine va_get (D := D) (ci := 3) (v := .int (iI (((cn : Nat) : Int)))) (C := RX3) (T := TX3) (N := 4) hx hb hts in_X3 hown hK hP 0 rfl rfl 3 (by decide) (hts _ (List.mem_cons_of_mem _ tf_X3_28)) (fun _ h9 => h9) rfl dX3_isFull_1 ?_
  refine lv_aload_n hx hb dX3_isFull_4 rfl (lv_at hl 0 rfl) ?_
  refine va_get (D := D) (ci := 3) (v := .int (iI (((rm : Nat) : Int)))) (C := RX3) (T := TX3) (N := 4) hx hb hts in_X3 hown hK hP 0 rfl rfl 0 (by decide) (hts _ (List.mem_cons_of_mem _ tf_X3_15)) (fun _ h9 => h9) rfl dX3_isFull_5 ?_
  refine rz_clt (tgt := 15) hx hb dX3_isFull_8 (by decide) (by omega) (by omega) (fun c1 => ?_) (fun c1 => ?_)
  · refine lv_iconst (v := iI (((0 : Nat) : Int))) hx hb dX3_isFull_15 (by decide +kernel) ?_
    exact hret _ _ _ _ _ _ dX3_isFull_16 (Or.inl rfl) ⟨rfl, (by first | exact (b2z_t (by omega)).symm | exact (b2z_f (by omega)).symm)⟩ hP hD hS
  · refine lv_iconst (v := iI (((1 : Nat) : Int))) hx hb dX3_isFull_11 (by decide +kernel) ?_
    refine lv_goto (tgt := 16) hx hb dX3_isFull_12 (by decide) ?_
    exact hret _ _ _ _ _ _ dX3_isFull_16 (Or.inr rfl) ⟨rfl, (by first | exact (b2z_t (by omega)).symm | exact (b2z_f (by omega)).symm)⟩ hP hD hS

set_option maxHeartbeats 4000000 in
set_option maxRecDepth 100000 in
theorem k_X3_has (l : Launch) (D : va_G) (cI cZ : ClassId) (sz : Nat) (hW : Nat) (rm : Nat) (qS : Nat) (qQ : Nat) (cn : Nat) (k : Int) (hc : cn ≤ 16) (hk : -2147483648 ≤ k ∧ k < 2147483648) : Ci l yX3_has wsX3_has (rmD 0) D vwCl [(cI, .int), (cZ, .boolean)] [.ref hW, .int (iI (k))] [(hW, .inr (3, [.int (iI (((rm : Nat) : Int))), .ref qS, .ref qQ, .int (iI (((cn : Nat) : Int)))]))] sz (fun z w => w = [(hW, .inr (3, [.int (iI (((rm : Nat) : Int))), .ref qS, .ref qQ, .int (iI (((cn : Nat) : Int)))]))] ∧ (z = b2z (decide (0 ≤ k ∧ k < ((cn : Nat) : Int))))) 0 0 := by
  refine Cz_of (cc := cX3_has) (nL := 2) (by decide) rfl (Nat.le_of_ble_eq_true rfl) ?_
  intro p e s m below meth c A Q hsz C hK hN hA hP hD hS hret ls hl
  obtain ⟨hx, hb, hml, hown, hts⟩ := id C
  have hown : s.vm.findClass RX3 = some m.cls := hown
  have hl : lv_has ls 2 [(0, .ref hW), (1, .int (iI (k)))] := hl
  have in_X3 : ∀ w ∈ u_ws RX3 TX3 4, w ∈ wsX3_has := fun w h => List.mem_cons_of_mem _ (inX3 w h)
  refine lv_iload_n hx hb dX3_has_0 rfl (lv_at hl 1 rfl) ?_
  refine rz_ilt (tgt := 16) hx hb dX3_has_1 (by decide) (by omega) (fun c1 => ?_) (fun c1 => ?_)
  · refine lv_iconst (v := iI (((0 : Nat) : Int))) hx hb dX3_has_16 (by decide +kernel) ?_
    exact hret _ _ _ _ _ _ dX3_has_17 (Or.inl rfl) ⟨rfl, (by first | exact (b2z_t (by omega)).symm | exact (b2z_f (by omega)).symm)⟩ hP hD hS
  · refine lv_iload_n hx hb dX3_has_4 rfl (lv_at hl 1 rfl) ?_
    refine lv_aload_n hx hb dX3_has_5 rfl (lv_at hl 0 rfl) ?_
    refine va_get (D := D) (ci := 3) (v := .int (iI (((cn : Nat) : Int)))) (C := RX3) (T := TX3) (N := 4) hx hb hts in_X3 hown hK hP 0 rfl rfl 3 (by decide) (hts _ (List.mem_cons_of_mem _ tf_X3_28)) (fun _ h9 => h9) rfl dX3_has_6 ?_
    refine rz_cge (tgt := 16) hx hb dX3_has_9 (by decide) (by omega) (by omega) (fun c2 => ?_) (fun c2 => ?_)
    · refine lv_iconst (v := iI (((0 : Nat) : Int))) hx hb dX3_has_16 (by decide +kernel) ?_
      exact hret _ _ _ _ _ _ dX3_has_17 (Or.inl rfl) ⟨rfl, (by first | exact (b2z_t (by omega)).symm | exact (b2z_f (by omega)).symm)⟩ hP hD hS
    · refine lv_iconst (v := iI (((1 : Nat) : Int))) hx hb dX3_has_12 (by decide +kernel) ?_
      refine lv_goto (tgt := 17) hx hb dX3_has_13 (by decide) ?_
      exact hret _ _ _ _ _ _ dX3_has_17 (Or.inr rfl) ⟨rfl, (by first | exact (b2z_t (by omega)).symm | exact (b2z_f (by omega)).symm)⟩ hP hD hS

set_option maxHeartbeats 4000000 in
set_option maxRecDepth 100000 in
theorem k_X3_put (l : Launch) (D : va_G) (cI cZ : ClassId) (sz : Nat) (hW : Nat) (rm : Nat) (qS : Nat) (qQ : Nat) (cn : Nat) (r4 : Nat) (sz_ : Nat → Nat) (sp : Nat → Nat) (hB : Nat) (qL : Nat) (qP : Nat) (qE : Nat) (qF : Nat) (n : Nat) (pl : Nat → Nat) (hc : cn < rm) (hrm : rm ≤ 16) (hr4 : r4 = rm * 4) (hn : n ≤ 4) : Ci l yX3_put wsX3_put (rmD 2) D vwCl [(cI, .int), (cZ, .boolean)] [.ref hW, .ref hB] [(hW, .inr (3, [.int (iI (((rm : Nat) : Int))), .ref qS, .ref qQ, .int (iI (((cn : Nat) : Int)))])), ce_i qS cI rm (nZ (sz_)), ce_i qQ cI r4 (nZ (sp)), (hB, .inr (0, [.ref qL, .ref qP, .ref qE, .ref qF, .int (iI (((n : Nat) : Int)))])), ce_i qP cI 4 (nZ (pl))] sz (fun z w => w = [(hW, .inr (3, [.int (iI (((rm : Nat) : Int))), .ref qS, .ref qQ, .int (iI (((cn + 1 : Nat) : Int)))])), ce_i qS cI rm (nZ (uN sz_ cn n)), ce_i qQ cI r4 (nZ (va_cpy pl sp 0 (cn * 4) n)), (hB, .inr (0, [.ref qL, .ref qP, .ref qE, .ref qF, .int (iI (((n : Nat) : Int)))])), ce_i qP cI 4 (nZ (pl))] ∧ (z = ((cn : Nat) : Int))) 0 0 := by
  refine Ci_of (cc := cX3_put) (nL := 2) (by decide) rfl (Nat.le_of_ble_eq_true rfl) ?_
  intro p e s m below meth c A Q hsz C hK hN hA hP hD hS hret ls hl
  obtain ⟨hx, hb, hml, hown, hts⟩ := id C
  have hown : s.vm.findClass RX3 = some m.cls := hown
  have hl : lv_has ls 2 [(0, .ref hW), (1, .ref hB)] := hl
  have in_X3 : ∀ w ∈ u_ws RX3 TX3 4, w ∈ wsX3_put := fun w h => List.mem_cons_of_mem _ (inX3 w h)
  have in_X0 : ∀ w ∈ u_ws RX0 TX0 5, w ∈ wsX3_put := fun w h => List.mem_cons_of_mem _ (inX0 w h)
  refine lv_aload_n hx hb dX3_put_0 rfl (lv_at hl 0 rfl) ?_
  refine va_get (D := D) (ci := 3) (v := .ref qS) (C := RX3) (T := TX3) (N := 4) hx hb hts in_X3 hown hK hP 0 rfl rfl 1 (by decide) (hts _ (List.mem_cons_of_mem _ tf_X3_21)) (fun _ h9 => h9) rfl dX3_put_1 ?_
  refine lv_aload_n hx hb dX3_put_4 rfl (lv_at hl 0 rfl) ?_
  refine va_get (D := D) (ci := 3) (v := .int (iI (((cn : Nat) : Int)))) (C := RX3) (T := TX3) (N := 4) hx hb hts in_X3 hown hK hP 0 rfl rfl 3 (by decide) (hts _ (List.mem_cons_of_mem _ tf_X3_28)) (fun _ h9 => h9) rfl dX3_put_5 ?_
  refine lv_aload_n hx hb dX3_put_8 rfl (lv_at hl 1 rfl) ?_
  refine va_get (D := D) (ci := 0) (v := .int (iI (((n : Nat) : Int)))) (C := RX0) (T := TX0) (N := 5) hx hb hts in_X0 hown hK hP 3 rfl rfl 4 (by decide) (hts _ (List.mem_cons_of_mem _ tf_X3_31)) (fun _ h9 => h9) rfl dX3_put_9 ?_
  refine rn_astM hx hb hK hP hD hS 1 0 rfl rfl (by omega) (by omega) dX3_put_12 (fun H locs hP hD hS => ?_)
  have hP : va_P D vwCl [(hW, .inr (3, [.int (iI (((rm : Nat) : Int))), .ref qS, .ref qQ, .int (iI (((cn : Nat) : Int)))])), ce_i qS cI rm (nZ (uN sz_ cn n)), ce_i qQ cI r4 (nZ (sp)), (hB, .inr (0, [.ref qL, .ref qP, .ref qE, .ref qF, .int (iI (((n : Nat) : Int)))])), ce_i qP cI 4 (nZ (pl))] H := hP
  have hD : va_D A [(hW, .inr (3, [.int (iI (((rm : Nat) : Int))), .ref qS, .ref qQ, .int (iI (((cn : Nat) : Int)))])), ce_i qS cI rm (nZ (uN sz_ cn n)), ce_i qQ cI r4 (nZ (sp)), (hB, .inr (0, [.ref qL, .ref qP, .ref qE, .ref qF, .int (iI (((n : Nat) : Int)))])), ce_i qP cI 4 (nZ (pl))] := hD
  refine lv_aload_n hx hb dX3_put_13 rfl (lv_at hl 1 rfl) ?_
  refine va_get (D := D) (ci := 0) (v := .ref qP) (C := RX0) (T := TX0) (N := 5) hx hb hts in_X0 hown hK hP 3 rfl rfl 1 (by decide) (hts _ (List.mem_cons_of_mem _ tf_X3_34)) (fun _ h9 => h9) rfl dX3_put_14 ?_
  refine lv_iconst (v := iI (((0 : Nat) : Int))) hx hb dX3_put_17 (by decide +kernel) ?_
  refine lv_aload_n hx hb dX3_put_18 rfl (lv_at hl 0 rfl) ?_
  refine va_get (D := D) (ci := 3) (v := .ref qQ) (C := RX3) (T := TX3) (N := 4) hx hb hts in_X3 hown hK hP 0 rfl rfl 2 (by decide) (hts _ (List.mem_cons_of_mem _ tf_X3_25)) (fun _ h9 => h9) rfl dX3_put_19 ?_
  refine lv_aload_n hx hb dX3_put_22 rfl (lv_at hl 0 rfl) ?_
  refine va_get (D := D) (ci := 3) (v := .int (iI (((cn : Nat) : Int)))) (C := RX3) (T := TX3) (N := 4) hx hb hts in_X3 hown hK hP 0 rfl rfl 3 (by decide) (hts _ (List.mem_cons_of_mem _ tf_X3_28)) (fun _ h9 => h9) rfl dX3_put_23 ?_
  refine lv_iconst (v := iI (((4 : Nat) : Int))) hx hb dX3_put_26 (by decide +kernel) ?_
  refine rn_mul hx hb dX3_put_27 ?_
  refine lv_aload_n hx hb dX3_put_28 rfl (lv_at hl 1 rfl) ?_
  refine va_get (D := D) (ci := 0) (v := .int (iI (((n : Nat) : Int)))) (C := RX0) (T := TX0) (N := 5) hx hb hts in_X0 hown hK hP 3 rfl rfl 4 (by decide) (hts _ (List.mem_cons_of_mem _ tf_X3_31)) (fun _ h9 => h9) rfl dX3_put_29 ?_
  refine rn_copyM (rest := []) hx hb (hml.trans hl.1.symm) hown hts tm_X3_35 hK hP hD hS 4 2 0 rfl rfl rfl (by omega) (by omega) (by omega) (by omega) (Nat.le_of_ble_eq_true rfl) (Nat.le_of_ble_eq_true rfl) dX3_put_32 (fun H locs hP hD hS => ?_)
  have hP : va_P D vwCl [(hW, .inr (3, [.int (iI (((rm : Nat) : Int))), .ref qS, .ref qQ, .int (iI (((cn : Nat) : Int)))])), ce_i qS cI rm (nZ (uN sz_ cn n)), ce_i qQ cI r4 (nZ (va_cpy pl sp 0 (cn * 4) n)), (hB, .inr (0, [.ref qL, .ref qP, .ref qE, .ref qF, .int (iI (((n : Nat) : Int)))])), ce_i qP cI 4 (nZ (pl))] H := hP
  have hD : va_D A [(hW, .inr (3, [.int (iI (((rm : Nat) : Int))), .ref qS, .ref qQ, .int (iI (((cn : Nat) : Int)))])), ce_i qS cI rm (nZ (uN sz_ cn n)), ce_i qQ cI r4 (nZ (va_cpy pl sp 0 (cn * 4) n)), (hB, .inr (0, [.ref qL, .ref qP, .ref qE, .ref qF, .int (iI (((n : Nat) : Int)))])), ce_i qP cI 4 (nZ (pl))] := hD
  refine lv_aload_n hx hb dX3_put_35 rfl (lv_at hl 0 rfl) ?_
  refine lv_dup hx hb dX3_put_36 rfl ?_
  refine va_get (D := D) (ci := 3) (v := .int (iI (((cn : Nat) : Int)))) (C := RX3) (T := TX3) (N := 4) hx hb hts in_X3 hown hK hP 0 rfl rfl 3 (by decide) (hts _ (List.mem_cons_of_mem _ tf_X3_28)) (fun _ h9 => h9) rfl dX3_put_37 ?_
  refine lv_iconst (v := iI (((1 : Nat) : Int))) hx hb dX3_put_40 (by decide +kernel) ?_
  refine rn_add hx hb dX3_put_41 ?_
  refine va_put (D := D) (ci := 3) (v := .int (iI (((cn + 1 : Nat) : Int)))) (ty := .int) (C := RX3) (T := TX3) (N := 4) hx hb hts in_X3 tyX3 tyX3_ok nmX3 hown hK hP hD hS 0 rfl rfl 3 (by decide) (hts _ (List.mem_cons_of_mem _ tf_X3_28)) (fun _ h9 => h9) rfl (by decide +kernel) rfl rfl (Nat.le_of_ble_eq_true rfl) dX3_put_42 (fun H locs hP hD hS => ?_)
  have hP : va_P D vwCl [(hW, .inr (3, [.int (iI (((rm : Nat) : Int))), .ref qS, .ref qQ, .int (iI (((cn + 1 : Nat) : Int)))])), ce_i qS cI rm (nZ (uN sz_ cn n)), ce_i qQ cI r4 (nZ (va_cpy pl sp 0 (cn * 4) n)), (hB, .inr (0, [.ref qL, .ref qP, .ref qE, .ref qF, .int (iI (((n : Nat) : Int)))])), ce_i qP cI 4 (nZ (pl))] H := hP
  have hD : va_D A [(hW, .inr (3, [.int (iI (((rm : Nat) : Int))), .ref qS, .ref qQ, .int (iI (((cn + 1 : Nat) : Int)))])), ce_i qS cI rm (nZ (uN sz_ cn n)), ce_i qQ cI r4 (nZ (va_cpy pl sp 0 (cn * 4) n)), (hB, .inr (0, [.ref qL, .ref qP, .ref qE, .ref qF, .int (iI (((n : Nat) : Int)))])), ce_i qP cI 4 (nZ (pl))] := hD
  refine lv_aload_n hx hb dX3_put_45 rfl (lv_at hl 0 rfl) ?_
  refine va_get (D := D) (ci := 3) (v := .int (iI (((cn + 1 : Nat) : Int)))) (C := RX3) (T := TX3) (N := 4) hx hb hts in_X3 hown hK hP 0 rfl rfl 3 (by decide) (hts _ (List.mem_cons_of_mem _ tf_X3_28)) (fun _ h9 => h9) rfl dX3_put_46 ?_
  refine lv_iconst (v := iI (((1 : Nat) : Int))) hx hb dX3_put_49 (by decide +kernel) ?_
  refine rn_sub hx hb dX3_put_50 (by omega) ?_
  exact hret _ _ _ _ _ _ dX3_put_51 ⟨rfl, by omega⟩ hP hD hS

set_option maxHeartbeats 4000000 in
set_option maxRecDepth 100000 in
theorem k_X3_dropOldest (l : Launch) (D : va_G) (cI cZ : ClassId) (sz : Nat) (hW : Nat) (rm : Nat) (qS : Nat) (qQ : Nat) (cn : Nat) (r4 : Nat) (sz_ : Nat → Nat) (sp : Nat → Nat) (hc : 0 < cn ∧ cn ≤ rm) (hrm : rm ≤ 16) (hr4 : r4 = rm * 4) : Cv l yX3_dropOldest wsX3_dropOldest (rmD 2) D vwCl [(cI, .int), (cZ, .boolean)] [.ref hW] [(hW, .inr (3, [.int (iI (((rm : Nat) : Int))), .ref qS, .ref qQ, .int (iI (((cn : Nat) : Int)))])), ce_i qS cI rm (nZ (sz_)), ce_i qQ cI r4 (nZ (sp))] sz (fun w => w = [(hW, .inr (3, [.int (iI (((rm : Nat) : Int))), .ref qS, .ref qQ, .int (iI (((cn - 1 : Nat) : Int)))])), ce_i qS cI rm (nZ (va_cpy sz_ sz_ 1 0 (cn - 1))), ce_i qQ cI r4 (nZ (va_cpy sp sp 4 0 ((cn - 1) * 4)))]) 0 0 := by
  refine Cv_of (cc := cX3_dropOldest) (nL := 1) (by decide) rfl (Nat.le_of_ble_eq_true rfl) ?_
  intro p e s m below meth c A Q hsz C hK hN hA hP hD hS hin hret ls hl
  obtain ⟨hx, hb, hml, hown, hts⟩ := id C
  have hown : s.vm.findClass RX3 = some m.cls := hown
  have hl : lv_has ls 1 [(0, .ref hW)] := hl
  have in_X3 : ∀ w ∈ u_ws RX3 TX3 4, w ∈ wsX3_dropOldest := fun w h => List.mem_cons_of_mem _ (inX3 w h)
  refine lv_aload_n hx hb dX3_dropOldest_0 rfl (lv_at hl 0 rfl) ?_
  refine lv_dup hx hb dX3_dropOldest_1 rfl ?_
  refine va_get (D := D) (ci := 3) (v := .int (iI (((cn : Nat) : Int)))) (C := RX3) (T := TX3) (N := 4) hx hb hts in_X3 hown hK hP 0 rfl rfl 3 (by decide) (hts _ (List.mem_cons_of_mem _ tf_X3_28)) (fun _ h9 => h9) rfl dX3_dropOldest_2 ?_
  refine lv_iconst (v := iI (((1 : Nat) : Int))) hx hb dX3_dropOldest_5 (by decide +kernel) ?_
  refine rn_sub hx hb dX3_dropOldest_6 (by omega) ?_
  refine va_put (D := D) (ci := 3) (v := .int (iI (((cn - 1 : Nat) : Int)))) (ty := .int) (C := RX3) (T := TX3) (N := 4) hx hb hts in_X3 tyX3 tyX3_ok nmX3 hown hK hP hD hS 0 rfl rfl 3 (by decide) (hts _ (List.mem_cons_of_mem _ tf_X3_28)) (fun _ h9 => h9) rfl (by decide +kernel) rfl rfl (Nat.le_of_ble_eq_true rfl) dX3_dropOldest_7 (fun H locs hP hD hS => ?_)
  have hP : va_P D vwCl [(hW, .inr (3, [.int (iI (((rm : Nat) : Int))), .ref qS, .ref qQ, .int (iI (((cn - 1 : Nat) : Int)))])), ce_i qS cI rm (nZ (sz_)), ce_i qQ cI r4 (nZ (sp))] H := hP
  have hD : va_D A [(hW, .inr (3, [.int (iI (((rm : Nat) : Int))), .ref qS, .ref qQ, .int (iI (((cn - 1 : Nat) : Int)))])), ce_i qS cI rm (nZ (sz_)), ce_i qQ cI r4 (nZ (sp))] := hD
  refine lv_aload_n hx hb dX3_dropOldest_10 rfl (lv_at hl 0 rfl) ?_
  refine va_get (D := D) (ci := 3) (v := .ref qS) (C := RX3) (T := TX3) (N := 4) hx hb hts in_X3 hown hK hP 0 rfl rfl 1 (by decide) (hts _ (List.mem_cons_of_mem _ tf_X3_21)) (fun _ h9 => h9) rfl dX3_dropOldest_11 ?_
  refine lv_iconst (v := iI (((1 : Nat) : Int))) hx hb dX3_dropOldest_14 (by decide +kernel) ?_
  refine lv_aload_n hx hb dX3_dropOldest_15 rfl (lv_at hl 0 rfl) ?_
  refine va_get (D := D) (ci := 3) (v := .ref qS) (C := RX3) (T := TX3) (N := 4) hx hb hts in_X3 hown hK hP 0 rfl rfl 1 (by decide) (hts _ (List.mem_cons_of_mem _ tf_X3_21)) (fun _ h9 => h9) rfl dX3_dropOldest_16 ?_
  refine lv_iconst (v := iI (((0 : Nat) : Int))) hx hb dX3_dropOldest_19 (by decide +kernel) ?_
  refine lv_aload_n hx hb dX3_dropOldest_20 rfl (lv_at hl 0 rfl) ?_
  refine va_get (D := D) (ci := 3) (v := .int (iI (((cn - 1 : Nat) : Int)))) (C := RX3) (T := TX3) (N := 4) hx hb hts in_X3 hown hK hP 0 rfl rfl 3 (by decide) (hts _ (List.mem_cons_of_mem _ tf_X3_28)) (fun _ h9 => h9) rfl dX3_dropOldest_21 ?_
  refine rn_copyM (rest := []) hx hb (hml.trans hl.1.symm) hown hts tm_X3_35 hK hP hD hS 1 1 0 rfl rfl rfl (by omega) (by omega) (by omega) (by omega) (Nat.le_of_ble_eq_true rfl) (Nat.le_of_ble_eq_true rfl) dX3_dropOldest_24 (fun H locs hP hD hS => ?_)
  have hP : va_P D vwCl [(hW, .inr (3, [.int (iI (((rm : Nat) : Int))), .ref qS, .ref qQ, .int (iI (((cn - 1 : Nat) : Int)))])), ce_i qS cI rm (nZ (va_cpy sz_ sz_ 1 0 (cn - 1))), ce_i qQ cI r4 (nZ (sp))] H := hP
  have hD : va_D A [(hW, .inr (3, [.int (iI (((rm : Nat) : Int))), .ref qS, .ref qQ, .int (iI (((cn - 1 : Nat) : Int)))])), ce_i qS cI rm (nZ (va_cpy sz_ sz_ 1 0 (cn - 1))), ce_i qQ cI r4 (nZ (sp))] := hD
  refine lv_aload_n hx hb dX3_dropOldest_27 rfl (lv_at hl 0 rfl) ?_
  refine va_get (D := D) (ci := 3) (v := .ref qQ) (C := RX3) (T := TX3) (N := 4) hx hb hts in_X3 hown hK hP 0 rfl rfl 2 (by decide) (hts _ (List.mem_cons_of_mem _ tf_X3_25)) (fun _ h9 => h9) rfl dX3_dropOldest_28 ?_
  refine lv_iconst (v := iI (((4 : Nat) : Int))) hx hb dX3_dropOldest_31 (by decide +kernel) ?_
  refine lv_aload_n hx hb dX3_dropOldest_32 rfl (lv_at hl 0 rfl) ?_
  refine va_get (D := D) (ci := 3) (v := .ref qQ) (C := RX3) (T := TX3) (N := 4) hx hb hts in_X3 hown hK hP 0 rfl rfl 2 (by decide) (hts _ (List.mem_cons_of_mem _ tf_X3_25)) (fun _ h9 => h9) rfl dX3_dropOldest_33 ?_
  refine lv_iconst (v := iI (((0 : Nat) : Int))) hx hb dX3_dropOldest_36 (by decide +kernel) ?_
  refine lv_aload_n hx hb dX3_dropOldest_37 rfl (lv_at hl 0 rfl) ?_
  refine va_get (D := D) (ci := 3) (v := .int (iI (((cn - 1 : Nat) : Int)))) (C := RX3) (T := TX3) (N := 4) hx hb hts in_X3 hown hK hP 0 rfl rfl 3 (by decide) (hts _ (List.mem_cons_of_mem _ tf_X3_28)) (fun _ h9 => h9) rfl dX3_dropOldest_38 ?_
  refine lv_iconst (v := iI (((4 : Nat) : Int))) hx hb dX3_dropOldest_41 (by decide +kernel) ?_
  refine rn_mul hx hb dX3_dropOldest_42 ?_
  refine rn_copyM (rest := []) hx hb (hml.trans hl.1.symm) hown hts tm_X3_35 hK hP hD hS 2 2 0 rfl rfl rfl (by omega) (by omega) (by omega) (by omega) (Nat.le_of_ble_eq_true rfl) (Nat.le_of_ble_eq_true rfl) dX3_dropOldest_43 (fun H locs hP hD hS => ?_)
  have hP : va_P D vwCl [(hW, .inr (3, [.int (iI (((rm : Nat) : Int))), .ref qS, .ref qQ, .int (iI (((cn - 1 : Nat) : Int)))])), ce_i qS cI rm (nZ (va_cpy sz_ sz_ 1 0 (cn - 1))), ce_i qQ cI r4 (nZ (va_cpy sp sp 4 0 ((cn - 1) * 4)))] H := hP
  have hD : va_D A [(hW, .inr (3, [.int (iI (((rm : Nat) : Int))), .ref qS, .ref qQ, .int (iI (((cn - 1 : Nat) : Int)))])), ce_i qS cI rm (nZ (va_cpy sz_ sz_ 1 0 (cn - 1))), ce_i qQ cI r4 (nZ (va_cpy sp sp 4 0 ((cn - 1) * 4)))] := hD
  exact hret _ _ _ _ _ dX3_dropOldest_46 rfl hP hD hS

set_option maxHeartbeats 4000000 in
set_option maxRecDepth 100000 in
theorem k_X3_takeNewestInto (l : Launch) (D : va_G) (cI cZ : ClassId) (sz : Nat) (hW : Nat) (rm : Nat) (qS : Nat) (qQ : Nat) (cn : Nat) (r4 : Nat) (sz_ : Nat → Nat) (sp : Nat → Nat) (hB : Nat) (qL : Nat) (qP : Nat) (qE : Nat) (qF : Nat) (n : Nat) (pl : Nat → Nat) (hc : 0 < cn ∧ cn ≤ rm) (hrm : rm ≤ 16) (hr4 : r4 = rm * 4) (hz : sz_ (cn - 1) ≤ 4) : Cv l yX3_takeNewestInto wsX3_takeNewestInto (rmD 2) D vwCl [(cI, .int), (cZ, .boolean)] [.ref hW, .ref hB] [(hW, .inr (3, [.int (iI (((rm : Nat) : Int))), .ref qS, .ref qQ, .int (iI (((cn : Nat) : Int)))])), ce_i qS cI rm (nZ (sz_)), ce_i qQ cI r4 (nZ (sp)), (hB, .inr (0, [.ref qL, .ref qP, .ref qE, .ref qF, .int (iI (((n : Nat) : Int)))])), ce_i qP cI 4 (nZ (pl))] sz (fun w => w = [(hW, .inr (3, [.int (iI (((rm : Nat) : Int))), .ref qS, .ref qQ, .int (iI (((cn - 1 : Nat) : Int)))])), ce_i qS cI rm (nZ (sz_)), ce_i qQ cI r4 (nZ (sp)), (hB, .inr (0, [.ref qL, .ref qP, .ref qE, .ref qF, .int (iI (((n : Nat) : Int)))])), ce_i qP cI 4 (nZ (va_cpy sp pl ((cn - 1) * 4) 0 (sz_ (cn - 1))))]) 0 0 := by
  refine Cv_of (cc := cX3_takeNewestInto) (nL := 2) (by decide) rfl (Nat.le_of_ble_eq_true rfl) ?_
  intro p e s m below meth c A Q hsz C hK hN hA hP hD hS hin hret ls hl
  obtain ⟨hx, hb, hml, hown, hts⟩ := id C
  have hown : s.vm.findClass RX3 = some m.cls := hown
  have hl : lv_has ls 2 [(0, .ref hW), (1, .ref hB)] := hl
  have in_X3 : ∀ w ∈ u_ws RX3 TX3 4, w ∈ wsX3_takeNewestInto := fun w h => List.mem_cons_of_mem _ (inX3 w h)
  have in_X0 : ∀ w ∈ u_ws RX0 TX0 5, w ∈ wsX3_takeNewestInto := fun w h => List.mem_cons_of_mem _ (inX0 w h)
  refine lv_aload_n hx hb dX3_takeNewestInto_0 rfl (lv_at hl 0 rfl) ?_
  refine lv_dup hx hb dX3_takeNewestInto_1 rfl ?_
  refine va_get (D := D) (ci := 3) (v := .int (iI (((cn : Nat) : Int)))) (C := RX3) (T := TX3) (N := 4) hx hb hts in_X3 hown hK hP 0 rfl rfl 3 (by decide) (hts _ (List.mem_cons_of_mem _ tf_X3_28)) (fun _ h9 => h9) rfl dX3_takeNewestInto_2 ?_
  refine lv_iconst (v := iI (((1 : Nat) : Int))) hx hb dX3_takeNewestInto_5 (by decide +kernel) ?_
  refine rn_sub hx hb dX3_takeNewestInto_6 (by omega) ?_
  refine va_put (D := D) (ci := 3) (v := .int (iI (((cn - 1 : Nat) : Int)))) (ty := .int) (C := RX3) (T := TX3) (N := 4) hx hb hts in_X3 tyX3 tyX3_ok nmX3 hown hK hP hD hS 0 rfl rfl 3 (by decide) (hts _ (List.mem_cons_of_mem _ tf_X3_28)) (fun _ h9 => h9) rfl (by decide +kernel) rfl rfl (Nat.le_of_ble_eq_true rfl) dX3_takeNewestInto_7 (fun H locs hP hD hS => ?_)
  have hP : va_P D vwCl [(hW, .inr (3, [.int (iI (((rm : Nat) : Int))), .ref qS, .ref qQ, .int (iI (((cn - 1 : Nat) : Int)))])), ce_i qS cI rm (nZ (sz_)), ce_i qQ cI r4 (nZ (sp)), (hB, .inr (0, [.ref qL, .ref qP, .ref qE, .ref qF, .int (iI (((n : Nat) : Int)))])), ce_i qP cI 4 (nZ (pl))] H := hP
  have hD : va_D A [(hW, .inr (3, [.int (iI (((rm : Nat) : Int))), .ref qS, .ref qQ, .int (iI (((cn - 1 : Nat) : Int)))])), ce_i qS cI rm (nZ (sz_)), ce_i qQ cI r4 (nZ (sp)), (hB, .inr (0, [.ref qL, .ref qP, .ref qE, .ref qF, .int (iI (((n : Nat) : Int)))])), ce_i qP cI 4 (nZ (pl))] := hD
  refine lv_aload_n hx hb dX3_takeNewestInto_10 rfl (lv_at hl 0 rfl) ?_
  refine va_get (D := D) (ci := 3) (v := .ref qQ) (C := RX3) (T := TX3) (N := 4) hx hb hts in_X3 hown hK hP 0 rfl rfl 2 (by decide) (hts _ (List.mem_cons_of_mem _ tf_X3_25)) (fun _ h9 => h9) rfl dX3_takeNewestInto_11 ?_
  refine lv_aload_n hx hb dX3_takeNewestInto_14 rfl (lv_at hl 0 rfl) ?_
  refine va_get (D := D) (ci := 3) (v := .int (iI (((cn - 1 : Nat) : Int)))) (C := RX3) (T := TX3) (N := 4) hx hb hts in_X3 hown hK hP 0 rfl rfl 3 (by decide) (hts _ (List.mem_cons_of_mem _ tf_X3_28)) (fun _ h9 => h9) rfl dX3_takeNewestInto_15 ?_
  refine lv_iconst (v := iI (((4 : Nat) : Int))) hx hb dX3_takeNewestInto_18 (by decide +kernel) ?_
  refine rn_mul hx hb dX3_takeNewestInto_19 ?_
  refine lv_aload_n hx hb dX3_takeNewestInto_20 rfl (lv_at hl 1 rfl) ?_
  refine va_get (D := D) (ci := 0) (v := .ref qP) (C := RX0) (T := TX0) (N := 5) hx hb hts in_X0 hown hK hP 3 rfl rfl 1 (by decide) (hts _ (List.mem_cons_of_mem _ tf_X3_34)) (fun _ h9 => h9) rfl dX3_takeNewestInto_21 ?_
  refine lv_iconst (v := iI (((0 : Nat) : Int))) hx hb dX3_takeNewestInto_24 (by decide +kernel) ?_
  refine lv_aload_n hx hb dX3_takeNewestInto_25 rfl (lv_at hl 0 rfl) ?_
  refine va_get (D := D) (ci := 3) (v := .ref qS) (C := RX3) (T := TX3) (N := 4) hx hb hts in_X3 hown hK hP 0 rfl rfl 1 (by decide) (hts _ (List.mem_cons_of_mem _ tf_X3_21)) (fun _ h9 => h9) rfl dX3_takeNewestInto_26 ?_
  refine lv_aload_n hx hb dX3_takeNewestInto_29 rfl (lv_at hl 0 rfl) ?_
  refine va_get (D := D) (ci := 3) (v := .int (iI (((cn - 1 : Nat) : Int)))) (C := RX3) (T := TX3) (N := 4) hx hb hts in_X3 hown hK hP 0 rfl rfl 3 (by decide) (hts _ (List.mem_cons_of_mem _ tf_X3_28)) (fun _ h9 => h9) rfl dX3_takeNewestInto_30 ?_
  refine rn_aldM hx hb hK hP 1 0 rfl rfl (by omega) (by omega) dX3_takeNewestInto_33 ?_
  refine rn_copyM (rest := []) hx hb (hml.trans hl.1.symm) hown hts tm_X3_35 hK hP hD hS 2 4 0 rfl rfl rfl (by omega) (by omega) (by omega) (by omega) (Nat.le_of_ble_eq_true rfl) (Nat.le_of_ble_eq_true rfl) dX3_takeNewestInto_34 (fun H locs hP hD hS => ?_)
  have hP : va_P D vwCl [(hW, .inr (3, [.int (iI (((rm : Nat) : Int))), .ref qS, .ref qQ, .int (iI (((cn - 1 : Nat) : Int)))])), ce_i qS cI rm (nZ (sz_)), ce_i qQ cI r4 (nZ (sp)), (hB, .inr (0, [.ref qL, .ref qP, .ref qE, .ref qF, .int (iI (((n : Nat) : Int)))])), ce_i qP cI 4 (nZ (va_cpy sp pl ((cn - 1) * 4) 0 (sz_ (cn - 1))))] H := hP
  have hD : va_D A [(hW, .inr (3, [.int (iI (((rm : Nat) : Int))), .ref qS, .ref qQ, .int (iI (((cn - 1 : Nat) : Int)))])), ce_i qS cI rm (nZ (sz_)), ce_i qQ cI r4 (nZ (sp)), (hB, .inr (0, [.ref qL, .ref qP, .ref qE, .ref qF, .int (iI (((n : Nat) : Int)))])), ce_i qP cI 4 (nZ (va_cpy sp pl ((cn - 1) * 4) 0 (sz_ (cn - 1))))] := hD
  exact hret _ _ _ _ _ dX3_takeNewestInto_37 rfl hP hD hS

set_option maxHeartbeats 4000000 in
set_option maxRecDepth 100000 in
theorem k_X3_otherPlaces (l : Launch) (D : va_G) (cI cZ : ClassId) (sz : Nat) (hW : Nat) (rm : Nat) (qS : Nat) (qQ : Nat) (cn : Nat) (r4 : Nat) (sz_ : Nat → Nat) (sp : Nat → Nat) (hB : Nat) (qL : Nat) (qP : Nat) (qE : Nat) (qF : Nat) (n : Nat) (pl : Nat → Nat) (nu : Nat) (hc : nu < cn ∧ cn ≤ rm) (hrm : rm ≤ 16) (hr4 : r4 = rm * 4) (hn : n ≤ 4) (hz : sz_ nu ≤ 4) (hpl : ∀ j, pl j < 30) (hsp : ∀ j, sp j < 30) : Ci l yX3_otherPlaces wsX3_otherPlaces (rmD 0) D vwCl [(cI, .int), (cZ, .boolean)] [.ref hW, .int (iI (((nu : Nat) : Int))), .ref hB] [(hW, .inr (3, [.int (iI (((rm : Nat) : Int))), .ref qS, .ref qQ, .int (iI (((cn : Nat) : Int)))])), ce_i qS cI rm (nZ (sz_)), ce_i qQ cI r4 (nZ (sp)), (hB, .inr (0, [.ref qL, .ref qP, .ref qE, .ref qF, .int (iI (((n : Nat) : Int)))])), ce_i qP cI 4 (nZ (pl))] sz (fun z w => w = [(hW, .inr (3, [.int (iI (((rm : Nat) : Int))), .ref qS, .ref qQ, .int (iI (((cn : Nat) : Int)))])), ce_i qS cI rm (nZ (sz_)), ce_i qQ cI r4 (nZ (sp)), (hB, .inr (0, [.ref qL, .ref qP, .ref qE, .ref qF, .int (iI (((n : Nat) : Int)))])), ce_i qP cI 4 (nZ (pl))] ∧ (z = ((othF (othX sz_ sp pl nu) n : Nat) : Int))) 0 0 := by
  refine Ci_of (cc := cX3_otherPlaces) (nL := 6) (by decide) rfl (Nat.le_of_ble_eq_true rfl) ?_
  intro p e s m below meth c A Q hsz C hK hN hA hP hD hS hret ls hl
  obtain ⟨hx, hb, hml, hown, hts⟩ := id C
  have hown : s.vm.findClass RX3 = some m.cls := hown
  have hl : lv_has ls 6 [(0, .ref hW), (1, .int (iI (((nu : Nat) : Int)))), (2, .ref hB)] := hl
  have in_X0 : ∀ w ∈ u_ws RX0 TX0 5, w ∈ wsX3_otherPlaces := fun w h => List.mem_cons_of_mem _ (inX0 w h)
  have in_X3 : ∀ w ∈ u_ws RX3 TX3 4, w ∈ wsX3_otherPlaces := fun w h => List.mem_cons_of_mem _ (inX3 w h)
  have K5 : ∀ (fu : Nat) (b : Nat) (st : Nat), n - b < fu → (b ≤ n) → (st = othF (othX sz_ sp pl nu) b) → ∀ (H : Heap) (locs : List Loc) (ls : Array Slot), va_P D vwCl [(hW, .inr (3, [.int (iI (((rm : Nat) : Int))), .ref qS, .ref qQ, .int (iI (((cn : Nat) : Int)))])), ce_i qS cI rm (nZ (sz_)), ce_i qQ cI r4 (nZ (sp)), (hB, .inr (0, [.ref qL, .ref qP, .ref qE, .ref qF, .int (iI (((n : Nat) : Int)))])), ce_i qP cI 4 (nZ (pl))] H → va_D A [(hW, .inr (3, [.int (iI (((rm : Nat) : Int))), .ref qS, .ref qQ, .int (iI (((cn : Nat) : Int)))])), ce_i qS cI rm (nZ (sz_)), ce_i qQ cI r4 (nZ (sp)), (hB, .inr (0, [.ref qL, .ref qP, .ref qE, .ref qF, .int (iI (((n : Nat) : Int)))])), ce_i qP cI 4 (nZ (pl))] → va_S A s.heap H locs → lv_has ls 6 [(0, .ref hW), (1, .int (iI (((nu : Nat) : Int)))), (2, .ref hB), (3, .int (iI (((st : Nat) : Int)))), (4, .int (iI (((b : Nat) : Int))))] → W p l e (rmD 0) s m ([.ref hW, .int (iI (((nu : Nat) : Int))), .ref hB] : List Value).toArray below meth c H locs 0 0 Q (F0 m 5 ls []) := by
    intro fu
    induction fu with
    | zero => intro b st hmu; exact absurd hmu (Nat.not_lt_zero _)
    | succ fu ih =>
      intro b st hmu hb4 hst H locs ls hP hD hS hl
      refine lv_iload hx hb dX3_otherPlaces_5 (lv_at hl 4 rfl) ?_
      refine lv_aload_n hx hb dX3_otherPlaces_7 rfl (lv_at hl 2 rfl) ?_
      refine va_get (D := D) (ci := 0) (v := .int (iI (((n : Nat) : Int)))) (C := RX0) (T := TX0) (N := 5) hx hb hts in_X0 hown hK hP 3 rfl rfl 4 (by decide) (hts _ (List.mem_cons_of_mem _ tf_X3_31)) (fun _ h9 => h9) rfl dX3_otherPlaces_8 ?_
      refine rz_cge (tgt := 71) hx hb dX3_otherPlaces_11 (by decide) (by omega) (by omega) (fun c1 => ?_) (fun c1 => ?_)
      · refine lv_iload_n hx hb dX3_otherPlaces_71 rfl (lv_at hl 3 rfl) ?_
        exact hret _ _ _ _ _ _ dX3_otherPlaces_72 ⟨rfl, (by rw [hst, show b = n by omega])⟩ hP hD hS
      · refine lv_iload hx hb dX3_otherPlaces_14 (lv_at hl 4 rfl) ?_
        refine lv_aload_n hx hb dX3_otherPlaces_16 rfl (lv_at hl 0 rfl) ?_
        refine va_get (D := D) (ci := 3) (v := .ref qS) (C := RX3) (T := TX3) (N := 4) hx hb hts in_X3 hown hK hP 0 rfl rfl 1 (by decide) (hts _ (List.mem_cons_of_mem _ tf_X3_21)) (fun _ h9 => h9) rfl dX3_otherPlaces_17 ?_
        refine lv_iload_n hx hb dX3_otherPlaces_20 rfl (lv_at hl 1 rfl) ?_
        refine rn_aldM hx hb hK hP 1 0 rfl rfl (by omega) (by omega) dX3_otherPlaces_21 ?_
        refine rz_cge (tgt := 29) hx hb dX3_otherPlaces_22 (by decide) (by omega) (by omega) (fun c2 => ?_) (fun c2 => ?_)
        · refine lv_iconst (v := iI (((0 : Nat) : Int))) hx hb dX3_otherPlaces_29 (by decide +kernel) ?_
          refine lv_istore (lv' := [(5, .int (iI (((0 : Nat) : Int)))), (0, .ref hW), (1, .int (iI (((nu : Nat) : Int)))), (2, .ref hB), (3, .int (iI (((st : Nat) : Int)))), (4, .int (iI (((b : Nat) : Int))))]) hx hb dX3_otherPlaces_30 hl (by decide) rfl (fun ls hl => ?_)
          refine lv_iload hx hb dX3_otherPlaces_32 (lv_at hl 0 rfl) ?_
          refine rz_ieq (tgt := 58) hx hb dX3_otherPlaces_34 (by decide) (by omega) (fun c3 => ?_) (fun c3 => ?_)
          · refine lv_iload_n hx hb dX3_otherPlaces_58 rfl (lv_at hl 4 rfl) ?_
            refine lv_iconst (v := iI (((1 : Nat) : Int))) hx hb dX3_otherPlaces_59 (by decide +kernel) ?_
            refine lv_iload hx hb dX3_otherPlaces_60 (lv_at hl 5 rfl) ?_
            refine rz_shl hx hb dX3_otherPlaces_62 (by omega) (pw_lt (by omega)) ?_
            refine rz_or hx hb dX3_otherPlaces_63 ?_
            refine lv_istore_n (lv' := [(3, .int (iI (((st ||| (1 * 2 ^ b) : Nat) : Int)))), (5, .int (iI (((0 : Nat) : Int)))), (0, .ref hW), (1, .int (iI (((nu : Nat) : Int)))), (2, .ref hB), (4, .int (iI (((b : Nat) : Int))))]) hx hb dX3_otherPlaces_64 rfl hl (by decide) rfl (fun ls hl => ?_)
            refine lv_iinc (v := iI (((b + 1 : Nat) : Int))) (lv' := [(4, .int (iI (((b + 1 : Nat) : Int)))), (3, .int (iI (((st ||| (1 * 2 ^ b) : Nat) : Int)))), (5, .int (iI (((0 : Nat) : Int)))), (0, .ref hW), (1, .int (iI (((nu : Nat) : Int)))), (2, .ref hB)]) hx hb dX3_otherPlaces_65 hl (k := 5) rfl (iI_inc _) (by decide) rfl (fun ls hl => ?_)
            refine lv_goto (tgt := 5) hx hb dX3_otherPlaces_68 (by decide) ?_
            exact ih (b + 1) (st ||| (1 * 2 ^ b)) (by omega) (by omega) (by first | rw [hst, othF, if_pos (by unfold othX; rw [decide_eq_true_eq]; omega)] | rw [hst, othF, if_neg (by unfold othX; rw [decide_eq_true_eq]; omega)]) _ _ _ hP hD hS (lv_sub hl [3, 4, 5, 1, 0] rfl)
          · exfalso; omega
        · refine lv_iconst (v := iI (((1 : Nat) : Int))) hx hb dX3_otherPlaces_25 (by decide +kernel) ?_
          refine lv_goto (tgt := 30) hx hb dX3_otherPlaces_26 (by decide) ?_
          refine lv_istore (lv' := [(5, .int (iI (((1 : Nat) : Int)))), (0, .ref hW), (1, .int (iI (((nu : Nat) : Int)))), (2, .ref hB), (3, .int (iI (((st : Nat) : Int)))), (4, .int (iI (((b : Nat) : Int))))]) hx hb dX3_otherPlaces_30 hl (by decide) rfl (fun ls hl => ?_)
          refine lv_iload hx hb dX3_otherPlaces_32 (lv_at hl 0 rfl) ?_
          refine rz_ieq (tgt := 58) hx hb dX3_otherPlaces_34 (by decide) (by omega) (fun c4 => ?_) (fun c4 => ?_)
          · exfalso; omega
          · refine lv_aload_n hx hb dX3_otherPlaces_37 rfl (lv_at hl 1 rfl) ?_
            refine va_get (D := D) (ci := 3) (v := .ref qQ) (C := RX3) (T := TX3) (N := 4) hx hb hts in_X3 hown hK hP 0 rfl rfl 2 (by decide) (hts _ (List.mem_cons_of_mem _ tf_X3_25)) (fun _ h9 => h9) rfl dX3_otherPlaces_38 ?_
            refine lv_iload_n hx hb dX3_otherPlaces_41 rfl (lv_at hl 2 rfl) ?_
            refine lv_iconst (v := iI (((4 : Nat) : Int))) hx hb dX3_otherPlaces_42 (by decide +kernel) ?_
            refine rn_mul hx hb dX3_otherPlaces_43 ?_
            refine lv_iload hx hb dX3_otherPlaces_44 (lv_at hl 5 rfl) ?_
            refine rn_add hx hb dX3_otherPlaces_46 ?_
            refine rn_aldM hx hb hK hP 2 0 rfl rfl (by omega) (by omega) dX3_otherPlaces_47 ?_
            refine lv_aload_n hx hb dX3_otherPlaces_48 rfl (lv_at hl 3 rfl) ?_
            refine va_get (D := D) (ci := 0) (v := .ref qP) (C := RX0) (T := TX0) (N := 5) hx hb hts in_X0 hown hK hP 3 rfl rfl 1 (by decide) (hts _ (List.mem_cons_of_mem _ tf_X3_34)) (fun _ h9 => h9) rfl dX3_otherPlaces_49 ?_
            refine lv_iload hx hb dX3_otherPlaces_52 (lv_at hl 5 rfl) ?_
            refine rn_aldM hx hb hK hP 4 0 rfl rfl (by omega) (by omega) dX3_otherPlaces_54 ?_
            refine rz_ceq (tgt := 65) hx hb dX3_otherPlaces_55 (by decide) (by have := hsp (nu * 4 + b); omega) (by have := hpl b; omega) (fun c5 => ?_) (fun c5 => ?_)
            · refine lv_iinc (v := iI (((b + 1 : Nat) : Int))) (lv' := [(4, .int (iI (((b + 1 : Nat) : Int)))), (5, .int (iI (((1 : Nat) : Int)))), (0, .ref hW), (1, .int (iI (((nu : Nat) : Int)))), (2, .ref hB), (3, .int (iI (((st : Nat) : Int))))]) hx hb dX3_otherPlaces_65 hl (k := 5) rfl (iI_inc _) (by decide) rfl (fun ls hl => ?_)
              refine lv_goto (tgt := 5) hx hb dX3_otherPlaces_68 (by decide) ?_
              exact ih (b + 1) (st) (by omega) (by omega) (by first | rw [hst, othF, if_pos (by unfold othX; rw [decide_eq_true_eq]; omega)] | rw [hst, othF, if_neg (by unfold othX; rw [decide_eq_true_eq]; omega)]) _ _ _ hP hD hS (lv_sub hl [2, 3, 4, 5, 0] rfl)
            · refine lv_iload_n hx hb dX3_otherPlaces_58 rfl (lv_at hl 4 rfl) ?_
              refine lv_iconst (v := iI (((1 : Nat) : Int))) hx hb dX3_otherPlaces_59 (by decide +kernel) ?_
              refine lv_iload hx hb dX3_otherPlaces_60 (lv_at hl 5 rfl) ?_
              refine rz_shl hx hb dX3_otherPlaces_62 (by omega) (pw_lt (by omega)) ?_
              refine rz_or hx hb dX3_otherPlaces_63 ?_
              refine lv_istore_n (lv' := [(3, .int (iI (((st ||| (1 * 2 ^ b) : Nat) : Int)))), (5, .int (iI (((1 : Nat) : Int)))), (0, .ref hW), (1, .int (iI (((nu : Nat) : Int)))), (2, .ref hB), (4, .int (iI (((b : Nat) : Int))))]) hx hb dX3_otherPlaces_64 rfl hl (by decide) rfl (fun ls hl => ?_)
              refine lv_iinc (v := iI (((b + 1 : Nat) : Int))) (lv' := [(4, .int (iI (((b + 1 : Nat) : Int)))), (3, .int (iI (((st ||| (1 * 2 ^ b) : Nat) : Int)))), (5, .int (iI (((1 : Nat) : Int)))), (0, .ref hW), (1, .int (iI (((nu : Nat) : Int)))), (2, .ref hB)]) hx hb dX3_otherPlaces_65 hl (k := 5) rfl (iI_inc _) (by decide) rfl (fun ls hl => ?_)
              refine lv_goto (tgt := 5) hx hb dX3_otherPlaces_68 (by decide) ?_
              exact ih (b + 1) (st ||| (1 * 2 ^ b)) (by omega) (by omega) (by first | rw [hst, othF, if_pos (by unfold othX; rw [decide_eq_true_eq]; omega)] | rw [hst, othF, if_neg (by unfold othX; rw [decide_eq_true_eq]; omega)]) _ _ _ hP hD hS (lv_sub hl [3, 4, 5, 1, 0] rfl)
  refine lv_iconst (v := iI (((0 : Nat) : Int))) hx hb dX3_otherPlaces_0 (by decide +kernel) ?_
  refine lv_istore_n (lv' := [(3, .int (iI (((0 : Nat) : Int)))), (0, .ref hW), (1, .int (iI (((nu : Nat) : Int)))), (2, .ref hB)]) hx hb dX3_otherPlaces_1 rfl hl (by decide) rfl (fun ls hl => ?_)
  refine lv_iconst (v := iI (((0 : Nat) : Int))) hx hb dX3_otherPlaces_2 (by decide +kernel) ?_
  refine lv_istore (lv' := [(4, .int (iI (((0 : Nat) : Int)))), (3, .int (iI (((0 : Nat) : Int)))), (0, .ref hW), (1, .int (iI (((nu : Nat) : Int)))), (2, .ref hB)]) hx hb dX3_otherPlaces_3 hl (by decide) rfl (fun ls hl => ?_)
  exact K5 (n - (0) + 1) (0) (0) (Nat.lt_succ_self _) (by omega) rfl _ _ _ hP hD hS (lv_sub hl [2, 3, 4, 1, 0] rfl)

set_option maxHeartbeats 4000000 in
set_option maxRecDepth 100000 in
theorem k_X4_isTank (l : Launch) (D : va_G) (cI cZ : ClassId) (sz : Nat) (hX : Nat) (T : Nat) (dd : Nat) (hB : Nat) (hR : Nat) (hQ : Nat) (hF : Nat) (hC : Nat) (no : Nat) (sh : Nat) (cs : Nat) (lc : Nat) (co : Int64) (t : Int) (hT : 1 ≤ T ∧ T ≤ 3) (ht : -2147483648 ≤ t ∧ t < 2147483648) : Ci l yX4_isTank wsX4_isTank (rmD 0) D vwCl [(cI, .int), (cZ, .boolean)] [.ref hX, .int (iI (t))] [(hX, .inr (4, [.int (iI (((T : Nat) : Int))), .int (iI (((dd : Nat) : Int))), .ref hB, .ref hR, .ref hQ, .ref hF, .ref hC, .int (iI (((no : Nat) : Int))), .int (iI (((sh : Nat) : Int))), .int (iI (((cs : Nat) : Int))), .int (iI (((lc : Nat) : Int))), .long (co)]))] sz (fun z w => w = [(hX, .inr (4, [.int (iI (((T : Nat) : Int))), .int (iI (((dd : Nat) : Int))), .ref hB, .ref hR, .ref hQ, .ref hF, .ref hC, .int (iI (((no : Nat) : Int))), .int (iI (((sh : Nat) : Int))), .int (iI (((cs : Nat) : Int))), .int (iI (((lc : Nat) : Int))), .long (co)]))] ∧ (z = b2z (decide (0 ≤ t ∧ t < ((T : Nat) : Int))))) 0 0 := by
  refine Cz_of (cc := cX4_isTank) (nL := 2) (by decide) rfl (Nat.le_of_ble_eq_true rfl) ?_
  intro p e s m below meth c A Q hsz C hK hN hA hP hD hS hret ls hl
  obtain ⟨hx, hb, hml, hown, hts⟩ := id C
  have hown : s.vm.findClass RX4 = some m.cls := hown
  have hl : lv_has ls 2 [(0, .ref hX), (1, .int (iI (t)))] := hl
  have in_X4 : ∀ w ∈ u_ws RX4 TX4 12, w ∈ wsX4_isTank := fun w h => List.mem_cons_of_mem _ (inX4 w h)
  refine lv_iload_n hx hb dX4_isTank_0 rfl (lv_at hl 1 rfl) ?_
  refine rz_ilt (tgt := 16) hx hb dX4_isTank_1 (by decide) (by omega) (fun c1 => ?_) (fun c1 => ?_)
  · refine lv_iconst (v := iI (((0 : Nat) : Int))) hx hb dX4_isTank_16 (by decide +kernel) ?_
    exact hret _ _ _ _ _ _ dX4_isTank_17 (Or.inl rfl) ⟨rfl, (by first | exact (b2z_t (by omega)).symm | exact (b2z_f (by omega)).symm)⟩ hP hD hS
  · refine lv_iload_n hx hb dX4_isTank_4 rfl (lv_at hl 1 rfl) ?_
    refine lv_aload_n hx hb dX4_isTank_5 rfl (lv_at hl 0 rfl) ?_
    refine va_get (D := D) (ci := 4) (v := .int (iI (((T : Nat) : Int)))) (C := RX4) (T := TX4) (N := 12) hx hb hts in_X4 hown hK hP 0 rfl rfl 0 (by decide) (hts _ (List.mem_cons_of_mem _ tf_X4_51)) (fun _ h9 => h9) rfl dX4_isTank_6 ?_
    refine rz_cge (tgt := 16) hx hb dX4_isTank_9 (by decide) (by omega) (by omega) (fun c2 => ?_) (fun c2 => ?_)
    · refine lv_iconst (v := iI (((0 : Nat) : Int))) hx hb dX4_isTank_16 (by decide +kernel) ?_
      exact hret _ _ _ _ _ _ dX4_isTank_17 (Or.inl rfl) ⟨rfl, (by first | exact (b2z_t (by omega)).symm | exact (b2z_f (by omega)).symm)⟩ hP hD hS
    · refine lv_iconst (v := iI (((1 : Nat) : Int))) hx hb dX4_isTank_12 (by decide +kernel) ?_
      refine lv_goto (tgt := 17) hx hb dX4_isTank_13 (by decide) ?_
      exact hret _ _ _ _ _ _ dX4_isTank_17 (Or.inr rfl) ⟨rfl, (by first | exact (b2z_t (by omega)).symm | exact (b2z_f (by omega)).symm)⟩ hP hD hS

set_option maxHeartbeats 4000000 in
set_option maxRecDepth 100000 in
theorem k_X4_isWithinDays (l : Launch) (D : va_G) (cI cZ : ClassId) (sz : Nat) (hX : Nat) (T : Nat) (dd : Nat) (hB : Nat) (hR : Nat) (hQ : Nat) (hF : Nat) (hC : Nat) (no : Nat) (sh : Nat) (cs : Nat) (lc : Nat) (co : Int64) (s0 : Int) (l0 : Int) (hdd : 1 ≤ dd ∧ dd ≤ 10) (hs0 : -2147483648 ≤ s0 ∧ s0 < 2147483648) (hl0 : -2147483648 ≤ l0 ∧ l0 < 2147483648) : Ci l yX4_isWithinDays wsX4_isWithinDays (rmD 0) D vwCl [(cI, .int), (cZ, .boolean)] [.ref hX, .int (iI (s0)), .int (iI (l0))] [(hX, .inr (4, [.int (iI (((T : Nat) : Int))), .int (iI (((dd : Nat) : Int))), .ref hB, .ref hR, .ref hQ, .ref hF, .ref hC, .int (iI (((no : Nat) : Int))), .int (iI (((sh : Nat) : Int))), .int (iI (((cs : Nat) : Int))), .int (iI (((lc : Nat) : Int))), .long (co)]))] sz (fun z w => w = [(hX, .inr (4, [.int (iI (((T : Nat) : Int))), .int (iI (((dd : Nat) : Int))), .ref hB, .ref hR, .ref hQ, .ref hF, .ref hC, .int (iI (((no : Nat) : Int))), .int (iI (((sh : Nat) : Int))), .int (iI (((cs : Nat) : Int))), .int (iI (((lc : Nat) : Int))), .long (co)]))] ∧ (z = b2z (decide (0 ≤ s0 ∧ 1 ≤ l0 ∧ s0 + l0 ≤ ((dd : Nat) : Int))))) 0 0 := by
  refine Cz_of (cc := cX4_isWithinDays) (nL := 3) (by decide) rfl (Nat.le_of_ble_eq_true rfl) ?_
  intro p e s m below meth c A Q hsz C hK hN hA hP hD hS hret ls hl
  obtain ⟨hx, hb, hml, hown, hts⟩ := id C
  have hown : s.vm.findClass RX4 = some m.cls := hown
  have hl : lv_has ls 3 [(0, .ref hX), (1, .int (iI (s0))), (2, .int (iI (l0)))] := hl
  have in_X4 : ∀ w ∈ u_ws RX4 TX4 12, w ∈ wsX4_isWithinDays := fun w h => List.mem_cons_of_mem _ (inX4 w h)
  refine lv_iload_n hx hb dX4_isWithinDays_0 rfl (lv_at hl 1 rfl) ?_
  refine rz_ilt (tgt := 31) hx hb dX4_isWithinDays_1 (by decide) (by omega) (fun c1 => ?_) (fun c1 => ?_)
  · refine lv_iconst (v := iI (((0 : Nat) : Int))) hx hb dX4_isWithinDays_31 (by decide +kernel) ?_
    exact hret _ _ _ _ _ _ dX4_isWithinDays_32 (Or.inl rfl) ⟨rfl, (by first | exact (b2z_t (by omega)).symm | exact (b2z_f (by omega)).symm)⟩ hP hD hS
  · refine lv_iload_n hx hb dX4_isWithinDays_4 rfl (lv_at hl 1 rfl) ?_
    refine lv_aload_n hx hb dX4_isWithinDays_5 rfl (lv_at hl 0 rfl) ?_
    refine va_get (D := D) (ci := 4) (v := .int (iI (((dd : Nat) : Int)))) (C := RX4) (T := TX4) (N := 12) hx hb hts in_X4 hown hK hP 0 rfl rfl 1 (by decide) (hts _ (List.mem_cons_of_mem _ tf_X4_55)) (fun _ h9 => h9) rfl dX4_isWithinDays_6 ?_
    refine rz_cge (tgt := 31) hx hb dX4_isWithinDays_9 (by decide) (by omega) (by omega) (fun c2 => ?_) (fun c2 => ?_)
    · refine lv_iconst (v := iI (((0 : Nat) : Int))) hx hb dX4_isWithinDays_31 (by decide +kernel) ?_
      exact hret _ _ _ _ _ _ dX4_isWithinDays_32 (Or.inl rfl) ⟨rfl, (by first | exact (b2z_t (by omega)).symm | exact (b2z_f (by omega)).symm)⟩ hP hD hS
    · refine lv_iload_n hx hb dX4_isWithinDays_12 rfl (lv_at hl 2 rfl) ?_
      refine lv_iconst (v := iI (((1 : Nat) : Int))) hx hb dX4_isWithinDays_13 (by decide +kernel) ?_
      refine rz_clt (tgt := 31) hx hb dX4_isWithinDays_14 (by decide) (by omega) (by omega) (fun c3 => ?_) (fun c3 => ?_)
      · refine lv_iconst (v := iI (((0 : Nat) : Int))) hx hb dX4_isWithinDays_31 (by decide +kernel) ?_
        exact hret _ _ _ _ _ _ dX4_isWithinDays_32 (Or.inl rfl) ⟨rfl, (by first | exact (b2z_t (by omega)).symm | exact (b2z_f (by omega)).symm)⟩ hP hD hS
      · refine lv_iload_n hx hb dX4_isWithinDays_17 rfl (lv_at hl 2 rfl) ?_
        refine lv_aload_n hx hb dX4_isWithinDays_18 rfl (lv_at hl 0 rfl) ?_
        refine va_get (D := D) (ci := 4) (v := .int (iI (((dd : Nat) : Int)))) (C := RX4) (T := TX4) (N := 12) hx hb hts in_X4 hown hK hP 0 rfl rfl 1 (by decide) (hts _ (List.mem_cons_of_mem _ tf_X4_55)) (fun _ h9 => h9) rfl dX4_isWithinDays_19 ?_
        refine lv_iload_n hx hb dX4_isWithinDays_22 rfl (lv_at hl 1 rfl) ?_
        refine rz_sub hx hb dX4_isWithinDays_23 ?_
        refine rz_cgt (tgt := 31) hx hb dX4_isWithinDays_24 (by decide) (by omega) (by omega) (fun c4 => ?_) (fun c4 => ?_)
        · refine lv_iconst (v := iI (((0 : Nat) : Int))) hx hb dX4_isWithinDays_31 (by decide +kernel) ?_
          exact hret _ _ _ _ _ _ dX4_isWithinDays_32 (Or.inl rfl) ⟨rfl, (by first | exact (b2z_t (by omega)).symm | exact (b2z_f (by omega)).symm)⟩ hP hD hS
        · refine lv_iconst (v := iI (((1 : Nat) : Int))) hx hb dX4_isWithinDays_27 (by decide +kernel) ?_
          refine lv_goto (tgt := 32) hx hb dX4_isWithinDays_28 (by decide) ?_
          exact hret _ _ _ _ _ _ dX4_isWithinDays_32 (Or.inr rfl) ⟨rfl, (by first | exact (b2z_t (by omega)).symm | exact (b2z_f (by omega)).symm)⟩ hP hD hS

set_option maxHeartbeats 4000000 in
set_option maxRecDepth 100000 in
theorem k_X4_isRule (l : Launch) (D : va_G) (cI cZ : ClassId) (sz : Nat) (hX : Nat) (T : Nat) (dd : Nat) (hB : Nat) (hR : Nat) (hQ : Nat) (hF : Nat) (hC : Nat) (no : Nat) (sh : Nat) (cs : Nat) (lc : Nat) (co : Int64) (qL : Nat) (qP : Nat) (qE : Nat) (qF : Nat) (n : Nat) (kd : Int) (a : Int) (b : Int) (d : Int) (hn : n ≤ 4) (hkd : -2147483648 ≤ kd ∧ kd < 2147483648) (ha : -2147483648 ≤ a ∧ a < 2147483648) (hb : -2147483648 ≤ b ∧ b < 2147483648) (hd : -2147483648 ≤ d ∧ d < 2147483648) : Ci l yX4_isRule wsX4_isRule (rmD 1) D vwCl [(cI, .int), (cZ, .boolean)] [.ref hX, .int (iI (kd)), .int (iI (a)), .int (iI (b)), .int (iI (d))] [(hX, .inr (4, [.int (iI (((T : Nat) : Int))), .int (iI (((dd : Nat) : Int))), .ref hB, .ref hR, .ref hQ, .ref hF, .ref hC, .int (iI (((no : Nat) : Int))), .int (iI (((sh : Nat) : Int))), .int (iI (((cs : Nat) : Int))), .int (iI (((lc : Nat) : Int))), .long (co)])), (hB, .inr (0, [.ref qL, .ref qP, .ref qE, .ref qF, .int (iI (((n : Nat) : Int)))]))] sz (fun z w => w = [(hX, .inr (4, [.int (iI (((T : Nat) : Int))), .int (iI (((dd : Nat) : Int))), .ref hB, .ref hR, .ref hQ, .ref hF, .ref hC, .int (iI (((no : Nat) : Int))), .int (iI (((sh : Nat) : Int))), .int (iI (((cs : Nat) : Int))), .int (iI (((lc : Nat) : Int))), .long (co)])), (hB, .inr (0, [.ref qL, .ref qP, .ref qE, .ref qF, .int (iI (((n : Nat) : Int)))]))] ∧ (z = b2z (decide ((0 ≤ kd ∧ kd ≤ 3) ∧ (0 ≤ a ∧ a < ((n : Nat) : Int)) ∧ (kd ≤ 1 → (0 ≤ b ∧ b < ((n : Nat) : Int) ∧ a ≠ b)) ∧ (kd ≠ 1 → (0 ≤ d ∧ d ≤ 10)))))) 0 0 := by
  refine Cz_of (cc := cX4_isRule) (nL := 6) (by decide) rfl (Nat.le_of_ble_eq_true rfl) ?_
  intro p e s m below meth c A Q hsz C hK hN hA hP hD hS hret ls hl
  obtain ⟨hx, hb, hml, hown, hts⟩ := id C
  have hown : s.vm.findClass RX4 = some m.cls := hown
  have hl : lv_has ls 6 [(0, .ref hX), (1, .int (iI (kd))), (2, .int (iI (a))), (3, .int (iI (b))), (4, .int (iI (d)))] := hl
  have in_X4 : ∀ w ∈ u_ws RX4 TX4 12, w ∈ wsX4_isRule := fun w h => List.mem_cons_of_mem _ (inX4 w h)
  refine lv_iload_n hx hb dX4_isRule_0 rfl (lv_at hl 1 rfl) ?_
  refine rz_ilt (tgt := 20) hx hb dX4_isRule_1 (by decide) (by omega) (fun c1 => ?_) (fun c1 => ?_)
  · refine lv_iconst (v := iI (((0 : Nat) : Int))) hx hb dX4_isRule_20 (by decide +kernel) ?_
    exact hret _ _ _ _ _ _ dX4_isRule_21 (Or.inl rfl) ⟨rfl, (by first | exact (b2z_t (by omega)).symm | exact (b2z_f (by omega)).symm)⟩ hP hD hS
  · refine lv_iload_n hx hb dX4_isRule_4 rfl (lv_at hl 1 rfl) ?_
    refine lv_iconst (v := iI (((3 : Nat) : Int))) hx hb dX4_isRule_5 (by decide +kernel) ?_
    refine rz_cgt (tgt := 20) hx hb dX4_isRule_6 (by decide) (by omega) (by omega) (fun c2 => ?_) (fun c2 => ?_)
    · refine lv_iconst (v := iI (((0 : Nat) : Int))) hx hb dX4_isRule_20 (by decide +kernel) ?_
      exact hret _ _ _ _ _ _ dX4_isRule_21 (Or.inl rfl) ⟨rfl, (by first | exact (b2z_t (by omega)).symm | exact (b2z_f (by omega)).symm)⟩ hP hD hS
    · refine lv_aload_n hx hb dX4_isRule_9 rfl (lv_at hl 0 rfl) ?_
      refine va_get (D := D) (ci := 4) (v := .ref hB) (C := RX4) (T := TX4) (N := 12) hx hb hts in_X4 hown hK hP 0 rfl rfl 2 (by decide) (hts _ (List.mem_cons_of_mem _ tf_X4_12)) (fun _ h9 => h9) rfl dX4_isRule_10 ?_
      refine lv_iload_n hx hb dX4_isRule_13 rfl (lv_at hl 2 rfl) ?_
      have hPc := hP.sub (ws' := [(hB, .inr (0, [.ref qL, .ref qP, .ref qE, .ref qF, .int (iI (((n : Nat) : Int)))]))]) [1] rfl
      have hDc := hD.sub (ws' := [(hB, .inr (0, [.ref qL, .ref qP, .ref qE, .ref qF, .int (iI (((n : Nat) : Int)))]))]) [1] (by decide) rfl
      refine rz_calliR (va_runV (As := [.int (iI (a))]) (rest := []) ⟨hx, hb, hml, hown, hts⟩ (k_X0_has l D cI cZ s.heap.size hB qL qP qE qF n a (by omega) (by omega)) (cwV 1 hts (gG (g_V tm_X4_81 ti_X0_has tse_X0_has tin_X0 cmX0_has)) rfl rfl rfl (by decide +kernel) ⟨Nat.le_of_ble_eq_true rfl, Nat.le_of_ble_eq_true rfl⟩) ⟨cP_blind, va_recv hK hPc (ci := 0) (q0 := 0) rfl rfl, cP_pre hPc hK hN hDc⟩ rfl rfl hl.1 rfl (lv_room (Nat.le_of_ble_eq_true rfl)) dX4_isRule_14 ⟨Nat.le_refl _, Nat.le_refl _⟩) hP hD hS hA [1] rfl (fun z3 H locs hp hP hS => ?_)
      subst hp
      refine rz_bneD (P := (0 ≤ a ∧ a < ((n : Nat) : Int))) (tgt := 22) hx hb dX4_isRule_17 (by decide) (fun c4 => ?_) (fun c4 => ?_)
      · refine lv_iload_n hx hb dX4_isRule_22 rfl (lv_at hl 1 rfl) ?_
        refine rz_ieq (tgt := 31) hx hb dX4_isRule_23 (by decide) (by omega) (fun c5 => ?_) (fun c5 => ?_)
        · refine lv_iconst (v := iI (((1 : Nat) : Int))) hx hb dX4_isRule_31 (by decide +kernel) ?_
          refine lv_goto (tgt := 36) hx hb dX4_isRule_32 (by decide) ?_
          refine lv_istore (lv' := [(5, .int (iI (((1 : Nat) : Int)))), (0, .ref hX), (1, .int (iI (kd))), (2, .int (iI (a))), (3, .int (iI (b))), (4, .int (iI (d)))]) hx hb dX4_isRule_36 hl (by decide) rfl (fun ls hl => ?_)
          refine lv_iload hx hb dX4_isRule_38 (lv_at hl 0 rfl) ?_
          refine rz_ieq (tgt := 61) hx hb dX4_isRule_40 (by decide) (by omega) (fun c6 => ?_) (fun c6 => ?_)
          · exfalso; omega
          · refine lv_aload_n hx hb dX4_isRule_43 rfl (lv_at hl 1 rfl) ?_
            refine va_get (D := D) (ci := 4) (v := .ref hB) (C := RX4) (T := TX4) (N := 12) hx hb hts in_X4 hown hK hP 0 rfl rfl 2 (by decide) (hts _ (List.mem_cons_of_mem _ tf_X4_12)) (fun _ h9 => h9) rfl dX4_isRule_44 ?_
            refine lv_iload_n hx hb dX4_isRule_47 rfl (lv_at hl 4 rfl) ?_
            have hPc := hP.sub (ws' := [(hB, .inr (0, [.ref qL, .ref qP, .ref qE, .ref qF, .int (iI (((n : Nat) : Int)))]))]) [1] rfl
            have hDc := hD.sub (ws' := [(hB, .inr (0, [.ref qL, .ref qP, .ref qE, .ref qF, .int (iI (((n : Nat) : Int)))]))]) [1] (by decide) rfl
            refine rz_calliR (va_runV (As := [.int (iI (b))]) (rest := []) ⟨hx, hb, hml, hown, hts⟩ (k_X0_has l D cI cZ H.size hB qL qP qE qF n b (by omega) (by omega)) (cwV 1 hts (gG (g_V tm_X4_81 ti_X0_has tse_X0_has tin_X0 cmX0_has)) rfl rfl rfl (by decide +kernel) ⟨Nat.le_of_ble_eq_true rfl, Nat.le_of_ble_eq_true rfl⟩) ⟨cP_blind, va_recv hK hPc (ci := 0) (q0 := 0) rfl rfl, cP_pre hPc hK hN hDc⟩ rfl rfl hl.1 rfl (lv_room (Nat.le_of_ble_eq_true rfl)) dX4_isRule_48 ⟨Nat.le_refl _, Nat.le_refl _⟩) hP hD hS hA [1] rfl (fun z7 H locs hp hP hS => ?_)
            subst hp
            refine rz_beqD (P := (0 ≤ b ∧ b < ((n : Nat) : Int))) (tgt := 59) hx hb dX4_isRule_51 (by decide) (fun c8 => ?_) (fun c8 => ?_)
            · refine lv_iconst (v := iI (((0 : Nat) : Int))) hx hb dX4_isRule_59 (by decide +kernel) ?_
              exact hret _ _ _ _ _ _ dX4_isRule_60 (Or.inl rfl) ⟨rfl, (by first | exact (b2z_t (by omega)).symm | exact (b2z_f (by omega)).symm)⟩ hP hD hS
            · refine lv_iload_n hx hb dX4_isRule_54 rfl (lv_at hl 3 rfl) ?_
              refine lv_iload_n hx hb dX4_isRule_55 rfl (lv_at hl 4 rfl) ?_
              refine rz_cne (tgt := 61) hx hb dX4_isRule_56 (by decide) (by omega) (by omega) (fun c9 => ?_) (fun c9 => ?_)
              · refine lv_iload_n hx hb dX4_isRule_61 rfl (lv_at hl 2 rfl) ?_
                refine lv_iconst (v := iI (((1 : Nat) : Int))) hx hb dX4_isRule_62 (by decide +kernel) ?_
                refine rz_ceq (tgt := 74) hx hb dX4_isRule_63 (by decide) (by omega) (by omega) (fun c10 => ?_) (fun c10 => ?_)
                · refine lv_iconst (v := iI (((1 : Nat) : Int))) hx hb dX4_isRule_74 (by decide +kernel) ?_
                  refine lv_goto (tgt := 79) hx hb dX4_isRule_75 (by decide) ?_
                  exact hret _ _ _ _ _ _ dX4_isRule_79 (Or.inr rfl) ⟨rfl, (by first | exact (b2z_t (by omega)).symm | exact (b2z_f (by omega)).symm)⟩ hP hD hS
                · refine lv_iload hx hb dX4_isRule_66 (lv_at hl 5 rfl) ?_
                  have hPc := hP.sub (ws' := []) [] rfl
                  have hDc := hD.sub (ws' := []) [] (by decide) rfl
                  refine rz_calliR (va_runS (As := [.int (iI (d))]) (rest := []) ⟨hx, hb, hml, hown, hts⟩ (k_X4_isNumber l D cI cZ H.size d (by omega)) (va_cwS 1 hts (gG (g_S tm_X4_97 ts_X4_isNumber tin_X4 cmX4_isNumber)) rfl rfl rfl (by decide +kernel) ⟨Nat.le_of_ble_eq_true rfl, Nat.le_of_ble_eq_true rfl⟩) ⟨cP_blind, cP_pre hPc hK hN hDc⟩ rfl rfl hl.1 rfl (lv_room (Nat.le_of_ble_eq_true rfl)) dX4_isRule_68 ⟨Nat.le_refl _, Nat.le_refl _⟩) hP hD hS hA [] rfl (fun z11 H locs hp hP hS => ?_)
                  subst hp
                  refine rz_beqD (P := (0 ≤ d ∧ d ≤ 10)) (tgt := 78) hx hb dX4_isRule_71 (by decide) (fun c12 => ?_) (fun c12 => ?_)
                  · refine lv_iconst (v := iI (((0 : Nat) : Int))) hx hb dX4_isRule_78 (by decide +kernel) ?_
                    exact hret _ _ _ _ _ _ dX4_isRule_79 (Or.inl rfl) ⟨rfl, (by first | exact (b2z_t (by omega)).symm | exact (b2z_f (by omega)).symm)⟩ hP hD hS
                  · refine lv_iconst (v := iI (((1 : Nat) : Int))) hx hb dX4_isRule_74 (by decide +kernel) ?_
                    refine lv_goto (tgt := 79) hx hb dX4_isRule_75 (by decide) ?_
                    exact hret _ _ _ _ _ _ dX4_isRule_79 (Or.inr rfl) ⟨rfl, (by first | exact (b2z_t (by omega)).symm | exact (b2z_f (by omega)).symm)⟩ hP hD hS
              · refine lv_iconst (v := iI (((0 : Nat) : Int))) hx hb dX4_isRule_59 (by decide +kernel) ?_
                exact hret _ _ _ _ _ _ dX4_isRule_60 (Or.inl rfl) ⟨rfl, (by first | exact (b2z_t (by omega)).symm | exact (b2z_f (by omega)).symm)⟩ hP hD hS
        · refine lv_iload_n hx hb dX4_isRule_26 rfl (lv_at hl 1 rfl) ?_
          refine lv_iconst (v := iI (((1 : Nat) : Int))) hx hb dX4_isRule_27 (by decide +kernel) ?_
          refine rz_cne (tgt := 35) hx hb dX4_isRule_28 (by decide) (by omega) (by omega) (fun c13 => ?_) (fun c13 => ?_)
          · refine lv_iconst (v := iI (((0 : Nat) : Int))) hx hb dX4_isRule_35 (by decide +kernel) ?_
            refine lv_istore (lv' := [(5, .int (iI (((0 : Nat) : Int)))), (0, .ref hX), (1, .int (iI (kd))), (2, .int (iI (a))), (3, .int (iI (b))), (4, .int (iI (d)))]) hx hb dX4_isRule_36 hl (by decide) rfl (fun ls hl => ?_)
            refine lv_iload hx hb dX4_isRule_38 (lv_at hl 0 rfl) ?_
            refine rz_ieq (tgt := 61) hx hb dX4_isRule_40 (by decide) (by omega) (fun c14 => ?_) (fun c14 => ?_)
            · refine lv_iload_n hx hb dX4_isRule_61 rfl (lv_at hl 2 rfl) ?_
              refine lv_iconst (v := iI (((1 : Nat) : Int))) hx hb dX4_isRule_62 (by decide +kernel) ?_
              refine rz_ceq (tgt := 74) hx hb dX4_isRule_63 (by decide) (by omega) (by omega) (fun c15 => ?_) (fun c15 => ?_)
              · refine lv_iconst (v := iI (((1 : Nat) : Int))) hx hb dX4_isRule_74 (by decide +kernel) ?_
                refine lv_goto (tgt := 79) hx hb dX4_isRule_75 (by decide) ?_
                exact hret _ _ _ _ _ _ dX4_isRule_79 (Or.inr rfl) ⟨rfl, (by first | exact (b2z_t (by omega)).symm | exact (b2z_f (by omega)).symm)⟩ hP hD hS
              · refine lv_iload hx hb dX4_isRule_66 (lv_at hl 5 rfl) ?_
                have hPc := hP.sub (ws' := []) [] rfl
                have hDc := hD.sub (ws' := []) [] (by decide) rfl
                refine rz_calliR (va_runS (As := [.int (iI (d))]) (rest := []) ⟨hx, hb, hml, hown, hts⟩ (k_X4_isNumber l D cI cZ H.size d (by omega)) (va_cwS 1 hts (gG (g_S tm_X4_97 ts_X4_isNumber tin_X4 cmX4_isNumber)) rfl rfl rfl (by decide +kernel) ⟨Nat.le_of_ble_eq_true rfl, Nat.le_of_ble_eq_true rfl⟩) ⟨cP_blind, cP_pre hPc hK hN hDc⟩ rfl rfl hl.1 rfl (lv_room (Nat.le_of_ble_eq_true rfl)) dX4_isRule_68 ⟨Nat.le_refl _, Nat.le_refl _⟩) hP hD hS hA [] rfl (fun z16 H locs hp hP hS => ?_)
                subst hp
                refine rz_beqD (P := (0 ≤ d ∧ d ≤ 10)) (tgt := 78) hx hb dX4_isRule_71 (by decide) (fun c17 => ?_) (fun c17 => ?_)
                · refine lv_iconst (v := iI (((0 : Nat) : Int))) hx hb dX4_isRule_78 (by decide +kernel) ?_
                  exact hret _ _ _ _ _ _ dX4_isRule_79 (Or.inl rfl) ⟨rfl, (by first | exact (b2z_t (by omega)).symm | exact (b2z_f (by omega)).symm)⟩ hP hD hS
                · refine lv_iconst (v := iI (((1 : Nat) : Int))) hx hb dX4_isRule_74 (by decide +kernel) ?_
                  refine lv_goto (tgt := 79) hx hb dX4_isRule_75 (by decide) ?_
                  exact hret _ _ _ _ _ _ dX4_isRule_79 (Or.inr rfl) ⟨rfl, (by first | exact (b2z_t (by omega)).symm | exact (b2z_f (by omega)).symm)⟩ hP hD hS
            · exfalso; omega
          · refine lv_iconst (v := iI (((1 : Nat) : Int))) hx hb dX4_isRule_31 (by decide +kernel) ?_
            refine lv_goto (tgt := 36) hx hb dX4_isRule_32 (by decide) ?_
            refine lv_istore (lv' := [(5, .int (iI (((1 : Nat) : Int)))), (0, .ref hX), (1, .int (iI (kd))), (2, .int (iI (a))), (3, .int (iI (b))), (4, .int (iI (d)))]) hx hb dX4_isRule_36 hl (by decide) rfl (fun ls hl => ?_)
            refine lv_iload hx hb dX4_isRule_38 (lv_at hl 0 rfl) ?_
            refine rz_ieq (tgt := 61) hx hb dX4_isRule_40 (by decide) (by omega) (fun c18 => ?_) (fun c18 => ?_)
            · exfalso; omega
            · refine lv_aload_n hx hb dX4_isRule_43 rfl (lv_at hl 1 rfl) ?_
              refine va_get (D := D) (ci := 4) (v := .ref hB) (C := RX4) (T := TX4) (N := 12) hx hb hts in_X4 hown hK hP 0 rfl rfl 2 (by decide) (hts _ (List.mem_cons_of_mem _ tf_X4_12)) (fun _ h9 => h9) rfl dX4_isRule_44 ?_
              refine lv_iload_n hx hb dX4_isRule_47 rfl (lv_at hl 4 rfl) ?_
              have hPc := hP.sub (ws' := [(hB, .inr (0, [.ref qL, .ref qP, .ref qE, .ref qF, .int (iI (((n : Nat) : Int)))]))]) [1] rfl
              have hDc := hD.sub (ws' := [(hB, .inr (0, [.ref qL, .ref qP, .ref qE, .ref qF, .int (iI (((n : Nat) : Int)))]))]) [1] (by decide) rfl
              refine rz_calliR (va_runV (As := [.int (iI (b))]) (rest := []) ⟨hx, hb, hml, hown, hts⟩ (k_X0_has l D cI cZ H.size hB qL qP qE qF n b (by omega) (by omega)) (cwV 1 hts (gG (g_V tm_X4_81 ti_X0_has tse_X0_has tin_X0 cmX0_has)) rfl rfl rfl (by decide +kernel) ⟨Nat.le_of_ble_eq_true rfl, Nat.le_of_ble_eq_true rfl⟩) ⟨cP_blind, va_recv hK hPc (ci := 0) (q0 := 0) rfl rfl, cP_pre hPc hK hN hDc⟩ rfl rfl hl.1 rfl (lv_room (Nat.le_of_ble_eq_true rfl)) dX4_isRule_48 ⟨Nat.le_refl _, Nat.le_refl _⟩) hP hD hS hA [1] rfl (fun z19 H locs hp hP hS => ?_)
              subst hp
              refine rz_beqD (P := (0 ≤ b ∧ b < ((n : Nat) : Int))) (tgt := 59) hx hb dX4_isRule_51 (by decide) (fun c20 => ?_) (fun c20 => ?_)
              · refine lv_iconst (v := iI (((0 : Nat) : Int))) hx hb dX4_isRule_59 (by decide +kernel) ?_
                exact hret _ _ _ _ _ _ dX4_isRule_60 (Or.inl rfl) ⟨rfl, (by first | exact (b2z_t (by omega)).symm | exact (b2z_f (by omega)).symm)⟩ hP hD hS
              · refine lv_iload_n hx hb dX4_isRule_54 rfl (lv_at hl 3 rfl) ?_
                refine lv_iload_n hx hb dX4_isRule_55 rfl (lv_at hl 4 rfl) ?_
                refine rz_cne (tgt := 61) hx hb dX4_isRule_56 (by decide) (by omega) (by omega) (fun c21 => ?_) (fun c21 => ?_)
                · refine lv_iload_n hx hb dX4_isRule_61 rfl (lv_at hl 2 rfl) ?_
                  refine lv_iconst (v := iI (((1 : Nat) : Int))) hx hb dX4_isRule_62 (by decide +kernel) ?_
                  refine rz_ceq (tgt := 74) hx hb dX4_isRule_63 (by decide) (by omega) (by omega) (fun c22 => ?_) (fun c22 => ?_)
                  · refine lv_iconst (v := iI (((1 : Nat) : Int))) hx hb dX4_isRule_74 (by decide +kernel) ?_
                    refine lv_goto (tgt := 79) hx hb dX4_isRule_75 (by decide) ?_
                    exact hret _ _ _ _ _ _ dX4_isRule_79 (Or.inr rfl) ⟨rfl, (by first | exact (b2z_t (by omega)).symm | exact (b2z_f (by omega)).symm)⟩ hP hD hS
                  · refine lv_iload hx hb dX4_isRule_66 (lv_at hl 5 rfl) ?_
                    have hPc := hP.sub (ws' := []) [] rfl
                    have hDc := hD.sub (ws' := []) [] (by decide) rfl
                    refine rz_calliR (va_runS (As := [.int (iI (d))]) (rest := []) ⟨hx, hb, hml, hown, hts⟩ (k_X4_isNumber l D cI cZ H.size d (by omega)) (va_cwS 1 hts (gG (g_S tm_X4_97 ts_X4_isNumber tin_X4 cmX4_isNumber)) rfl rfl rfl (by decide +kernel) ⟨Nat.le_of_ble_eq_true rfl, Nat.le_of_ble_eq_true rfl⟩) ⟨cP_blind, cP_pre hPc hK hN hDc⟩ rfl rfl hl.1 rfl (lv_room (Nat.le_of_ble_eq_true rfl)) dX4_isRule_68 ⟨Nat.le_refl _, Nat.le_refl _⟩) hP hD hS hA [] rfl (fun z23 H locs hp hP hS => ?_)
                    subst hp
                    refine rz_beqD (P := (0 ≤ d ∧ d ≤ 10)) (tgt := 78) hx hb dX4_isRule_71 (by decide) (fun c24 => ?_) (fun c24 => ?_)
                    · refine lv_iconst (v := iI (((0 : Nat) : Int))) hx hb dX4_isRule_78 (by decide +kernel) ?_
                      exact hret _ _ _ _ _ _ dX4_isRule_79 (Or.inl rfl) ⟨rfl, (by first | exact (b2z_t (by omega)).symm | exact (b2z_f (by omega)).symm)⟩ hP hD hS
                    · refine lv_iconst (v := iI (((1 : Nat) : Int))) hx hb dX4_isRule_74 (by decide +kernel) ?_
                      refine lv_goto (tgt := 79) hx hb dX4_isRule_75 (by decide) ?_
                      exact hret _ _ _ _ _ _ dX4_isRule_79 (Or.inr rfl) ⟨rfl, (by first | exact (b2z_t (by omega)).symm | exact (b2z_f (by omega)).symm)⟩ hP hD hS
                · refine lv_iconst (v := iI (((0 : Nat) : Int))) hx hb dX4_isRule_59 (by decide +kernel) ?_
                  exact hret _ _ _ _ _ _ dX4_isRule_60 (Or.inl rfl) ⟨rfl, (by first | exact (b2z_t (by omega)).symm | exact (b2z_f (by omega)).symm)⟩ hP hD hS
      · refine lv_iconst (v := iI (((0 : Nat) : Int))) hx hb dX4_isRule_20 (by decide +kernel) ?_
        exact hret _ _ _ _ _ _ dX4_isRule_21 (Or.inl rfl) ⟨rfl, (by first | exact (b2z_t (by omega)).symm | exact (b2z_f (by omega)).symm)⟩ hP hD hS

set_option maxHeartbeats 4000000 in
set_option maxRecDepth 100000 in
theorem k_X4_batch (l : Launch) (D : va_G) (cI cZ : ClassId) (sz : Nat) (hX : Nat) (T : Nat) (dd : Nat) (hB : Nat) (hR : Nat) (hQ : Nat) (hF : Nat) (hC : Nat) (no : Nat) (sh : Nat) (cs : Nat) (lc : Nat) (co : Int64) (qL : Nat) (qP : Nat) (qE : Nat) (qF : Nat) (n : Nat) (ln : Nat → Nat) (pl : Nat → Nat) (t : Int) (s0 : Int) (l0 : Int) (hT : 1 ≤ T ∧ T ≤ 3) (hdd : 1 ≤ dd ∧ dd ≤ 10) (hn : n ≤ 4) (ht : -2147483648 ≤ t ∧ t < 2147483648) (hs0 : -2147483648 ≤ s0 ∧ s0 < 2147483648) (hl0 : -2147483648 ≤ l0 ∧ l0 < 2147483648) : Ci l yX4_batch wsX4_batch (rmD 2) D vwCl [(cI, .int), (cZ, .boolean)] [.ref hX, .int (iI (t)), .int (iI (s0)), .int (iI (l0))] [(hX, .inr (4, [.int (iI (((T : Nat) : Int))), .int (iI (((dd : Nat) : Int))), .ref hB, .ref hR, .ref hQ, .ref hF, .ref hC, .int (iI (((no : Nat) : Int))), .int (iI (((sh : Nat) : Int))), .int (iI (((cs : Nat) : Int))), .int (iI (((lc : Nat) : Int))), .long (co)])), (hB, .inr (0, [.ref qL, .ref qP, .ref qE, .ref qF, .int (iI (((n : Nat) : Int)))])), ce_i qL cI 4 (nZ (ln)), ce_i qP cI 4 (nZ (pl))] sz (fun z w => ∃ n2 : Nat, ∃ ln2 : Nat → Nat, ∃ pl2 : Nat → Nat, w = [(hX, .inr (4, [.int (iI (((T : Nat) : Int))), .int (iI (((dd : Nat) : Int))), .ref hB, .ref hR, .ref hQ, .ref hF, .ref hC, .int (iI (((no : Nat) : Int))), .int (iI (((sh : Nat) : Int))), .int (iI (((cs : Nat) : Int))), .int (iI (((lc : Nat) : Int))), .long (co)])), (hB, .inr (0, [.ref qL, .ref qP, .ref qE, .ref qF, .int (iI (((n2 : Nat) : Int)))])), ce_i qL cI 4 (nZ (ln2)), ce_i qP cI 4 (nZ (pl2))] ∧ ((n2, ln2, pl2, z) = (if (0 ≤ t ∧ t < ((T : Nat) : Int) ∧ 0 ≤ s0 ∧ 1 ≤ l0 ∧ s0 + l0 ≤ ((dd : Nat) : Int)) then (if n < 4 then (n + 1, uN ln n l0.toNat, uN pl n (t.toNat * 10 + s0.toNat), ((n : Nat) : Int)) else (n, ln, pl, -2)) else (n, ln, pl, -1)))) 0 0 := by
  refine Ci_of (cc := cX4_batch) (nL := 4) (by decide) rfl (Nat.le_of_ble_eq_true rfl) ?_
  intro p e s m below meth c A Q hsz C hK hN hA hP hD hS hret ls hl
  obtain ⟨hx, hb, hml, hown, hts⟩ := id C
  have hown : s.vm.findClass RX4 = some m.cls := hown
  have hl : lv_has ls 4 [(0, .ref hX), (1, .int (iI (t))), (2, .int (iI (s0))), (3, .int (iI (l0)))] := hl
  have in_X4 : ∀ w ∈ u_ws RX4 TX4 12, w ∈ wsX4_batch := fun w h => List.mem_cons_of_mem _ (inX4 w h)
  refine lv_aload_n hx hb dX4_batch_0 rfl (lv_at hl 0 rfl) ?_
  refine lv_iload_n hx hb dX4_batch_1 rfl (lv_at hl 1 rfl) ?_
  have hPc := hP.sub (ws' := [(hX, .inr (4, [.int (iI (((T : Nat) : Int))), .int (iI (((dd : Nat) : Int))), .ref hB, .ref hR, .ref hQ, .ref hF, .ref hC, .int (iI (((no : Nat) : Int))), .int (iI (((sh : Nat) : Int))), .int (iI (((cs : Nat) : Int))), .int (iI (((lc : Nat) : Int))), .long (co)]))]) [0] rfl
  have hDc := hD.sub (ws' := [(hX, .inr (4, [.int (iI (((T : Nat) : Int))), .int (iI (((dd : Nat) : Int))), .ref hB, .ref hR, .ref hQ, .ref hF, .ref hC, .int (iI (((no : Nat) : Int))), .int (iI (((sh : Nat) : Int))), .int (iI (((cs : Nat) : Int))), .int (iI (((lc : Nat) : Int))), .long (co)]))]) [0] (by decide) rfl
  refine rz_calliR (va_runV (As := [.int (iI (t))]) (rest := []) ⟨hx, hb, hml, hown, hts⟩ (k_X4_isTank l D cI cZ s.heap.size hX T dd hB hR hQ hF hC no sh cs lc co t (by omega) (by omega)) (cwV 1 hts (gG (g_V tm_X4_58 ti_X4_isTank tse_X4_isTank tin_X4 cmX4_isTank)) rfl rfl rfl (by decide +kernel) ⟨Nat.le_of_ble_eq_true rfl, Nat.le_of_ble_eq_true rfl⟩) ⟨cP_blind, va_recv hK hPc (ci := 4) (q0 := 0) rfl rfl, cP_pre hPc hK hN hDc⟩ rfl rfl hl.1 rfl (lv_room (Nat.le_of_ble_eq_true rfl)) dX4_batch_2 ⟨Nat.le_refl _, Nat.le_refl _⟩) hP hD hS hA [0] rfl (fun z1 H locs hp hP hS => ?_)
  subst hp
  refine rz_beqD (P := (0 ≤ t ∧ t < ((T : Nat) : Int))) (tgt := 17) hx hb dX4_batch_5 (by decide) (fun c2 => ?_) (fun c2 => ?_)
  · refine lv_iconst (v := iI ((-1 : Int))) hx hb dX4_batch_17 (by decide +kernel) ?_
    exact hret _ _ _ _ _ _ dX4_batch_18 ⟨_, _, _, rfl, (by first | rw [if_neg (by omega)] | rw [if_pos (by omega), if_neg (by omega)] | rw [if_pos (by omega), if_pos (by omega)])⟩ hP hD hS
  · refine lv_aload_n hx hb dX4_batch_8 rfl (lv_at hl 0 rfl) ?_
    refine lv_iload_n hx hb dX4_batch_9 rfl (lv_at hl 2 rfl) ?_
    refine lv_iload_n hx hb dX4_batch_10 rfl (lv_at hl 3 rfl) ?_
    have hPc := hP.sub (ws' := [(hX, .inr (4, [.int (iI (((T : Nat) : Int))), .int (iI (((dd : Nat) : Int))), .ref hB, .ref hR, .ref hQ, .ref hF, .ref hC, .int (iI (((no : Nat) : Int))), .int (iI (((sh : Nat) : Int))), .int (iI (((cs : Nat) : Int))), .int (iI (((lc : Nat) : Int))), .long (co)]))]) [0] rfl
    have hDc := hD.sub (ws' := [(hX, .inr (4, [.int (iI (((T : Nat) : Int))), .int (iI (((dd : Nat) : Int))), .ref hB, .ref hR, .ref hQ, .ref hF, .ref hC, .int (iI (((no : Nat) : Int))), .int (iI (((sh : Nat) : Int))), .int (iI (((cs : Nat) : Int))), .int (iI (((lc : Nat) : Int))), .long (co)]))]) [0] (by decide) rfl
    refine rz_calliR (va_runV (As := [.int (iI (s0)), .int (iI (l0))]) (rest := []) ⟨hx, hb, hml, hown, hts⟩ (k_X4_isWithinDays l D cI cZ H.size hX T dd hB hR hQ hF hC no sh cs lc co s0 l0 (by omega) (by omega) (by omega)) (cwV 2 hts (gG (g_V tm_X4_62 ti_X4_isWithinDays tse_X4_isWithinDays tin_X4 cmX4_isWithinDays)) rfl rfl rfl (by decide +kernel) ⟨Nat.le_of_ble_eq_true rfl, Nat.le_of_ble_eq_true rfl⟩) ⟨cP_blind, va_recv hK hPc (ci := 4) (q0 := 0) rfl rfl, cP_pre hPc hK hN hDc⟩ rfl rfl hl.1 rfl (lv_room (Nat.le_of_ble_eq_true rfl)) dX4_batch_11 ⟨Nat.le_refl _, Nat.le_refl _⟩) hP hD hS hA [0] rfl (fun z3 H locs hp hP hS => ?_)
    subst hp
    refine rz_bneD (P := (0 ≤ s0 ∧ 1 ≤ l0 ∧ s0 + l0 ≤ ((dd : Nat) : Int))) (tgt := 19) hx hb dX4_batch_14 (by decide) (fun c4 => ?_) (fun c4 => ?_)
    · refine lv_aload_n hx hb dX4_batch_19 rfl (lv_at hl 0 rfl) ?_
      refine va_get (D := D) (ci := 4) (v := .ref hB) (C := RX4) (T := TX4) (N := 12) hx hb hts in_X4 hown hK hP 0 rfl rfl 2 (by decide) (hts _ (List.mem_cons_of_mem _ tf_X4_12)) (fun _ h9 => h9) rfl dX4_batch_20 ?_
      have hPc := hP.sub (ws' := [(hB, .inr (0, [.ref qL, .ref qP, .ref qE, .ref qF, .int (iI (((n : Nat) : Int)))]))]) [1] rfl
      have hDc := hD.sub (ws' := [(hB, .inr (0, [.ref qL, .ref qP, .ref qE, .ref qF, .int (iI (((n : Nat) : Int)))]))]) [1] (by decide) rfl
      refine rz_calliR (va_runV (As := []) (rest := []) ⟨hx, hb, hml, hown, hts⟩ (k_X0_isFull l D cI cZ H.size hB qL qP qE qF n (by omega)) (cwV 0 hts (gG (g_V tm_X4_66 ti_X0_isFull tse_X0_isFull tin_X0 cmX0_isFull)) rfl rfl rfl (by decide +kernel) ⟨Nat.le_of_ble_eq_true rfl, Nat.le_of_ble_eq_true rfl⟩) ⟨cP_blind, va_recv hK hPc (ci := 0) (q0 := 0) rfl rfl, cP_pre hPc hK hN hDc⟩ rfl rfl hl.1 rfl (lv_room (Nat.le_of_ble_eq_true rfl)) dX4_batch_23 ⟨Nat.le_refl _, Nat.le_refl _⟩) hP hD hS hA [1] rfl (fun z5 H locs hp hP hS => ?_)
      subst hp
      refine rz_beqD (P := (4 ≤ n)) (tgt := 34) hx hb dX4_batch_26 (by decide) (fun c6 => ?_) (fun c6 => ?_)
      · refine lv_aload_n hx hb dX4_batch_34 rfl (lv_at hl 0 rfl) ?_
        refine va_get (D := D) (ci := 4) (v := .ref hB) (C := RX4) (T := TX4) (N := 12) hx hb hts in_X4 hown hK hP 0 rfl rfl 2 (by decide) (hts _ (List.mem_cons_of_mem _ tf_X4_12)) (fun _ h9 => h9) rfl dX4_batch_35 ?_
        refine lv_iload_n hx hb dX4_batch_38 rfl (lv_at hl 1 rfl) ?_
        refine lv_bipush (v := iI (((10 : Nat) : Int))) hx hb dX4_batch_39 (by decide +kernel) ?_
        refine rz_mul hx hb dX4_batch_41 ?_
        refine lv_iload_n hx hb dX4_batch_42 rfl (lv_at hl 2 rfl) ?_
        refine rz_add hx hb dX4_batch_43 ?_
        refine rz_as (y := ((t.toNat * 10 + s0.toNat : Nat) : Int)) (by omega) ?_
        refine lv_iload_n hx hb dX4_batch_44 rfl (lv_at hl 3 rfl) ?_
        refine rz_as (y := ((l0.toNat : Nat) : Int)) (by omega) ?_
        have hPc := hP.sub (ws' := [(hB, .inr (0, [.ref qL, .ref qP, .ref qE, .ref qF, .int (iI (((n : Nat) : Int)))])), ce_i qL cI 4 (nZ (ln)), ce_i qP cI 4 (nZ (pl))]) [1, 2, 3] rfl
        have hDc := hD.sub (ws' := [(hB, .inr (0, [.ref qL, .ref qP, .ref qE, .ref qF, .int (iI (((n : Nat) : Int)))])), ce_i qL cI 4 (nZ (ln)), ce_i qP cI 4 (nZ (pl))]) [1, 2, 3] (by decide) rfl
        refine rz_calli (va_runV (As := [.int (iI (((t.toNat * 10 + s0.toNat : Nat) : Int))), .int (iI (((l0.toNat : Nat) : Int)))]) (rest := []) ⟨hx, hb, hml, hown, hts⟩ (k_X0_add l D cI cZ H.size hB qL qP qE qF n ln pl (t.toNat * 10 + s0.toNat) l0.toNat (by omega)) (cwV 2 hts (gG (g_V tm_X4_70 ti_X0_add tse_X0_add tin_X0 cmX0_add)) rfl rfl rfl (by decide +kernel) ⟨Nat.le_of_ble_eq_true rfl, Nat.le_of_ble_eq_true rfl⟩) ⟨cP_blind, va_recv hK hPc (ci := 0) (q0 := 0) rfl rfl, cP_pre hPc hK hN hDc⟩ rfl rfl hl.1 rfl (lv_room (Nat.le_of_ble_eq_true rfl)) dX4_batch_45 ⟨Nat.le_refl _, Nat.le_refl _⟩) hP hD hS hA [1, 2, 3] [0] rfl (wr := [(hX, .inr (4, [.int (iI (((T : Nat) : Int))), .int (iI (((dd : Nat) : Int))), .ref hB, .ref hR, .ref hQ, .ref hF, .ref hC, .int (iI (((no : Nat) : Int))), .int (iI (((sh : Nat) : Int))), .int (iI (((cs : Nat) : Int))), .int (iI (((lc : Nat) : Int))), .long (co)]))]) rfl (by decide) (by decide) (fun z7 w H locs hp hP hD hS => ?_)
        obtain ⟨rfl, rfl⟩ := hp
        have hP : va_P D vwCl [(hX, .inr (4, [.int (iI (((T : Nat) : Int))), .int (iI (((dd : Nat) : Int))), .ref hB, .ref hR, .ref hQ, .ref hF, .ref hC, .int (iI (((no : Nat) : Int))), .int (iI (((sh : Nat) : Int))), .int (iI (((cs : Nat) : Int))), .int (iI (((lc : Nat) : Int))), .long (co)])), (hB, .inr (0, [.ref qL, .ref qP, .ref qE, .ref qF, .int (iI (((n + 1 : Nat) : Int)))])), ce_i qL cI 4 (nZ (uN ln n l0.toNat)), ce_i qP cI 4 (nZ (uN pl n (t.toNat * 10 + s0.toNat)))] H := hP.sub (ws' := [(hX, .inr (4, [.int (iI (((T : Nat) : Int))), .int (iI (((dd : Nat) : Int))), .ref hB, .ref hR, .ref hQ, .ref hF, .ref hC, .int (iI (((no : Nat) : Int))), .int (iI (((sh : Nat) : Int))), .int (iI (((cs : Nat) : Int))), .int (iI (((lc : Nat) : Int))), .long (co)])), (hB, .inr (0, [.ref qL, .ref qP, .ref qE, .ref qF, .int (iI (((n + 1 : Nat) : Int)))])), ce_i qL cI 4 (nZ (uN ln n l0.toNat)), ce_i qP cI 4 (nZ (uN pl n (t.toNat * 10 + s0.toNat)))]) [0, 1, 2, 3] rfl
        have hD : va_D A [(hX, .inr (4, [.int (iI (((T : Nat) : Int))), .int (iI (((dd : Nat) : Int))), .ref hB, .ref hR, .ref hQ, .ref hF, .ref hC, .int (iI (((no : Nat) : Int))), .int (iI (((sh : Nat) : Int))), .int (iI (((cs : Nat) : Int))), .int (iI (((lc : Nat) : Int))), .long (co)])), (hB, .inr (0, [.ref qL, .ref qP, .ref qE, .ref qF, .int (iI (((n + 1 : Nat) : Int)))])), ce_i qL cI 4 (nZ (uN ln n l0.toNat)), ce_i qP cI 4 (nZ (uN pl n (t.toNat * 10 + s0.toNat)))] := hD.sub (ws' := [(hX, .inr (4, [.int (iI (((T : Nat) : Int))), .int (iI (((dd : Nat) : Int))), .ref hB, .ref hR, .ref hQ, .ref hF, .ref hC, .int (iI (((no : Nat) : Int))), .int (iI (((sh : Nat) : Int))), .int (iI (((cs : Nat) : Int))), .int (iI (((lc : Nat) : Int))), .long (co)])), (hB, .inr (0, [.ref qL, .ref qP, .ref qE, .ref qF, .int (iI (((n + 1 : Nat) : Int)))])), ce_i qL cI 4 (nZ (uN ln n l0.toNat)), ce_i qP cI 4 (nZ (uN pl n (t.toNat * 10 + s0.toNat)))]) [0, 1, 2, 3] (by decide) rfl
        exact hret _ _ _ _ _ _ dX4_batch_48 ⟨_, _, _, rfl, (by first | rw [if_neg (by omega)] | rw [if_pos (by omega), if_neg (by omega)] | rw [if_pos (by omega), if_pos (by omega)])⟩ hP hD hS
      · refine lv_bipush (v := iI ((-2 : Int))) hx hb dX4_batch_29 (by decide +kernel) ?_
        refine lv_goto (tgt := 48) hx hb dX4_batch_31 (by decide) ?_
        exact hret _ _ _ _ _ _ dX4_batch_48 ⟨_, _, _, rfl, (by first | rw [if_neg (by omega)] | rw [if_pos (by omega), if_neg (by omega)] | rw [if_pos (by omega), if_pos (by omega)])⟩ hP hD hS
    · refine lv_iconst (v := iI ((-1 : Int))) hx hb dX4_batch_17 (by decide +kernel) ?_
      exact hret _ _ _ _ _ _ dX4_batch_18 ⟨_, _, _, rfl, (by first | rw [if_neg (by omega)] | rw [if_pos (by omega), if_neg (by omega)] | rw [if_pos (by omega), if_pos (by omega)])⟩ hP hD hS
