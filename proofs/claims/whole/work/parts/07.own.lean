/-! the class's own methods, but for run -/
theorem daysF_lt (a b : Int) : daysF a b < 1024 := by
  unfold daysF; split
  · have : 1 * 2 ^ (min b 9 + 1).toNat ≤ 1 * 2 ^ 10 := pw_le (by omega)
    have h2 : 0 < 1 * 2 ^ (max a 0).toNat := by rw [Nat.one_mul]; exact Nat.pow_pos (by decide)
    omega
  · decide
theorem sh_lt {x k : Nat} (h : x < 1024) (hk : k ≤ 20) : x * 2 ^ k < 1073741824 := by
  have h1 : 2 ^ k ≤ 2 ^ 20 := Nat.pow_le_pow_right (by decide) hk
  calc x * 2 ^ k ≤ x * 2 ^ 20 := Nat.mul_le_mul_left x h1
    _ < 1024 * 2 ^ 20 := Nat.mul_lt_mul_of_pos_right h (by decide)
    _ = 1073741824 := by decide

set_option maxHeartbeats 4000000 in
set_option maxRecDepth 100000 in
theorem k_X4_rule (l : Launch) (D : va_G) (cI cZ : ClassId) (sz : Nat) (hX : Nat) (T : Nat) (dd : Nat) (hB : Nat) (hR : Nat) (hQ : Nat) (hF : Nat) (hC : Nat) (no : Nat) (sh : Nat) (cs : Nat) (lc : Nat) (co : Int64) (qL : Nat) (qP : Nat) (qE : Nat) (qF : Nat) (n : Nat) (qK : Nat) (qA : Nat) (qB : Nat) (qN : Nat) (nr : Nat) (rk : Nat → Int) (ra : Nat → Int) (rb : Nat → Int) (rd : Nat → Int) (kd : Int) (a : Int) (b : Int) (d : Int) (hn : n ≤ 4) (hnr : nr ≤ 8) (h_kd : -2147483648 ≤ kd ∧ kd < 2147483648) (h_a : -2147483648 ≤ a ∧ a < 2147483648) (h_b : -2147483648 ≤ b ∧ b < 2147483648) (h_d : -2147483648 ≤ d ∧ d < 2147483648) : Ci l yX4_rule wsX4_rule (rmD 2) D vwCl [(cI, .int), (cZ, .boolean)] [.ref hX, .int (iI (kd)), .int (iI (a)), .int (iI (b)), .int (iI (d))] [(hX, .inr (4, [.int (iI (((T : Nat) : Int))), .int (iI (((dd : Nat) : Int))), .ref hB, .ref hR, .ref hQ, .ref hF, .ref hC, .int (iI (((no : Nat) : Int))), .int (iI (((sh : Nat) : Int))), .int (iI (((cs : Nat) : Int))), .int (iI (((lc : Nat) : Int))), .long (co)])), (hB, .inr (0, [.ref qL, .ref qP, .ref qE, .ref qF, .int (iI (((n : Nat) : Int)))])), (hR, .inr (1, [.ref qK, .ref qA, .ref qB, .ref qN, .int (iI (((nr : Nat) : Int)))])), ce_i qK cI 8 (rk), ce_i qA cI 8 (ra), ce_i qB cI 8 (rb), ce_i qN cI 8 (rd)] sz (fun z w => ∃ nr2 : Nat, ∃ rk2 : Nat → Int, ∃ ra2 : Nat → Int, ∃ rb2 : Nat → Int, ∃ rd2 : Nat → Int, w = [(hX, .inr (4, [.int (iI (((T : Nat) : Int))), .int (iI (((dd : Nat) : Int))), .ref hB, .ref hR, .ref hQ, .ref hF, .ref hC, .int (iI (((no : Nat) : Int))), .int (iI (((sh : Nat) : Int))), .int (iI (((cs : Nat) : Int))), .int (iI (((lc : Nat) : Int))), .long (co)])), (hB, .inr (0, [.ref qL, .ref qP, .ref qE, .ref qF, .int (iI (((n : Nat) : Int)))])), (hR, .inr (1, [.ref qK, .ref qA, .ref qB, .ref qN, .int (iI (((nr2 : Nat) : Int)))])), ce_i qK cI 8 (rk2), ce_i qA cI 8 (ra2), ce_i qB cI 8 (rb2), ce_i qN cI 8 (rd2)] ∧ ((nr2, rk2, ra2, rb2, rd2, z) = (if ((0 ≤ kd ∧ kd ≤ 3) ∧ (0 ≤ a ∧ a < ((n : Nat) : Int)) ∧ (kd ≤ 1 → (0 ≤ b ∧ b < ((n : Nat) : Int) ∧ a ≠ b)) ∧ (kd ≠ 1 → (0 ≤ d ∧ d ≤ 10))) ∧ nr < 8 then (nr + 1, uZ rk nr kd, uZ ra nr a, uZ rb nr b, uZ rd nr d, 1) else (nr, rk, ra, rb, rd, 0)))) 0 0 := by
  refine Cz_of (cc := cX4_rule) (nL := 5) (by decide) rfl (Nat.le_of_ble_eq_true rfl) ?_
  intro p e s m below meth c A Q hsz C hK hN hA hP hD hS hret ls hl
  obtain ⟨hx, hb, hml, hown, hts⟩ := id C
  have hown : s.vm.findClass RX4 = some m.cls := hown
  have hl : lv_has ls 5 [(0, .ref hX), (1, .int (iI (kd))), (2, .int (iI (a))), (3, .int (iI (b))), (4, .int (iI (d)))] := hl
  have in_X4 : ∀ w ∈ u_ws RX4 TX4 12, w ∈ wsX4_rule := fun w h => List.mem_cons_of_mem _ (inX4 w h)
  refine lv_aload_n hx hb dX4_rule_0 rfl (lv_at hl 0 rfl) ?_
  refine lv_iload_n hx hb dX4_rule_1 rfl (lv_at hl 1 rfl) ?_
  refine lv_iload_n hx hb dX4_rule_2 rfl (lv_at hl 2 rfl) ?_
  refine lv_iload_n hx hb dX4_rule_3 rfl (lv_at hl 3 rfl) ?_
  refine lv_iload hx hb dX4_rule_4 (lv_at hl 4 rfl) ?_
  have hPc := hP.sub (ws' := [(hX, .inr (4, [.int (iI (((T : Nat) : Int))), .int (iI (((dd : Nat) : Int))), .ref hB, .ref hR, .ref hQ, .ref hF, .ref hC, .int (iI (((no : Nat) : Int))), .int (iI (((sh : Nat) : Int))), .int (iI (((cs : Nat) : Int))), .int (iI (((lc : Nat) : Int))), .long (co)])), (hB, .inr (0, [.ref qL, .ref qP, .ref qE, .ref qF, .int (iI (((n : Nat) : Int)))]))]) [0, 1] rfl
  have hDc := hD.sub (ws' := [(hX, .inr (4, [.int (iI (((T : Nat) : Int))), .int (iI (((dd : Nat) : Int))), .ref hB, .ref hR, .ref hQ, .ref hF, .ref hC, .int (iI (((no : Nat) : Int))), .int (iI (((sh : Nat) : Int))), .int (iI (((cs : Nat) : Int))), .int (iI (((lc : Nat) : Int))), .long (co)])), (hB, .inr (0, [.ref qL, .ref qP, .ref qE, .ref qF, .int (iI (((n : Nat) : Int)))]))]) [0, 1] (by decide) rfl
  refine rz_calliR (va_runV (As := [.int (iI (kd)), .int (iI (a)), .int (iI (b)), .int (iI (d))]) (rest := []) ⟨hx, hb, hml, hown, hts⟩ (k_X4_isRule l D cI cZ s.heap.size hX T dd hB hR hQ hF hC no sh cs lc co qL qP qE qF n kd a b d (by omega) (by omega) (by omega) (by omega) (by omega)) (cwV 4 hts (gG (g_V tm_X4_73 ti_X4_isRule tse_X4_isRule tin_X4 cmX4_isRule)) rfl rfl rfl (by decide +kernel) ⟨Nat.le_of_ble_eq_true rfl, Nat.le_of_ble_eq_true rfl⟩) ⟨cP_blind, va_recv hK hPc (ci := 4) (q0 := 0) rfl rfl, cP_pre hPc hK hN hDc⟩ rfl rfl hl.1 rfl (lv_room (Nat.le_of_ble_eq_true rfl)) dX4_rule_6 ⟨Nat.le_refl _, Nat.le_refl _⟩) hP hD hS hA [0, 1] rfl (fun z1 H locs hp hP hS => ?_)
  subst hp
  refine rz_beqD (P := ((0 ≤ kd ∧ kd ≤ 3) ∧ (0 ≤ a ∧ a < ((n : Nat) : Int)) ∧ (kd ≤ 1 → (0 ≤ b ∧ b < ((n : Nat) : Int) ∧ a ≠ b)) ∧ (kd ≠ 1 → (0 ≤ d ∧ d ≤ 10)))) (tgt := 22) hx hb dX4_rule_9 (by decide) (fun c2 => ?_) (fun c2 => ?_)
  · refine lv_iconst (v := iI (((0 : Nat) : Int))) hx hb dX4_rule_22 (by decide +kernel) ?_
    exact hret _ _ _ _ _ _ dX4_rule_23 (Or.inl rfl) ⟨_, _, _, _, _, rfl, (by first | rw [if_neg (by omega)]; rfl | rw [if_pos (by omega)]; rfl)⟩ hP hD hS
  · refine lv_aload_n hx hb dX4_rule_12 rfl (lv_at hl 0 rfl) ?_
    refine va_get (D := D) (ci := 4) (v := .ref hR) (C := RX4) (T := TX4) (N := 12) hx hb hts in_X4 hown hK hP 0 rfl rfl 3 (by decide) (hts _ (List.mem_cons_of_mem _ tf_X4_19)) (fun _ h9 => h9) rfl dX4_rule_13 ?_
    have hPc := hP.sub (ws' := [(hR, .inr (1, [.ref qK, .ref qA, .ref qB, .ref qN, .int (iI (((nr : Nat) : Int)))]))]) [2] rfl
    have hDc := hD.sub (ws' := [(hR, .inr (1, [.ref qK, .ref qA, .ref qB, .ref qN, .int (iI (((nr : Nat) : Int)))]))]) [2] (by decide) rfl
    refine rz_calliR (va_runV (As := []) (rest := []) ⟨hx, hb, hml, hown, hts⟩ (k_X1_isFull l D cI cZ H.size hR qK qA qB qN nr (by omega)) (cwV 0 hts (gG (g_V tm_X4_77 ti_X1_isFull tse_X1_isFull tin_X1 cmX1_isFull)) rfl rfl rfl (by decide +kernel) ⟨Nat.le_of_ble_eq_true rfl, Nat.le_of_ble_eq_true rfl⟩) ⟨cP_blind, va_recv hK hPc (ci := 1) (q0 := 0) rfl rfl, cP_pre hPc hK hN hDc⟩ rfl rfl hl.1 rfl (lv_room (Nat.le_of_ble_eq_true rfl)) dX4_rule_16 ⟨Nat.le_refl _, Nat.le_refl _⟩) hP hD hS hA [2] rfl (fun z3 H locs hp hP hS => ?_)
    subst hp
    refine rz_beqD (P := (8 ≤ nr)) (tgt := 24) hx hb dX4_rule_19 (by decide) (fun c4 => ?_) (fun c4 => ?_)
    · refine lv_aload_n hx hb dX4_rule_24 rfl (lv_at hl 0 rfl) ?_
      refine va_get (D := D) (ci := 4) (v := .ref hR) (C := RX4) (T := TX4) (N := 12) hx hb hts in_X4 hown hK hP 0 rfl rfl 3 (by decide) (hts _ (List.mem_cons_of_mem _ tf_X4_19)) (fun _ h9 => h9) rfl dX4_rule_25 ?_
      refine lv_iload_n hx hb dX4_rule_28 rfl (lv_at hl 1 rfl) ?_
      refine lv_iload_n hx hb dX4_rule_29 rfl (lv_at hl 2 rfl) ?_
      refine lv_iload_n hx hb dX4_rule_30 rfl (lv_at hl 3 rfl) ?_
      refine lv_iload hx hb dX4_rule_31 (lv_at hl 4 rfl) ?_
      have hPc := hP.sub (ws' := [(hR, .inr (1, [.ref qK, .ref qA, .ref qB, .ref qN, .int (iI (((nr : Nat) : Int)))])), ce_i qK cI 8 (rk), ce_i qA cI 8 (ra), ce_i qB cI 8 (rb), ce_i qN cI 8 (rd)]) [2, 3, 4, 5, 6] rfl
      have hDc := hD.sub (ws' := [(hR, .inr (1, [.ref qK, .ref qA, .ref qB, .ref qN, .int (iI (((nr : Nat) : Int)))])), ce_i qK cI 8 (rk), ce_i qA cI 8 (ra), ce_i qB cI 8 (rb), ce_i qN cI 8 (rd)]) [2, 3, 4, 5, 6] (by decide) rfl
      refine rz_callv (va_runV (As := [.int (iI (kd)), .int (iI (a)), .int (iI (b)), .int (iI (d))]) (rest := []) ⟨hx, hb, hml, hown, hts⟩ (k_X1_add l D cI cZ H.size hR qK qA qB qN nr rk ra rb rd kd a b d (by omega)) (cwV 4 hts (gG (g_V tm_X4_78 ti_X1_add tse_X1_add tin_X1 cmX1_add)) rfl rfl rfl (by decide +kernel) ⟨Nat.le_of_ble_eq_true rfl, Nat.le_of_ble_eq_true rfl⟩) ⟨cP_blind, va_recv hK hPc (ci := 1) (q0 := 0) rfl rfl, cP_pre hPc hK hN hDc⟩ rfl rfl hl.1 rfl (lv_room (Nat.le_of_ble_eq_true rfl)) dX4_rule_33 ⟨Nat.le_refl _, Nat.le_refl _⟩) hP hD hS hA [2, 3, 4, 5, 6] [0, 1] rfl (wr := [(hX, .inr (4, [.int (iI (((T : Nat) : Int))), .int (iI (((dd : Nat) : Int))), .ref hB, .ref hR, .ref hQ, .ref hF, .ref hC, .int (iI (((no : Nat) : Int))), .int (iI (((sh : Nat) : Int))), .int (iI (((cs : Nat) : Int))), .int (iI (((lc : Nat) : Int))), .long (co)])), (hB, .inr (0, [.ref qL, .ref qP, .ref qE, .ref qF, .int (iI (((n : Nat) : Int)))]))]) rfl (by decide) (by decide) (fun w H locs hp hP hD hS => ?_)
      subst hp
      have hP : va_P D vwCl [(hX, .inr (4, [.int (iI (((T : Nat) : Int))), .int (iI (((dd : Nat) : Int))), .ref hB, .ref hR, .ref hQ, .ref hF, .ref hC, .int (iI (((no : Nat) : Int))), .int (iI (((sh : Nat) : Int))), .int (iI (((cs : Nat) : Int))), .int (iI (((lc : Nat) : Int))), .long (co)])), (hB, .inr (0, [.ref qL, .ref qP, .ref qE, .ref qF, .int (iI (((n : Nat) : Int)))])), (hR, .inr (1, [.ref qK, .ref qA, .ref qB, .ref qN, .int (iI (((nr + 1 : Nat) : Int)))])), ce_i qK cI 8 (uZ rk nr kd), ce_i qA cI 8 (uZ ra nr a), ce_i qB cI 8 (uZ rb nr b), ce_i qN cI 8 (uZ rd nr d)] H := hP.sub (ws' := [(hX, .inr (4, [.int (iI (((T : Nat) : Int))), .int (iI (((dd : Nat) : Int))), .ref hB, .ref hR, .ref hQ, .ref hF, .ref hC, .int (iI (((no : Nat) : Int))), .int (iI (((sh : Nat) : Int))), .int (iI (((cs : Nat) : Int))), .int (iI (((lc : Nat) : Int))), .long (co)])), (hB, .inr (0, [.ref qL, .ref qP, .ref qE, .ref qF, .int (iI (((n : Nat) : Int)))])), (hR, .inr (1, [.ref qK, .ref qA, .ref qB, .ref qN, .int (iI (((nr + 1 : Nat) : Int)))])), ce_i qK cI 8 (uZ rk nr kd), ce_i qA cI 8 (uZ ra nr a), ce_i qB cI 8 (uZ rb nr b), ce_i qN cI 8 (uZ rd nr d)]) [0, 1, 2, 3, 4, 5, 6] rfl
      have hD : va_D A [(hX, .inr (4, [.int (iI (((T : Nat) : Int))), .int (iI (((dd : Nat) : Int))), .ref hB, .ref hR, .ref hQ, .ref hF, .ref hC, .int (iI (((no : Nat) : Int))), .int (iI (((sh : Nat) : Int))), .int (iI (((cs : Nat) : Int))), .int (iI (((lc : Nat) : Int))), .long (co)])), (hB, .inr (0, [.ref qL, .ref qP, .ref qE, .ref qF, .int (iI (((n : Nat) : Int)))])), (hR, .inr (1, [.ref qK, .ref qA, .ref qB, .ref qN, .int (iI (((nr + 1 : Nat) : Int)))])), ce_i qK cI 8 (uZ rk nr kd), ce_i qA cI 8 (uZ ra nr a), ce_i qB cI 8 (uZ rb nr b), ce_i qN cI 8 (uZ rd nr d)] := hD.sub (ws' := [(hX, .inr (4, [.int (iI (((T : Nat) : Int))), .int (iI (((dd : Nat) : Int))), .ref hB, .ref hR, .ref hQ, .ref hF, .ref hC, .int (iI (((no : Nat) : Int))), .int (iI (((sh : Nat) : Int))), .int (iI (((cs : Nat) : Int))), .int (iI (((lc : Nat) : Int))), .long (co)])), (hB, .inr (0, [.ref qL, .ref qP, .ref qE, .ref qF, .int (iI (((n : Nat) : Int)))])), (hR, .inr (1, [.ref qK, .ref qA, .ref qB, .ref qN, .int (iI (((nr + 1 : Nat) : Int)))])), ce_i qK cI 8 (uZ rk nr kd), ce_i qA cI 8 (uZ ra nr a), ce_i qB cI 8 (uZ rb nr b), ce_i qN cI 8 (uZ rd nr d)]) [0, 1, 2, 3, 4, 5, 6] (by decide) rfl
      refine lv_iconst (v := iI (((1 : Nat) : Int))) hx hb dX4_rule_36 (by decide +kernel) ?_
      exact hret _ _ _ _ _ _ dX4_rule_37 (Or.inr rfl) ⟨_, _, _, _, _, rfl, (by first | rw [if_neg (by omega)]; rfl | rw [if_pos (by omega)]; rfl)⟩ hP hD hS
    · refine lv_iconst (v := iI (((0 : Nat) : Int))) hx hb dX4_rule_22 (by decide +kernel) ?_
      exact hret _ _ _ _ _ _ dX4_rule_23 (Or.inl rfl) ⟨_, _, _, _, _, rfl, (by first | rw [if_neg (by omega)]; rfl | rw [if_pos (by omega)]; rfl)⟩ hP hD hS

set_option maxHeartbeats 4000000 in
set_option maxRecDepth 100000 in
theorem k_X4_freeze (l : Launch) (D : va_G) (cI cZ : ClassId) (sz : Nat) (hX : Nat) (T : Nat) (dd : Nat) (hB : Nat) (hR : Nat) (hQ : Nat) (hF : Nat) (hC : Nat) (no : Nat) (sh : Nat) (cs : Nat) (lc : Nat) (co : Int64) (qL : Nat) (qP : Nat) (qE : Nat) (qF : Nat) (n : Nat) (fz : Nat → Bool) (k : Int) (hn : n ≤ 4) (hk : -2147483648 ≤ k ∧ k < 2147483648) : Ci l yX4_freeze wsX4_freeze (rmD 1) D vwCl [(cI, .int), (cZ, .boolean)] [.ref hX, .int (iI (k))] [(hX, .inr (4, [.int (iI (((T : Nat) : Int))), .int (iI (((dd : Nat) : Int))), .ref hB, .ref hR, .ref hQ, .ref hF, .ref hC, .int (iI (((no : Nat) : Int))), .int (iI (((sh : Nat) : Int))), .int (iI (((cs : Nat) : Int))), .int (iI (((lc : Nat) : Int))), .long (co)])), (hB, .inr (0, [.ref qL, .ref qP, .ref qE, .ref qF, .int (iI (((n : Nat) : Int)))])), ce_i qF cZ 4 (bZ (fz))] sz (fun z w => ∃ fz2 : Nat → Bool, w = [(hX, .inr (4, [.int (iI (((T : Nat) : Int))), .int (iI (((dd : Nat) : Int))), .ref hB, .ref hR, .ref hQ, .ref hF, .ref hC, .int (iI (((no : Nat) : Int))), .int (iI (((sh : Nat) : Int))), .int (iI (((cs : Nat) : Int))), .int (iI (((lc : Nat) : Int))), .long (co)])), (hB, .inr (0, [.ref qL, .ref qP, .ref qE, .ref qF, .int (iI (((n : Nat) : Int)))])), ce_i qF cZ 4 (bZ (fz2))] ∧ ((fz2, z) = (if (0 ≤ k ∧ k < ((n : Nat) : Int)) ∧ fz k.toNat = false then (uB fz k.toNat true, 1) else (fz, 0)))) 0 0 := by
  refine Cz_of (cc := cX4_freeze) (nL := 2) (by decide) rfl (Nat.le_of_ble_eq_true rfl) ?_
  intro p e s m below meth c A Q hsz C hK hN hA hP hD hS hret ls hl
  obtain ⟨hx, hb, hml, hown, hts⟩ := id C
  have hown : s.vm.findClass RX4 = some m.cls := hown
  have hl : lv_has ls 2 [(0, .ref hX), (1, .int (iI (k)))] := hl
  have in_X4 : ∀ w ∈ u_ws RX4 TX4 12, w ∈ wsX4_freeze := fun w h => List.mem_cons_of_mem _ (inX4 w h)
  have in_X0 : ∀ w ∈ u_ws RX0 TX0 5, w ∈ wsX4_freeze := fun w h => List.mem_cons_of_mem _ (inX0 w h)
  refine lv_aload_n hx hb dX4_freeze_0 rfl (lv_at hl 0 rfl) ?_
  refine va_get (D := D) (ci := 4) (v := .ref hB) (C := RX4) (T := TX4) (N := 12) hx hb hts in_X4 hown hK hP 0 rfl rfl 2 (by decide) (hts _ (List.mem_cons_of_mem _ tf_X4_12)) (fun _ h9 => h9) rfl dX4_freeze_1 ?_
  refine lv_iload_n hx hb dX4_freeze_4 rfl (lv_at hl 1 rfl) ?_
  have hPc := hP.sub (ws' := [(hB, .inr (0, [.ref qL, .ref qP, .ref qE, .ref qF, .int (iI (((n : Nat) : Int)))]))]) [1] rfl
  have hDc := hD.sub (ws' := [(hB, .inr (0, [.ref qL, .ref qP, .ref qE, .ref qF, .int (iI (((n : Nat) : Int)))]))]) [1] (by decide) rfl
  refine rz_calliR (va_runV (As := [.int (iI (k))]) (rest := []) ⟨hx, hb, hml, hown, hts⟩ (k_X0_has l D cI cZ s.heap.size hB qL qP qE qF n k (by omega) (by omega)) (cwV 1 hts (gG (g_V tm_X4_81 ti_X0_has tse_X0_has tin_X0 cmX0_has)) rfl rfl rfl (by decide +kernel) ⟨Nat.le_of_ble_eq_true rfl, Nat.le_of_ble_eq_true rfl⟩) ⟨cP_blind, va_recv hK hPc (ci := 0) (q0 := 0) rfl rfl, cP_pre hPc hK hN hDc⟩ rfl rfl hl.1 rfl (lv_room (Nat.le_of_ble_eq_true rfl)) dX4_freeze_5 ⟨Nat.le_refl _, Nat.le_refl _⟩) hP hD hS hA [1] rfl (fun z1 H locs hp hP hS => ?_)
  subst hp
  refine rz_beqD (P := (0 ≤ k ∧ k < ((n : Nat) : Int))) (tgt := 23) hx hb dX4_freeze_8 (by decide) (fun c2 => ?_) (fun c2 => ?_)
  · refine lv_iconst (v := iI (((0 : Nat) : Int))) hx hb dX4_freeze_23 (by decide +kernel) ?_
    exact hret _ _ _ _ _ _ dX4_freeze_24 (Or.inl rfl) ⟨_, rfl, (by first | rw [if_neg (by omega)]; rfl | rw [if_pos ⟨by omega, by assumption⟩]; rfl | (rw [if_neg (fun h => by simp_all)]; rfl))⟩ hP hD hS
  · refine lv_aload_n hx hb dX4_freeze_11 rfl (lv_at hl 0 rfl) ?_
    refine va_get (D := D) (ci := 4) (v := .ref hB) (C := RX4) (T := TX4) (N := 12) hx hb hts in_X4 hown hK hP 0 rfl rfl 2 (by decide) (hts _ (List.mem_cons_of_mem _ tf_X4_12)) (fun _ h9 => h9) rfl dX4_freeze_12 ?_
    refine va_get (D := D) (ci := 0) (v := .ref qF) (C := RX0) (T := TX0) (N := 5) hx hb hts in_X0 hown hK hP 1 rfl rfl 3 (by decide) (hts _ (List.mem_cons_of_mem _ tf_X4_84)) (fun _ h9 => h9) rfl dX4_freeze_15 ?_
    refine lv_iload_n hx hb dX4_freeze_18 rfl (lv_at hl 1 rfl) ?_
    refine rz_as (y := ((k.toNat : Nat) : Int)) (by omega) ?_
    refine rn_zld hx hb hK hP 2 1 rfl rfl (by omega) (by omega) dX4_freeze_19 ?_
    refine rz_beq (z := fz k.toNat) (tgt := 25) hx hb dX4_freeze_20 (by decide) (fun c3 => ?_) (fun c3 => ?_)
    · refine lv_aload_n hx hb dX4_freeze_25 rfl (lv_at hl 0 rfl) ?_
      refine va_get (D := D) (ci := 4) (v := .ref hB) (C := RX4) (T := TX4) (N := 12) hx hb hts in_X4 hown hK hP 0 rfl rfl 2 (by decide) (hts _ (List.mem_cons_of_mem _ tf_X4_12)) (fun _ h9 => h9) rfl dX4_freeze_26 ?_
      refine va_get (D := D) (ci := 0) (v := .ref qF) (C := RX0) (T := TX0) (N := 5) hx hb hts in_X0 hown hK hP 1 rfl rfl 3 (by decide) (hts _ (List.mem_cons_of_mem _ tf_X4_84)) (fun _ h9 => h9) rfl dX4_freeze_29 ?_
      refine lv_iload_n hx hb dX4_freeze_32 rfl (lv_at hl 1 rfl) ?_
      refine rz_as (y := ((k.toNat : Nat) : Int)) (by omega) ?_
      refine lv_iconst (v := iI (((1 : Nat) : Int))) hx hb dX4_freeze_33 (by decide +kernel) ?_
      refine rz_as (y := b2z (true)) (by decide) ?_
      refine rn_zst (z := true) hx hb hK hP hD hS 2 1 rfl rfl (by omega) (by omega) dX4_freeze_34 (fun H locs hP hD hS => ?_)
      have hP : va_P D vwCl [(hX, .inr (4, [.int (iI (((T : Nat) : Int))), .int (iI (((dd : Nat) : Int))), .ref hB, .ref hR, .ref hQ, .ref hF, .ref hC, .int (iI (((no : Nat) : Int))), .int (iI (((sh : Nat) : Int))), .int (iI (((cs : Nat) : Int))), .int (iI (((lc : Nat) : Int))), .long (co)])), (hB, .inr (0, [.ref qL, .ref qP, .ref qE, .ref qF, .int (iI (((n : Nat) : Int)))])), ce_i qF cZ 4 (bZ (uB fz k.toNat true))] H := hP
      have hD : va_D A [(hX, .inr (4, [.int (iI (((T : Nat) : Int))), .int (iI (((dd : Nat) : Int))), .ref hB, .ref hR, .ref hQ, .ref hF, .ref hC, .int (iI (((no : Nat) : Int))), .int (iI (((sh : Nat) : Int))), .int (iI (((cs : Nat) : Int))), .int (iI (((lc : Nat) : Int))), .long (co)])), (hB, .inr (0, [.ref qL, .ref qP, .ref qE, .ref qF, .int (iI (((n : Nat) : Int)))])), ce_i qF cZ 4 (bZ (uB fz k.toNat true))] := hD
      refine lv_iconst (v := iI (((1 : Nat) : Int))) hx hb dX4_freeze_35 (by decide +kernel) ?_
      exact hret _ _ _ _ _ _ dX4_freeze_36 (Or.inr rfl) ⟨_, rfl, (by first | rw [if_neg (by omega)]; rfl | rw [if_pos ⟨by omega, by assumption⟩]; rfl | (rw [if_neg (fun h => by simp_all)]; rfl))⟩ hP hD hS
    · refine lv_iconst (v := iI (((0 : Nat) : Int))) hx hb dX4_freeze_23 (by decide +kernel) ?_
      exact hret _ _ _ _ _ _ dX4_freeze_24 (Or.inl rfl) ⟨_, rfl, (by first | rw [if_neg (by omega)]; rfl | rw [if_pos ⟨by omega, by assumption⟩]; rfl | (rw [if_neg (fun h => by simp_all)]; rfl))⟩ hP hD hS

set_option maxHeartbeats 4000000 in
set_option maxRecDepth 100000 in
theorem k_X4_out (l : Launch) (D : va_G) (cI cZ : ClassId) (sz : Nat) (hX : Nat) (T : Nat) (dd : Nat) (hB : Nat) (hR : Nat) (hQ : Nat) (hF : Nat) (hC : Nat) (no : Nat) (sh : Nat) (cs : Nat) (lc : Nat) (co : Int64) (t : Int) (f : Int) (o : Int) (hT : 1 ≤ T ∧ T ≤ 3) (hdd : 1 ≤ dd ∧ dd ≤ 10) (hno : no ≤ 12) (h_t : -2147483648 ≤ t ∧ t < 2147483648) (h_f : -2147483648 ≤ f ∧ f < 2147483648) (h_o : -2147483648 ≤ o ∧ o < 2147483648) : Ci l yX4_out wsX4_out (rmD 2) D vwCl [(cI, .int), (cZ, .boolean)] [.ref hX, .int (iI (t)), .int (iI (f)), .int (iI (o))] [(hX, .inr (4, [.int (iI (((T : Nat) : Int))), .int (iI (((dd : Nat) : Int))), .ref hB, .ref hR, .ref hQ, .ref hF, .ref hC, .int (iI (((no : Nat) : Int))), .int (iI (((sh : Nat) : Int))), .int (iI (((cs : Nat) : Int))), .int (iI (((lc : Nat) : Int))), .long (co)]))] sz (fun z w => ∃ no2 : Nat, ∃ sh2 : Nat, w = [(hX, .inr (4, [.int (iI (((T : Nat) : Int))), .int (iI (((dd : Nat) : Int))), .ref hB, .ref hR, .ref hQ, .ref hF, .ref hC, .int (iI (((no2 : Nat) : Int))), .int (iI (((sh2 : Nat) : Int))), .int (iI (((cs : Nat) : Int))), .int (iI (((lc : Nat) : Int))), .long (co)]))] ∧ ((no2, sh2, z) = (if (0 ≤ t ∧ t < ((T : Nat) : Int)) ∧ (0 ≤ f ∧ f < o ∧ o ≤ ((dd : Nat) : Int)) ∧ no < 12 then (no + 1, sh ||| daysF f (o - ((1 : Nat) : Int)) * 2 ^ (t.toNat * 10), 1) else (no, sh, 0)))) 0 0 := by
  refine Cz_of (cc := cX4_out) (nL := 4) (by decide) rfl (Nat.le_of_ble_eq_true rfl) ?_
  intro p e s m below meth c A Q hsz C hK hN hA hP hD hS hret ls hl
  obtain ⟨hx, hb, hml, hown, hts⟩ := id C
  have hown : s.vm.findClass RX4 = some m.cls := hown
  have hl : lv_has ls 4 [(0, .ref hX), (1, .int (iI (t))), (2, .int (iI (f))), (3, .int (iI (o)))] := hl
  have in_X4 : ∀ w ∈ u_ws RX4 TX4 12, w ∈ wsX4_out := fun w h => List.mem_cons_of_mem _ (inX4 w h)
  refine lv_aload_n hx hb dX4_out_0 rfl (lv_at hl 0 rfl) ?_
  refine lv_iload_n hx hb dX4_out_1 rfl (lv_at hl 1 rfl) ?_
  have hPc := hP.sub (ws' := [(hX, .inr (4, [.int (iI (((T : Nat) : Int))), .int (iI (((dd : Nat) : Int))), .ref hB, .ref hR, .ref hQ, .ref hF, .ref hC, .int (iI (((no : Nat) : Int))), .int (iI (((sh : Nat) : Int))), .int (iI (((cs : Nat) : Int))), .int (iI (((lc : Nat) : Int))), .long (co)]))]) [0] rfl
  have hDc := hD.sub (ws' := [(hX, .inr (4, [.int (iI (((T : Nat) : Int))), .int (iI (((dd : Nat) : Int))), .ref hB, .ref hR, .ref hQ, .ref hF, .ref hC, .int (iI (((no : Nat) : Int))), .int (iI (((sh : Nat) : Int))), .int (iI (((cs : Nat) : Int))), .int (iI (((lc : Nat) : Int))), .long (co)]))]) [0] (by decide) rfl
  refine rz_calliR (va_runV (As := [.int (iI (t))]) (rest := []) ⟨hx, hb, hml, hown, hts⟩ (k_X4_isTank l D cI cZ s.heap.size hX T dd hB hR hQ hF hC no sh cs lc co t (by omega) (by omega)) (cwV 1 hts (gG (g_V tm_X4_58 ti_X4_isTank tse_X4_isTank tin_X4 cmX4_isTank)) rfl rfl rfl (by decide +kernel) ⟨Nat.le_of_ble_eq_true rfl, Nat.le_of_ble_eq_true rfl⟩) ⟨cP_blind, va_recv hK hPc (ci := 4) (q0 := 0) rfl rfl, cP_pre hPc hK hN hDc⟩ rfl rfl hl.1 rfl (lv_room (Nat.le_of_ble_eq_true rfl)) dX4_out_2 ⟨Nat.le_refl _, Nat.le_refl _⟩) hP hD hS hA [0] rfl (fun z1 H locs hp hP hS => ?_)
  subst hp
  refine rz_beqD (P := (0 ≤ t ∧ t < ((T : Nat) : Int))) (tgt := 34) hx hb dX4_out_5 (by decide) (fun c2 => ?_) (fun c2 => ?_)
  · refine lv_iconst (v := iI (((0 : Nat) : Int))) hx hb dX4_out_34 (by decide +kernel) ?_
    exact hret _ _ _ _ _ _ dX4_out_35 (Or.inl rfl) ⟨_, _, rfl, (by first | rw [if_neg (by omega)]; rfl | rw [if_pos (by omega)]; rfl)⟩ hP hD hS
  · refine lv_iload_n hx hb dX4_out_8 rfl (lv_at hl 2 rfl) ?_
    refine rz_ilt (tgt := 34) hx hb dX4_out_9 (by decide) (by omega) (fun c3 => ?_) (fun c3 => ?_)
    · refine lv_iconst (v := iI (((0 : Nat) : Int))) hx hb dX4_out_34 (by decide +kernel) ?_
      exact hret _ _ _ _ _ _ dX4_out_35 (Or.inl rfl) ⟨_, _, rfl, (by first | rw [if_neg (by omega)]; rfl | rw [if_pos (by omega)]; rfl)⟩ hP hD hS
    · refine lv_iload_n hx hb dX4_out_12 rfl (lv_at hl 2 rfl) ?_
      refine lv_iload_n hx hb dX4_out_13 rfl (lv_at hl 3 rfl) ?_
      refine rz_cge (tgt := 34) hx hb dX4_out_14 (by decide) (by omega) (by omega) (fun c4 => ?_) (fun c4 => ?_)
      · refine lv_iconst (v := iI (((0 : Nat) : Int))) hx hb dX4_out_34 (by decide +kernel) ?_
        exact hret _ _ _ _ _ _ dX4_out_35 (Or.inl rfl) ⟨_, _, rfl, (by first | rw [if_neg (by omega)]; rfl | rw [if_pos (by omega)]; rfl)⟩ hP hD hS
      · refine lv_iload_n hx hb dX4_out_17 rfl (lv_at hl 3 rfl) ?_
        refine lv_aload_n hx hb dX4_out_18 rfl (lv_at hl 0 rfl) ?_
        refine va_get (D := D) (ci := 4) (v := .int (iI (((dd : Nat) : Int)))) (C := RX4) (T := TX4) (N := 12) hx hb hts in_X4 hown hK hP 0 rfl rfl 1 (by decide) (hts _ (List.mem_cons_of_mem _ tf_X4_55)) (fun _ h9 => h9) rfl dX4_out_19 ?_
        refine rz_cgt (tgt := 34) hx hb dX4_out_22 (by decide) (by omega) (by omega) (fun c5 => ?_) (fun c5 => ?_)
        · refine lv_iconst (v := iI (((0 : Nat) : Int))) hx hb dX4_out_34 (by decide +kernel) ?_
          exact hret _ _ _ _ _ _ dX4_out_35 (Or.inl rfl) ⟨_, _, rfl, (by first | rw [if_neg (by omega)]; rfl | rw [if_pos (by omega)]; rfl)⟩ hP hD hS
        · refine lv_aload_n hx hb dX4_out_25 rfl (lv_at hl 0 rfl) ?_
          refine va_get (D := D) (ci := 4) (v := .int (iI (((no : Nat) : Int)))) (C := RX4) (T := TX4) (N := 12) hx hb hts in_X4 hown hK hP 0 rfl rfl 7 (by decide) (hts _ (List.mem_cons_of_mem _ tf_X4_88)) (fun _ h9 => h9) rfl dX4_out_26 ?_
          refine lv_bipush (v := iI (((12 : Nat) : Int))) hx hb dX4_out_29 (by decide +kernel) ?_
          refine rz_clt (tgt := 36) hx hb dX4_out_31 (by decide) (by omega) (by omega) (fun c6 => ?_) (fun c6 => ?_)
          · refine lv_aload_n hx hb dX4_out_36 rfl (lv_at hl 0 rfl) ?_
            refine lv_dup hx hb dX4_out_37 rfl ?_
            refine va_get (D := D) (ci := 4) (v := .int (iI (((no : Nat) : Int)))) (C := RX4) (T := TX4) (N := 12) hx hb hts in_X4 hown hK hP 0 rfl rfl 7 (by decide) (hts _ (List.mem_cons_of_mem _ tf_X4_88)) (fun _ h9 => h9) rfl dX4_out_38 ?_
            refine lv_iconst (v := iI (((1 : Nat) : Int))) hx hb dX4_out_41 (by decide +kernel) ?_
            refine rn_add hx hb dX4_out_42 ?_
            refine va_put (D := D) (ci := 4) (v := .int (iI (((no + 1 : Nat) : Int)))) (ty := .int) (C := RX4) (T := TX4) (N := 12) hx hb hts in_X4 tyX4 tyX4_ok nmX4 hown hK hP hD hS 0 rfl rfl 7 (by decide) (hts _ (List.mem_cons_of_mem _ tf_X4_88)) (fun _ h9 => h9) rfl (by decide +kernel) rfl rfl (Nat.le_of_ble_eq_true rfl) dX4_out_43 (fun H locs hP hD hS => ?_)
            have hP : va_P D vwCl [(hX, .inr (4, [.int (iI (((T : Nat) : Int))), .int (iI (((dd : Nat) : Int))), .ref hB, .ref hR, .ref hQ, .ref hF, .ref hC, .int (iI (((no + 1 : Nat) : Int))), .int (iI (((sh : Nat) : Int))), .int (iI (((cs : Nat) : Int))), .int (iI (((lc : Nat) : Int))), .long (co)]))] H := hP
            have hD : va_D A [(hX, .inr (4, [.int (iI (((T : Nat) : Int))), .int (iI (((dd : Nat) : Int))), .ref hB, .ref hR, .ref hQ, .ref hF, .ref hC, .int (iI (((no + 1 : Nat) : Int))), .int (iI (((sh : Nat) : Int))), .int (iI (((cs : Nat) : Int))), .int (iI (((lc : Nat) : Int))), .long (co)]))] := hD
            refine lv_aload_n hx hb dX4_out_46 rfl (lv_at hl 0 rfl) ?_
            refine lv_dup hx hb dX4_out_47 rfl ?_
            refine va_get (D := D) (ci := 4) (v := .int (iI (((sh : Nat) : Int)))) (C := RX4) (T := TX4) (N := 12) hx hb hts in_X4 hown hK hP 0 rfl rfl 8 (by decide) (hts _ (List.mem_cons_of_mem _ tf_X4_91)) (fun _ h9 => h9) rfl dX4_out_48 ?_
            refine lv_iload_n hx hb dX4_out_51 rfl (lv_at hl 2 rfl) ?_
            refine lv_iload_n hx hb dX4_out_52 rfl (lv_at hl 3 rfl) ?_
            refine lv_iconst (v := iI (((1 : Nat) : Int))) hx hb dX4_out_53 (by decide +kernel) ?_
            refine rz_sub hx hb dX4_out_54 ?_
            have hPc := hP.sub (ws' := []) [] rfl
            have hDc := hD.sub (ws' := []) [] (by decide) rfl
            refine rz_calliR (va_runS (As := [.int (iI (f)), .int (iI (o - ((1 : Nat) : Int)))]) (rest := [.int (iI (((sh : Nat) : Int))), .ref hX]) ⟨hx, hb, hml, hown, hts⟩ (k_X4_daysFromTo l D cI cZ H.size f (o - ((1 : Nat) : Int)) (by omega) (by omega)) (va_cwS 2 hts (gG (g_S tm_X4_94 ts_X4_daysFromTo tin_X4 cmX4_daysFromTo)) rfl rfl rfl (by decide +kernel) ⟨Nat.le_of_ble_eq_true rfl, Nat.le_of_ble_eq_true rfl⟩) ⟨cP_blind, cP_pre hPc hK hN hDc⟩ rfl rfl hl.1 rfl (lv_room (Nat.le_of_ble_eq_true rfl)) dX4_out_55 ⟨Nat.le_refl _, Nat.le_refl _⟩) hP hD hS hA [] rfl (fun z7 H locs hp hP hS => ?_)
            subst hp
            refine lv_iload_n hx hb dX4_out_58 rfl (lv_at hl 1 rfl) ?_
            refine lv_bipush (v := iI (((10 : Nat) : Int))) hx hb dX4_out_59 (by decide +kernel) ?_
            refine rz_mul hx hb dX4_out_61 ?_
            refine rz_as (y := ((t.toNat * 10 : Nat) : Int)) (by omega) ?_
            refine rz_shl hx hb dX4_out_62 (by omega) (Nat.lt_trans (sh_lt (daysF_lt _ _) (by omega)) (by decide)) ?_
            refine rz_or hx hb dX4_out_63 ?_
            refine va_put (D := D) (ci := 4) (v := .int (iI (((sh ||| ((daysF f (o - ((1 : Nat) : Int))) * 2 ^ (t.toNat * 10)) : Nat) : Int)))) (ty := .int) (C := RX4) (T := TX4) (N := 12) hx hb hts in_X4 tyX4 tyX4_ok nmX4 hown hK hP hD hS 0 rfl rfl 8 (by decide) (hts _ (List.mem_cons_of_mem _ tf_X4_91)) (fun _ h9 => h9) rfl (by decide +kernel) rfl rfl (Nat.le_of_ble_eq_true rfl) dX4_out_64 (fun H locs hP hD hS => ?_)
            have hP : va_P D vwCl [(hX, .inr (4, [.int (iI (((T : Nat) : Int))), .int (iI (((dd : Nat) : Int))), .ref hB, .ref hR, .ref hQ, .ref hF, .ref hC, .int (iI (((no + 1 : Nat) : Int))), .int (iI (((sh ||| ((daysF f (o - ((1 : Nat) : Int))) * 2 ^ (t.toNat * 10)) : Nat) : Int))), .int (iI (((cs : Nat) : Int))), .int (iI (((lc : Nat) : Int))), .long (co)]))] H := hP
            have hD : va_D A [(hX, .inr (4, [.int (iI (((T : Nat) : Int))), .int (iI (((dd : Nat) : Int))), .ref hB, .ref hR, .ref hQ, .ref hF, .ref hC, .int (iI (((no + 1 : Nat) : Int))), .int (iI (((sh ||| ((daysF f (o - ((1 : Nat) : Int))) * 2 ^ (t.toNat * 10)) : Nat) : Int))), .int (iI (((cs : Nat) : Int))), .int (iI (((lc : Nat) : Int))), .long (co)]))] := hD
            refine lv_iconst (v := iI (((1 : Nat) : Int))) hx hb dX4_out_67 (by decide +kernel) ?_
            exact hret _ _ _ _ _ _ dX4_out_68 (Or.inr rfl) ⟨_, _, rfl, (by first | rw [if_neg (by omega)]; rfl | rw [if_pos (by omega)]; rfl)⟩ hP hD hS
          · refine lv_iconst (v := iI (((0 : Nat) : Int))) hx hb dX4_out_34 (by decide +kernel) ?_
            exact hret _ _ _ _ _ _ dX4_out_35 (Or.inl rfl) ⟨_, _, rfl, (by first | rw [if_neg (by omega)]; rfl | rw [if_pos (by omega)]; rfl)⟩ hP hD hS

set_option maxHeartbeats 4000000 in
set_option maxRecDepth 100000 in
theorem k_X4_late (l : Launch) (D : va_G) (cI cZ : ClassId) (sz : Nat) (hX : Nat) (T : Nat) (dd : Nat) (hB : Nat) (hR : Nat) (hQ : Nat) (hF : Nat) (hC : Nat) (no : Nat) (sh : Nat) (cs : Nat) (lc : Nat) (co : Int64) (qL : Nat) (qP : Nat) (qE : Nat) (qF : Nat) (n : Nat) (pl : Nat → Nat) (ea : Nat → Nat) (k : Int) (d : Int) (hn : n ≤ 4) (hpl : ∀ j, pl j < 30) (h_k : -2147483648 ≤ k ∧ k < 2147483648) (h_d : -2147483648 ≤ d ∧ d < 2147483648) : Ci l yX4_late wsX4_late (rmD 1) D vwCl [(cI, .int), (cZ, .boolean)] [.ref hX, .int (iI (k)), .int (iI (d))] [(hX, .inr (4, [.int (iI (((T : Nat) : Int))), .int (iI (((dd : Nat) : Int))), .ref hB, .ref hR, .ref hQ, .ref hF, .ref hC, .int (iI (((no : Nat) : Int))), .int (iI (((sh : Nat) : Int))), .int (iI (((cs : Nat) : Int))), .int (iI (((lc : Nat) : Int))), .long (co)])), (hB, .inr (0, [.ref qL, .ref qP, .ref qE, .ref qF, .int (iI (((n : Nat) : Int)))])), ce_i qP cI 4 (nZ (pl)), ce_i qE cI 4 (nZ (ea))] sz (fun z w => ∃ ea2 : Nat → Nat, w = [(hX, .inr (4, [.int (iI (((T : Nat) : Int))), .int (iI (((dd : Nat) : Int))), .ref hB, .ref hR, .ref hQ, .ref hF, .ref hC, .int (iI (((no : Nat) : Int))), .int (iI (((sh : Nat) : Int))), .int (iI (((cs : Nat) : Int))), .int (iI (((lc : Nat) : Int))), .long (co)])), (hB, .inr (0, [.ref qL, .ref qP, .ref qE, .ref qF, .int (iI (((n : Nat) : Int)))])), ce_i qP cI 4 (nZ (pl)), ce_i qE cI 4 (nZ (ea2))] ∧ ((ea2, z) = (if (0 ≤ k ∧ k < ((n : Nat) : Int)) ∧ (0 ≤ d ∧ d ≤ 10) then (uN ea k.toNat (pl k.toNat % 10 + d.toNat), 1) else (ea, 0)))) 0 0 := by
  refine Cz_of (cc := cX4_late) (nL := 3) (by decide) rfl (Nat.le_of_ble_eq_true rfl) ?_
  intro p e s m below meth c A Q hsz C hK hN hA hP hD hS hret ls hl
  obtain ⟨hx, hb, hml, hown, hts⟩ := id C
  have hown : s.vm.findClass RX4 = some m.cls := hown
  have hl : lv_has ls 3 [(0, .ref hX), (1, .int (iI (k))), (2, .int (iI (d)))] := hl
  have in_X4 : ∀ w ∈ u_ws RX4 TX4 12, w ∈ wsX4_late := fun w h => List.mem_cons_of_mem _ (inX4 w h)
  have in_X0 : ∀ w ∈ u_ws RX0 TX0 5, w ∈ wsX4_late := fun w h => List.mem_cons_of_mem _ (inX0 w h)
  refine lv_aload_n hx hb dX4_late_0 rfl (lv_at hl 0 rfl) ?_
  refine va_get (D := D) (ci := 4) (v := .ref hB) (C := RX4) (T := TX4) (N := 12) hx hb hts in_X4 hown hK hP 0 rfl rfl 2 (by decide) (hts _ (List.mem_cons_of_mem _ tf_X4_12)) (fun _ h9 => h9) rfl dX4_late_1 ?_
  refine lv_iload_n hx hb dX4_late_4 rfl (lv_at hl 1 rfl) ?_
  have hPc := hP.sub (ws' := [(hB, .inr (0, [.ref qL, .ref qP, .ref qE, .ref qF, .int (iI (((n : Nat) : Int)))]))]) [1] rfl
  have hDc := hD.sub (ws' := [(hB, .inr (0, [.ref qL, .ref qP, .ref qE, .ref qF, .int (iI (((n : Nat) : Int)))]))]) [1] (by decide) rfl
  refine rz_calliR (va_runV (As := [.int (iI (k))]) (rest := []) ⟨hx, hb, hml, hown, hts⟩ (k_X0_has l D cI cZ s.heap.size hB qL qP qE qF n k (by omega) (by omega)) (cwV 1 hts (gG (g_V tm_X4_81 ti_X0_has tse_X0_has tin_X0 cmX0_has)) rfl rfl rfl (by decide +kernel) ⟨Nat.le_of_ble_eq_true rfl, Nat.le_of_ble_eq_true rfl⟩) ⟨cP_blind, va_recv hK hPc (ci := 0) (q0 := 0) rfl rfl, cP_pre hPc hK hN hDc⟩ rfl rfl hl.1 rfl (lv_room (Nat.le_of_ble_eq_true rfl)) dX4_late_5 ⟨Nat.le_refl _, Nat.le_refl _⟩) hP hD hS hA [1] rfl (fun z1 H locs hp hP hS => ?_)
  subst hp
  refine rz_beqD (P := (0 ≤ k ∧ k < ((n : Nat) : Int))) (tgt := 18) hx hb dX4_late_8 (by decide) (fun c2 => ?_) (fun c2 => ?_)
  · refine lv_iconst (v := iI (((0 : Nat) : Int))) hx hb dX4_late_18 (by decide +kernel) ?_
    exact hret _ _ _ _ _ _ dX4_late_19 (Or.inl rfl) ⟨_, rfl, (by first | rw [if_neg (by omega)]; rfl | rw [if_pos (by omega)]; rfl)⟩ hP hD hS
  · refine lv_iload_n hx hb dX4_late_11 rfl (lv_at hl 2 rfl) ?_
    have hPc := hP.sub (ws' := []) [] rfl
    have hDc := hD.sub (ws' := []) [] (by decide) rfl
    refine rz_calliR (va_runS (As := [.int (iI (d))]) (rest := []) ⟨hx, hb, hml, hown, hts⟩ (k_X4_isNumber l D cI cZ H.size d (by omega)) (va_cwS 1 hts (gG (g_S tm_X4_97 ts_X4_isNumber tin_X4 cmX4_isNumber)) rfl rfl rfl (by decide +kernel) ⟨Nat.le_of_ble_eq_true rfl, Nat.le_of_ble_eq_true rfl⟩) ⟨cP_blind, cP_pre hPc hK hN hDc⟩ rfl rfl hl.1 rfl (lv_room (Nat.le_of_ble_eq_true rfl)) dX4_late_12 ⟨Nat.le_refl _, Nat.le_refl _⟩) hP hD hS hA [] rfl (fun z3 H locs hp hP hS => ?_)
    subst hp
    refine rz_bneD (P := (0 ≤ d ∧ d ≤ 10)) (tgt := 20) hx hb dX4_late_15 (by decide) (fun c4 => ?_) (fun c4 => ?_)
    · refine lv_aload_n hx hb dX4_late_20 rfl (lv_at hl 0 rfl) ?_
      refine va_get (D := D) (ci := 4) (v := .ref hB) (C := RX4) (T := TX4) (N := 12) hx hb hts in_X4 hown hK hP 0 rfl rfl 2 (by decide) (hts _ (List.mem_cons_of_mem _ tf_X4_12)) (fun _ h9 => h9) rfl dX4_late_21 ?_
      refine va_get (D := D) (ci := 0) (v := .ref qE) (C := RX0) (T := TX0) (N := 5) hx hb hts in_X0 hown hK hP 1 rfl rfl 2 (by decide) (hts _ (List.mem_cons_of_mem _ tf_X4_100)) (fun _ h9 => h9) rfl dX4_late_24 ?_
      refine lv_iload_n hx hb dX4_late_27 rfl (lv_at hl 1 rfl) ?_
      refine rz_as (y := ((k.toNat : Nat) : Int)) (by omega) ?_
      refine lv_aload_n hx hb dX4_late_28 rfl (lv_at hl 0 rfl) ?_
      refine va_get (D := D) (ci := 4) (v := .ref hB) (C := RX4) (T := TX4) (N := 12) hx hb hts in_X4 hown hK hP 0 rfl rfl 2 (by decide) (hts _ (List.mem_cons_of_mem _ tf_X4_12)) (fun _ h9 => h9) rfl dX4_late_29 ?_
      refine va_get (D := D) (ci := 0) (v := .ref qP) (C := RX0) (T := TX0) (N := 5) hx hb hts in_X0 hown hK hP 1 rfl rfl 1 (by decide) (hts _ (List.mem_cons_of_mem _ tf_X4_104)) (fun _ h9 => h9) rfl dX4_late_32 ?_
      refine lv_iload_n hx hb dX4_late_35 rfl (lv_at hl 1 rfl) ?_
      refine rz_as (y := ((k.toNat : Nat) : Int)) (by omega) ?_
      refine rn_aldM hx hb hK hP 2 0 rfl rfl (by omega) (by omega) dX4_late_36 ?_
      have hPc := hP.sub (ws' := []) [] rfl
      have hDc := hD.sub (ws' := []) [] (by decide) rfl
      refine rz_calliR (va_runS (As := [.int (iI (((pl k.toNat : Nat) : Int)))]) (rest := [.int (iI (((k.toNat : Nat) : Int))), .ref qE]) ⟨hx, hb, hml, hown, hts⟩ (k_X4_startOfPlace l D cI cZ H.size (pl k.toNat) (by have := hpl k.toNat; omega)) (va_cwS 1 hts (gG (g_S tm_X4_107 ts_X4_startOfPlace tin_X4 cmX4_startOfPlace)) rfl rfl rfl (by decide +kernel) ⟨Nat.le_of_ble_eq_true rfl, Nat.le_of_ble_eq_true rfl⟩) ⟨cP_blind, cP_pre hPc hK hN hDc⟩ rfl rfl hl.1 rfl (lv_room (Nat.le_of_ble_eq_true rfl)) dX4_late_37 ⟨Nat.le_refl _, Nat.le_refl _⟩) hP hD hS hA [] rfl (fun z5 H locs hp hP hS => ?_)
      subst hp
      refine lv_iload_n hx hb dX4_late_40 rfl (lv_at hl 2 rfl) ?_
      refine rz_add hx hb dX4_late_41 ?_
      refine rz_as (y := ((pl k.toNat % 10 + d.toNat : Nat) : Int)) (by omega) ?_
      refine rn_astM hx hb hK hP hD hS 3 0 rfl rfl (by omega) (by omega) dX4_late_42 (fun H locs hP hD hS => ?_)
      have hP : va_P D vwCl [(hX, .inr (4, [.int (iI (((T : Nat) : Int))), .int (iI (((dd : Nat) : Int))), .ref hB, .ref hR, .ref hQ, .ref hF, .ref hC, .int (iI (((no : Nat) : Int))), .int (iI (((sh : Nat) : Int))), .int (iI (((cs : Nat) : Int))), .int (iI (((lc : Nat) : Int))), .long (co)])), (hB, .inr (0, [.ref qL, .ref qP, .ref qE, .ref qF, .int (iI (((n : Nat) : Int)))])), ce_i qP cI 4 (nZ (pl)), ce_i qE cI 4 (nZ (uN ea k.toNat (pl k.toNat % 10 + d.toNat)))] H := hP
      have hD : va_D A [(hX, .inr (4, [.int (iI (((T : Nat) : Int))), .int (iI (((dd : Nat) : Int))), .ref hB, .ref hR, .ref hQ, .ref hF, .ref hC, .int (iI (((no : Nat) : Int))), .int (iI (((sh : Nat) : Int))), .int (iI (((cs : Nat) : Int))), .int (iI (((lc : Nat) : Int))), .long (co)])), (hB, .inr (0, [.ref qL, .ref qP, .ref qE, .ref qF, .int (iI (((n : Nat) : Int)))])), ce_i qP cI 4 (nZ (pl)), ce_i qE cI 4 (nZ (uN ea k.toNat (pl k.toNat % 10 + d.toNat)))] := hD
      refine lv_iconst (v := iI (((1 : Nat) : Int))) hx hb dX4_late_43 (by decide +kernel) ?_
      exact hret _ _ _ _ _ _ dX4_late_44 (Or.inr rfl) ⟨_, rfl, (by first | rw [if_neg (by omega)]; rfl | rw [if_pos (by omega)]; rfl)⟩ hP hD hS
    · refine lv_iconst (v := iI (((0 : Nat) : Int))) hx hb dX4_late_18 (by decide +kernel) ?_
      exact hret _ _ _ _ _ _ dX4_late_19 (Or.inl rfl) ⟨_, rfl, (by first | rw [if_neg (by omega)]; rfl | rw [if_pos (by omega)]; rfl)⟩ hP hD hS

set_option maxHeartbeats 4000000 in
set_option maxRecDepth 100000 in
theorem k_X4_tankOf (l : Launch) (D : va_G) (cI cZ : ClassId) (sz : Nat) (hX : Nat) (T : Nat) (dd : Nat) (hB : Nat) (hR : Nat) (hQ : Nat) (hF : Nat) (hC : Nat) (no : Nat) (sh : Nat) (cs : Nat) (lc : Nat) (co : Int64) (qL : Nat) (qP : Nat) (qE : Nat) (qF : Nat) (n : Nat) (pl : Nat → Nat) (k : Int) (hn : n ≤ 4) (hpl : ∀ j, pl j < 30) (hk : -2147483648 ≤ k ∧ k < 2147483648) : Ci l yX4_tankOf wsX4_tankOf (rmD 1) D vwCl [(cI, .int), (cZ, .boolean)] [.ref hX, .int (iI (k))] [(hX, .inr (4, [.int (iI (((T : Nat) : Int))), .int (iI (((dd : Nat) : Int))), .ref hB, .ref hR, .ref hQ, .ref hF, .ref hC, .int (iI (((no : Nat) : Int))), .int (iI (((sh : Nat) : Int))), .int (iI (((cs : Nat) : Int))), .int (iI (((lc : Nat) : Int))), .long (co)])), (hB, .inr (0, [.ref qL, .ref qP, .ref qE, .ref qF, .int (iI (((n : Nat) : Int)))])), ce_i qP cI 4 (nZ (pl))] sz (fun z w => w = [(hX, .inr (4, [.int (iI (((T : Nat) : Int))), .int (iI (((dd : Nat) : Int))), .ref hB, .ref hR, .ref hQ, .ref hF, .ref hC, .int (iI (((no : Nat) : Int))), .int (iI (((sh : Nat) : Int))), .int (iI (((cs : Nat) : Int))), .int (iI (((lc : Nat) : Int))), .long (co)])), (hB, .inr (0, [.ref qL, .ref qP, .ref qE, .ref qF, .int (iI (((n : Nat) : Int)))])), ce_i qP cI 4 (nZ (pl))] ∧ (z = (if 0 ≤ k ∧ k < ((n : Nat) : Int) then ((pl k.toNat / 10 : Nat) : Int) else -1))) 0 0 := by
  refine Ci_of (cc := cX4_tankOf) (nL := 2) (by decide) rfl (Nat.le_of_ble_eq_true rfl) ?_
  intro p e s m below meth c A Q hsz C hK hN hA hP hD hS hret ls hl
  obtain ⟨hx, hb, hml, hown, hts⟩ := id C
  have hown : s.vm.findClass RX4 = some m.cls := hown
  have hl : lv_has ls 2 [(0, .ref hX), (1, .int (iI (k)))] := hl
  have in_X4 : ∀ w ∈ u_ws RX4 TX4 12, w ∈ wsX4_tankOf := fun w h => List.mem_cons_of_mem _ (inX4 w h)
  have in_X0 : ∀ w ∈ u_ws RX0 TX0 5, w ∈ wsX4_tankOf := fun w h => List.mem_cons_of_mem _ (inX0 w h)
  refine lv_aload_n hx hb dX4_tankOf_0 rfl (lv_at hl 0 rfl) ?_
  refine va_get (D := D) (ci := 4) (v := .ref hB) (C := RX4) (T := TX4) (N := 12) hx hb hts in_X4 hown hK hP 0 rfl rfl 2 (by decide) (hts _ (List.mem_cons_of_mem _ tf_X4_12)) (fun _ h9 => h9) rfl dX4_tankOf_1 ?_
  refine lv_iload_n hx hb dX4_tankOf_4 rfl (lv_at hl 1 rfl) ?_
  have hPc := hP.sub (ws' := [(hB, .inr (0, [.ref qL, .ref qP, .ref qE, .ref qF, .int (iI (((n : Nat) : Int)))]))]) [1] rfl
  have hDc := hD.sub (ws' := [(hB, .inr (0, [.ref qL, .ref qP, .ref qE, .ref qF, .int (iI (((n : Nat) : Int)))]))]) [1] (by decide) rfl
  refine rz_calliR (va_runV (As := [.int (iI (k))]) (rest := []) ⟨hx, hb, hml, hown, hts⟩ (k_X0_has l D cI cZ s.heap.size hB qL qP qE qF n k (by omega) (by omega)) (cwV 1 hts (gG (g_V tm_X4_81 ti_X0_has tse_X0_has tin_X0 cmX0_has)) rfl rfl rfl (by decide +kernel) ⟨Nat.le_of_ble_eq_true rfl, Nat.le_of_ble_eq_true rfl⟩) ⟨cP_blind, va_recv hK hPc (ci := 0) (q0 := 0) rfl rfl, cP_pre hPc hK hN hDc⟩ rfl rfl hl.1 rfl (lv_room (Nat.le_of_ble_eq_true rfl)) dX4_tankOf_5 ⟨Nat.le_refl _, Nat.le_refl _⟩) hP hD hS hA [1] rfl (fun z1 H locs hp hP hS => ?_)
  subst hp
  refine rz_beqD (P := (0 ≤ k ∧ k < ((n : Nat) : Int))) (tgt := 26) hx hb dX4_tankOf_8 (by decide) (fun c2 => ?_) (fun c2 => ?_)
  · refine lv_iconst (v := iI ((-1 : Int))) hx hb dX4_tankOf_26 (by decide +kernel) ?_
    exact hret _ _ _ _ _ _ dX4_tankOf_27 ⟨rfl, (by first | rw [if_pos (by omega)] | rw [if_neg (by omega)])⟩ hP hD hS
  · refine lv_aload_n hx hb dX4_tankOf_11 rfl (lv_at hl 0 rfl) ?_
    refine va_get (D := D) (ci := 4) (v := .ref hB) (C := RX4) (T := TX4) (N := 12) hx hb hts in_X4 hown hK hP 0 rfl rfl 2 (by decide) (hts _ (List.mem_cons_of_mem _ tf_X4_12)) (fun _ h9 => h9) rfl dX4_tankOf_12 ?_
    refine va_get (D := D) (ci := 0) (v := .ref qP) (C := RX0) (T := TX0) (N := 5) hx hb hts in_X0 hown hK hP 1 rfl rfl 1 (by decide) (hts _ (List.mem_cons_of_mem _ tf_X4_104)) (fun _ h9 => h9) rfl dX4_tankOf_15 ?_
    refine lv_iload_n hx hb dX4_tankOf_18 rfl (lv_at hl 1 rfl) ?_
    refine rz_as (y := ((k.toNat : Nat) : Int)) (by omega) ?_
    refine rn_aldM hx hb hK hP 2 0 rfl rfl (by omega) (by omega) dX4_tankOf_19 ?_
    have hPc := hP.sub (ws' := []) [] rfl
    have hDc := hD.sub (ws' := []) [] (by decide) rfl
    refine rz_calliR (va_runS (As := [.int (iI (((pl k.toNat : Nat) : Int)))]) (rest := []) ⟨hx, hb, hml, hown, hts⟩ (k_X4_tankOfPlace l D cI cZ H.size (pl k.toNat) (by have := hpl k.toNat; omega)) (va_cwS 1 hts (gG (g_S tm_X4_137 ts_X4_tankOfPlace tin_X4 cmX4_tankOfPlace)) rfl rfl rfl (by decide +kernel) ⟨Nat.le_of_ble_eq_true rfl, Nat.le_of_ble_eq_true rfl⟩) ⟨cP_blind, cP_pre hPc hK hN hDc⟩ rfl rfl hl.1 rfl (lv_room (Nat.le_of_ble_eq_true rfl)) dX4_tankOf_20 ⟨Nat.le_refl _, Nat.le_refl _⟩) hP hD hS hA [] rfl (fun z3 H locs hp hP hS => ?_)
    subst hp
    refine lv_goto (tgt := 27) hx hb dX4_tankOf_23 (by decide) ?_
    exact hret _ _ _ _ _ _ dX4_tankOf_27 ⟨rfl, (by first | rw [if_pos (by omega)] | rw [if_neg (by omega)])⟩ hP hD hS

set_option maxHeartbeats 4000000 in
set_option maxRecDepth 100000 in
theorem k_X4_start (l : Launch) (D : va_G) (cI cZ : ClassId) (sz : Nat) (hX : Nat) (T : Nat) (dd : Nat) (hB : Nat) (hR : Nat) (hQ : Nat) (hF : Nat) (hC : Nat) (no : Nat) (sh : Nat) (cs : Nat) (lc : Nat) (co : Int64) (qL : Nat) (qP : Nat) (qE : Nat) (qF : Nat) (n : Nat) (pl : Nat → Nat) (k : Int) (hn : n ≤ 4) (hpl : ∀ j, pl j < 30) (hk : -2147483648 ≤ k ∧ k < 2147483648) : Ci l yX4_start wsX4_start (rmD 1) D vwCl [(cI, .int), (cZ, .boolean)] [.ref hX, .int (iI (k))] [(hX, .inr (4, [.int (iI (((T : Nat) : Int))), .int (iI (((dd : Nat) : Int))), .ref hB, .ref hR, .ref hQ, .ref hF, .ref hC, .int (iI (((no : Nat) : Int))), .int (iI (((sh : Nat) : Int))), .int (iI (((cs : Nat) : Int))), .int (iI (((lc : Nat) : Int))), .long (co)])), (hB, .inr (0, [.ref qL, .ref qP, .ref qE, .ref qF, .int (iI (((n : Nat) : Int)))])), ce_i qP cI 4 (nZ (pl))] sz (fun z w => w = [(hX, .inr (4, [.int (iI (((T : Nat) : Int))), .int (iI (((dd : Nat) : Int))), .ref hB, .ref hR, .ref hQ, .ref hF, .ref hC, .int (iI (((no : Nat) : Int))), .int (iI (((sh : Nat) : Int))), .int (iI (((cs : Nat) : Int))), .int (iI (((lc : Nat) : Int))), .long (co)])), (hB, .inr (0, [.ref qL, .ref qP, .ref qE, .ref qF, .int (iI (((n : Nat) : Int)))])), ce_i qP cI 4 (nZ (pl))] ∧ (z = (if 0 ≤ k ∧ k < ((n : Nat) : Int) then ((pl k.toNat % 10 : Nat) : Int) else -1))) 0 0 := by
  refine Ci_of (cc := cX4_start) (nL := 2) (by decide) rfl (Nat.le_of_ble_eq_true rfl) ?_
  intro p e s m below meth c A Q hsz C hK hN hA hP hD hS hret ls hl
  obtain ⟨hx, hb, hml, hown, hts⟩ := id C
  have hown : s.vm.findClass RX4 = some m.cls := hown
  have hl : lv_has ls 2 [(0, .ref hX), (1, .int (iI (k)))] := hl
  have in_X4 : ∀ w ∈ u_ws RX4 TX4 12, w ∈ wsX4_start := fun w h => List.mem_cons_of_mem _ (inX4 w h)
  have in_X0 : ∀ w ∈ u_ws RX0 TX0 5, w ∈ wsX4_start := fun w h => List.mem_cons_of_mem _ (inX0 w h)
  refine lv_aload_n hx hb dX4_start_0 rfl (lv_at hl 0 rfl) ?_
  refine va_get (D := D) (ci := 4) (v := .ref hB) (C := RX4) (T := TX4) (N := 12) hx hb hts in_X4 hown hK hP 0 rfl rfl 2 (by decide) (hts _ (List.mem_cons_of_mem _ tf_X4_12)) (fun _ h9 => h9) rfl dX4_start_1 ?_
  refine lv_iload_n hx hb dX4_start_4 rfl (lv_at hl 1 rfl) ?_
  have hPc := hP.sub (ws' := [(hB, .inr (0, [.ref qL, .ref qP, .ref qE, .ref qF, .int (iI (((n : Nat) : Int)))]))]) [1] rfl
  have hDc := hD.sub (ws' := [(hB, .inr (0, [.ref qL, .ref qP, .ref qE, .ref qF, .int (iI (((n : Nat) : Int)))]))]) [1] (by decide) rfl
  refine rz_calliR (va_runV (As := [.int (iI (k))]) (rest := []) ⟨hx, hb, hml, hown, hts⟩ (k_X0_has l D cI cZ s.heap.size hB qL qP qE qF n k (by omega) (by omega)) (cwV 1 hts (gG (g_V tm_X4_81 ti_X0_has tse_X0_has tin_X0 cmX0_has)) rfl rfl rfl (by decide +kernel) ⟨Nat.le_of_ble_eq_true rfl, Nat.le_of_ble_eq_true rfl⟩) ⟨cP_blind, va_recv hK hPc (ci := 0) (q0 := 0) rfl rfl, cP_pre hPc hK hN hDc⟩ rfl rfl hl.1 rfl (lv_room (Nat.le_of_ble_eq_true rfl)) dX4_start_5 ⟨Nat.le_refl _, Nat.le_refl _⟩) hP hD hS hA [1] rfl (fun z1 H locs hp hP hS => ?_)
  subst hp
  refine rz_beqD (P := (0 ≤ k ∧ k < ((n : Nat) : Int))) (tgt := 26) hx hb dX4_start_8 (by decide) (fun c2 => ?_) (fun c2 => ?_)
  · refine lv_iconst (v := iI ((-1 : Int))) hx hb dX4_start_26 (by decide +kernel) ?_
    exact hret _ _ _ _ _ _ dX4_start_27 ⟨rfl, (by first | rw [if_pos (by omega)] | rw [if_neg (by omega)])⟩ hP hD hS
  · refine lv_aload_n hx hb dX4_start_11 rfl (lv_at hl 0 rfl) ?_
    refine va_get (D := D) (ci := 4) (v := .ref hB) (C := RX4) (T := TX4) (N := 12) hx hb hts in_X4 hown hK hP 0 rfl rfl 2 (by decide) (hts _ (List.mem_cons_of_mem _ tf_X4_12)) (fun _ h9 => h9) rfl dX4_start_12 ?_
    refine va_get (D := D) (ci := 0) (v := .ref qP) (C := RX0) (T := TX0) (N := 5) hx hb hts in_X0 hown hK hP 1 rfl rfl 1 (by decide) (hts _ (List.mem_cons_of_mem _ tf_X4_104)) (fun _ h9 => h9) rfl dX4_start_15 ?_
    refine lv_iload_n hx hb dX4_start_18 rfl (lv_at hl 1 rfl) ?_
    refine rz_as (y := ((k.toNat : Nat) : Int)) (by omega) ?_
    refine rn_aldM hx hb hK hP 2 0 rfl rfl (by omega) (by omega) dX4_start_19 ?_
    have hPc := hP.sub (ws' := []) [] rfl
    have hDc := hD.sub (ws' := []) [] (by decide) rfl
    refine rz_calliR (va_runS (As := [.int (iI (((pl k.toNat : Nat) : Int)))]) (rest := []) ⟨hx, hb, hml, hown, hts⟩ (k_X4_startOfPlace l D cI cZ H.size (pl k.toNat) (by have := hpl k.toNat; omega)) (va_cwS 1 hts (gG (g_S tm_X4_107 ts_X4_startOfPlace tin_X4 cmX4_startOfPlace)) rfl rfl rfl (by decide +kernel) ⟨Nat.le_of_ble_eq_true rfl, Nat.le_of_ble_eq_true rfl⟩) ⟨cP_blind, cP_pre hPc hK hN hDc⟩ rfl rfl hl.1 rfl (lv_room (Nat.le_of_ble_eq_true rfl)) dX4_start_20 ⟨Nat.le_refl _, Nat.le_refl _⟩) hP hD hS hA [] rfl (fun z3 H locs hp hP hS => ?_)
    subst hp
    refine lv_goto (tgt := 27) hx hb dX4_start_23 (by decide) ?_
    exact hret _ _ _ _ _ _ dX4_start_27 ⟨rfl, (by first | rw [if_pos (by omega)] | rw [if_neg (by omega)])⟩ hP hD hS

set_option maxHeartbeats 4000000 in
set_option maxRecDepth 100000 in
theorem k_X4_changed (l : Launch) (D : va_G) (cI cZ : ClassId) (sz : Nat) (hX : Nat) (T : Nat) (dd : Nat) (hB : Nat) (hR : Nat) (hQ : Nat) (hF : Nat) (hC : Nat) (no : Nat) (sh : Nat) (cs : Nat) (lc : Nat) (co : Int64) (k : Int) (hcs : cs < 16) (hk : -2147483648 ≤ k ∧ k < 2147483648) : Ci l yX4_changed wsX4_changed (rmD 1) D vwCl [(cI, .int), (cZ, .boolean)] [.ref hX, .int (iI (k))] [(hX, .inr (4, [.int (iI (((T : Nat) : Int))), .int (iI (((dd : Nat) : Int))), .ref hB, .ref hR, .ref hQ, .ref hF, .ref hC, .int (iI (((no : Nat) : Int))), .int (iI (((sh : Nat) : Int))), .int (iI (((cs : Nat) : Int))), .int (iI (((lc : Nat) : Int))), .long (co)]))] sz (fun z w => w = [(hX, .inr (4, [.int (iI (((T : Nat) : Int))), .int (iI (((dd : Nat) : Int))), .ref hB, .ref hR, .ref hQ, .ref hF, .ref hC, .int (iI (((no : Nat) : Int))), .int (iI (((sh : Nat) : Int))), .int (iI (((cs : Nat) : Int))), .int (iI (((lc : Nat) : Int))), .long (co)]))] ∧ (z = memF (fun j => Nat.testBit cs j) k 4 0 0)) 0 0 := by
  refine Ci_of (cc := cX4_changed) (nL := 2) (by decide) rfl (Nat.le_of_ble_eq_true rfl) ?_
  intro p e s m below meth c A Q hsz C hK hN hA hP hD hS hret ls hl
  obtain ⟨hx, hb, hml, hown, hts⟩ := id C
  have hown : s.vm.findClass RX4 = some m.cls := hown
  have hl : lv_has ls 2 [(0, .ref hX), (1, .int (iI (k)))] := hl
  have in_X4 : ∀ w ∈ u_ws RX4 TX4 12, w ∈ wsX4_changed := fun w h => List.mem_cons_of_mem _ (inX4 w h)
  refine lv_aload_n hx hb dX4_changed_0 rfl (lv_at hl 0 rfl) ?_
  refine va_get (D := D) (ci := 4) (v := .int (iI (((cs : Nat) : Int)))) (C := RX4) (T := TX4) (N := 12) hx hb hts in_X4 hown hK hP 0 rfl rfl 9 (by decide) (hts _ (List.mem_cons_of_mem _ tf_X4_140)) (fun _ h9 => h9) rfl dX4_changed_1 ?_
  refine lv_iload_n hx hb dX4_changed_4 rfl (lv_at hl 1 rfl) ?_
  have hPc := hP.sub (ws' := []) [] rfl
  have hDc := hD.sub (ws' := []) [] (by decide) rfl
  refine rz_calliR (va_runS (As := [.int (iI (((cs : Nat) : Int))), .int (iI (k))]) (rest := []) ⟨hx, hb, hml, hown, hts⟩ (k_X4_memberAt l D cI cZ s.heap.size cs k (by omega) (by omega)) (va_cwS 2 hts (gG (g_S tm_X4_143 ts_X4_memberAt tin_X4 cmX4_memberAt)) rfl rfl rfl (by decide +kernel) ⟨Nat.le_of_ble_eq_true rfl, Nat.le_of_ble_eq_true rfl⟩) ⟨cP_blind, cP_pre hPc hK hN hDc⟩ rfl rfl hl.1 rfl (lv_room (Nat.le_of_ble_eq_true rfl)) dX4_changed_5 ⟨Nat.le_refl _, Nat.le_refl _⟩) hP hD hS hA [] rfl (fun z1 H locs hp hP hS => ?_)
  subst hp
  exact hret _ _ _ _ _ _ dX4_changed_8 ⟨rfl, rfl⟩ hP hD hS

set_option maxHeartbeats 4000000 in
set_option maxRecDepth 100000 in
theorem k_X4_bound (l : Launch) (D : va_G) (cI cZ : ClassId) (sz : Nat) (hX : Nat) (T : Nat) (dd : Nat) (hB : Nat) (hR : Nat) (hQ : Nat) (hF : Nat) (hC : Nat) (no : Nat) (sh : Nat) (cs : Nat) (lc : Nat) (co : Int64)  : Ci l yX4_bound wsX4_bound (rmD 0) D vwCl [(cI, .int), (cZ, .boolean)] [.ref hX] [(hX, .inr (4, [.int (iI (((T : Nat) : Int))), .int (iI (((dd : Nat) : Int))), .ref hB, .ref hR, .ref hQ, .ref hF, .ref hC, .int (iI (((no : Nat) : Int))), .int (iI (((sh : Nat) : Int))), .int (iI (((cs : Nat) : Int))), .int (iI (((lc : Nat) : Int))), .long (co)]))] sz (fun z w => w = [(hX, .inr (4, [.int (iI (((T : Nat) : Int))), .int (iI (((dd : Nat) : Int))), .ref hB, .ref hR, .ref hQ, .ref hF, .ref hC, .int (iI (((no : Nat) : Int))), .int (iI (((sh : Nat) : Int))), .int (iI (((cs : Nat) : Int))), .int (iI (((lc : Nat) : Int))), .long (co)]))] ∧ (z = ((lc : Nat) : Int))) 0 0 := by
  refine Ci_of (cc := cX4_bound) (nL := 1) (by decide) rfl (Nat.le_of_ble_eq_true rfl) ?_
  intro p e s m below meth c A Q hsz C hK hN hA hP hD hS hret ls hl
  obtain ⟨hx, hb, hml, hown, hts⟩ := id C
  have hown : s.vm.findClass RX4 = some m.cls := hown
  have hl : lv_has ls 1 [(0, .ref hX)] := hl
  have in_X4 : ∀ w ∈ u_ws RX4 TX4 12, w ∈ wsX4_bound := fun w h => List.mem_cons_of_mem _ (inX4 w h)
  refine lv_aload_n hx hb dX4_bound_0 rfl (lv_at hl 0 rfl) ?_
  refine va_get (D := D) (ci := 4) (v := .int (iI (((lc : Nat) : Int)))) (C := RX4) (T := TX4) (N := 12) hx hb hts in_X4 hown hK hP 0 rfl rfl 10 (by decide) (hts _ (List.mem_cons_of_mem _ tf_X4_124)) (fun _ h9 => h9) rfl dX4_bound_1 ?_
  exact hret _ _ _ _ _ _ dX4_bound_4 ⟨rfl, rfl⟩ hP hD hS

set_option maxHeartbeats 4000000 in
set_option maxRecDepth 100000 in
theorem k_X4_cost (l : Launch) (D : va_G) (cI cZ : ClassId) (sz : Nat) (hX : Nat) (T : Nat) (dd : Nat) (hB : Nat) (hR : Nat) (hQ : Nat) (hF : Nat) (hC : Nat) (no : Nat) (sh : Nat) (cs : Nat) (lc : Nat) (co : Int64)  : Cl l yX4_cost wsX4_cost (rmD 0) D vwCl [(cI, .int), (cZ, .boolean)] [.ref hX] [(hX, .inr (4, [.int (iI (((T : Nat) : Int))), .int (iI (((dd : Nat) : Int))), .ref hB, .ref hR, .ref hQ, .ref hF, .ref hC, .int (iI (((no : Nat) : Int))), .int (iI (((sh : Nat) : Int))), .int (iI (((cs : Nat) : Int))), .int (iI (((lc : Nat) : Int))), .long (co)]))] sz (fun z w => w = [(hX, .inr (4, [.int (iI (((T : Nat) : Int))), .int (iI (((dd : Nat) : Int))), .ref hB, .ref hR, .ref hQ, .ref hF, .ref hC, .int (iI (((no : Nat) : Int))), .int (iI (((sh : Nat) : Int))), .int (iI (((cs : Nat) : Int))), .int (iI (((lc : Nat) : Int))), .long (co)]))] ∧ (z = co)) 0 0 := by
  refine Cl_of (cc := cX4_cost) (nL := 1) (by decide) rfl (Nat.le_of_ble_eq_true rfl) ?_
  intro p e s m below meth c A Q hsz C hK hN hA hP hD hS hret ls hl
  obtain ⟨hx, hb, hml, hown, hts⟩ := id C
  have hown : s.vm.findClass RX4 = some m.cls := hown
  have hl : lv_has ls 1 [(0, .ref hX)] := hl
  have in_X4 : ∀ w ∈ u_ws RX4 TX4 12, w ∈ wsX4_cost := fun w h => List.mem_cons_of_mem _ (inX4 w h)
  refine lv_aload_n hx hb dX4_cost_0 rfl (lv_at hl 0 rfl) ?_
  refine va_get (D := D) (ci := 4) (v := .long (co)) (C := RX4) (T := TX4) (N := 12) hx hb hts in_X4 hown hK hP 0 rfl rfl 11 (by decide) (hts _ (List.mem_cons_of_mem _ tf_X4_163)) (fun _ h9 => h9) rfl dX4_cost_1 ?_
  exact hret _ _ _ _ _ _ dX4_cost_4 ⟨rfl, rfl⟩ hP hD hS

set_option maxHeartbeats 4000000 in
set_option maxRecDepth 100000 in
theorem k_X4_undo (l : Launch) (D : va_G) (cI cZ : ClassId) (sz : Nat) (hX : Nat) (T : Nat) (dd : Nat) (hB : Nat) (hR : Nat) (hQ : Nat) (hF : Nat) (hC : Nat) (no : Nat) (sh : Nat) (cs : Nat) (lc : Nat) (co : Int64) (qL : Nat) (qP : Nat) (qE : Nat) (qF : Nat) (n : Nat) (pl : Nat → Nat) (qS : Nat) (qQ : Nat) (cn : Nat) (sz_ : Nat → Nat) (sp : Nat → Nat) (hc : cn ≤ 16) (hz : ∀ j, sz_ j ≤ 4) : Ci l yX4_undo wsX4_undo (rmD 3) D vwCl [(cI, .int), (cZ, .boolean)] [.ref hX] [(hX, .inr (4, [.int (iI (((T : Nat) : Int))), .int (iI (((dd : Nat) : Int))), .ref hB, .ref hR, .ref hQ, .ref hF, .ref hC, .int (iI (((no : Nat) : Int))), .int (iI (((sh : Nat) : Int))), .int (iI (((cs : Nat) : Int))), .int (iI (((lc : Nat) : Int))), .long (co)])), (hF, .inr (3, [.int (iI (((16 : Nat) : Int))), .ref qS, .ref qQ, .int (iI (((cn : Nat) : Int)))])), ce_i qS cI 16 (nZ (sz_)), ce_i qQ cI 64 (nZ (sp)), (hB, .inr (0, [.ref qL, .ref qP, .ref qE, .ref qF, .int (iI (((n : Nat) : Int)))])), ce_i qP cI 4 (nZ (pl))] sz (fun z w => ∃ cn2 : Nat, ∃ pl2 : Nat → Nat, w = [(hX, .inr (4, [.int (iI (((T : Nat) : Int))), .int (iI (((dd : Nat) : Int))), .ref hB, .ref hR, .ref hQ, .ref hF, .ref hC, .int (iI (((no : Nat) : Int))), .int (iI (((sh : Nat) : Int))), .int (iI (((cs : Nat) : Int))), .int (iI (((lc : Nat) : Int))), .long (co)])), (hF, .inr (3, [.int (iI (((16 : Nat) : Int))), .ref qS, .ref qQ, .int (iI (((cn2 : Nat) : Int)))])), ce_i qS cI 16 (nZ (sz_)), ce_i qQ cI 64 (nZ (sp)), (hB, .inr (0, [.ref qL, .ref qP, .ref qE, .ref qF, .int (iI (((n : Nat) : Int)))])), ce_i qP cI 4 (nZ (pl2))] ∧ ((cn2, pl2, z) = (if 0 < cn then (cn - 1, va_cpy sp pl ((cn - 1) * 4) 0 (sz_ (cn - 1)), 1) else (cn, pl, 0)))) 0 0 := by
  refine Cz_of (cc := cX4_undo) (nL := 1) (by decide) rfl (Nat.le_of_ble_eq_true rfl) ?_
  intro p e s m below meth c A Q hsz C hK hN hA hP hD hS hret ls hl
  obtain ⟨hx, hb, hml, hown, hts⟩ := id C
  have hown : s.vm.findClass RX4 = some m.cls := hown
  have hl : lv_has ls 1 [(0, .ref hX)] := hl
  have in_X4 : ∀ w ∈ u_ws RX4 TX4 12, w ∈ wsX4_undo := fun w h => List.mem_cons_of_mem _ (inX4 w h)
  refine lv_aload_n hx hb dX4_undo_0 rfl (lv_at hl 0 rfl) ?_
  refine va_get (D := D) (ci := 4) (v := .ref hF) (C := RX4) (T := TX4) (N := 12) hx hb hts in_X4 hown hK hP 0 rfl rfl 5 (by decide) (hts _ (List.mem_cons_of_mem _ tf_X4_35)) (fun _ h9 => h9) rfl dX4_undo_1 ?_
  have hPc := hP.sub (ws' := [(hF, .inr (3, [.int (iI (((16 : Nat) : Int))), .ref qS, .ref qQ, .int (iI (((cn : Nat) : Int)))]))]) [1] rfl
  have hDc := hD.sub (ws' := [(hF, .inr (3, [.int (iI (((16 : Nat) : Int))), .ref qS, .ref qQ, .int (iI (((cn : Nat) : Int)))]))]) [1] (by decide) rfl
  refine rz_calliR (va_runV (As := []) (rest := []) ⟨hx, hb, hml, hown, hts⟩ (k_X3_isEmpty l D cI cZ s.heap.size hF 16 qS qQ cn (by omega)) (cwV 0 hts (gG (g_V tm_X4_146 ti_X3_isEmpty tse_X3_isEmpty tin_X3 cmX3_isEmpty)) rfl rfl rfl (by decide +kernel) ⟨Nat.le_of_ble_eq_true rfl, Nat.le_of_ble_eq_true rfl⟩) ⟨cP_blind, va_recv hK hPc (ci := 3) (q0 := 0) rfl rfl, cP_pre hPc hK hN hDc⟩ rfl rfl hl.1 rfl (lv_room (Nat.le_of_ble_eq_true rfl)) dX4_undo_4 ⟨Nat.le_refl _, Nat.le_refl _⟩) hP hD hS hA [1] rfl (fun z1 H locs hp hP hS => ?_)
  subst hp
  refine rz_beqD (P := (cn = 0)) (tgt := 12) hx hb dX4_undo_7 (by decide) (fun c2 => ?_) (fun c2 => ?_)
  · refine lv_aload_n hx hb dX4_undo_12 rfl (lv_at hl 0 rfl) ?_
    refine va_get (D := D) (ci := 4) (v := .ref hF) (C := RX4) (T := TX4) (N := 12) hx hb hts in_X4 hown hK hP 0 rfl rfl 5 (by decide) (hts _ (List.mem_cons_of_mem _ tf_X4_35)) (fun _ h9 => h9) rfl dX4_undo_13 ?_
    refine lv_aload_n hx hb dX4_undo_16 rfl (lv_at hl 0 rfl) ?_
    refine va_get (D := D) (ci := 4) (v := .ref hB) (C := RX4) (T := TX4) (N := 12) hx hb hts in_X4 hown hK hP 0 rfl rfl 2 (by decide) (hts _ (List.mem_cons_of_mem _ tf_X4_12)) (fun _ h9 => h9) rfl dX4_undo_17 ?_
    have hPc := hP.sub (ws' := [(hF, .inr (3, [.int (iI (((16 : Nat) : Int))), .ref qS, .ref qQ, .int (iI (((cn : Nat) : Int)))])), ce_i qS cI 16 (nZ (sz_)), ce_i qQ cI 64 (nZ (sp)), (hB, .inr (0, [.ref qL, .ref qP, .ref qE, .ref qF, .int (iI (((n : Nat) : Int)))])), ce_i qP cI 4 (nZ (pl))]) [1, 2, 3, 4, 5] rfl
    have hDc := hD.sub (ws' := [(hF, .inr (3, [.int (iI (((16 : Nat) : Int))), .ref qS, .ref qQ, .int (iI (((cn : Nat) : Int)))])), ce_i qS cI 16 (nZ (sz_)), ce_i qQ cI 64 (nZ (sp)), (hB, .inr (0, [.ref qL, .ref qP, .ref qE, .ref qF, .int (iI (((n : Nat) : Int)))])), ce_i qP cI 4 (nZ (pl))]) [1, 2, 3, 4, 5] (by decide) rfl
    refine rz_callv (va_runV (As := [.ref hB]) (rest := []) ⟨hx, hb, hml, hown, hts⟩ (k_X3_takeNewestInto l D cI cZ H.size hF 16 qS qQ cn 64 sz_ sp hB qL qP qE qF n pl (by omega) (by omega) (by omega) (hz _)) (cwV 1 hts (gG (g_V tm_X4_149 ti_X3_takeNewestInto tse_X3_takeNewestInto tin_X3 cmX3_takeNewestInto)) rfl rfl rfl (by decide +kernel) ⟨Nat.le_of_ble_eq_true rfl, Nat.le_of_ble_eq_true rfl⟩) ⟨cP_blind, va_recv hK hPc (ci := 3) (q0 := 0) rfl rfl, cP_pre hPc hK hN hDc⟩ rfl rfl hl.1 rfl (lv_room (Nat.le_of_ble_eq_true rfl)) dX4_undo_20 ⟨Nat.le_refl _, Nat.le_refl _⟩) hP hD hS hA [1, 2, 3, 4, 5] [0] rfl (wr := [(hX, .inr (4, [.int (iI (((T : Nat) : Int))), .int (iI (((dd : Nat) : Int))), .ref hB, .ref hR, .ref hQ, .ref hF, .ref hC, .int (iI (((no : Nat) : Int))), .int (iI (((sh : Nat) : Int))), .int (iI (((cs : Nat) : Int))), .int (iI (((lc : Nat) : Int))), .long (co)]))]) rfl (by decide) (by decide) (fun w H locs hp hP hD hS => ?_)
    subst hp
    have hP : va_P D vwCl [(hX, .inr (4, [.int (iI (((T : Nat) : Int))), .int (iI (((dd : Nat) : Int))), .ref hB, .ref hR, .ref hQ, .ref hF, .ref hC, .int (iI (((no : Nat) : Int))), .int (iI (((sh : Nat) : Int))), .int (iI (((cs : Nat) : Int))), .int (iI (((lc : Nat) : Int))), .long (co)])), (hF, .inr (3, [.int (iI (((16 : Nat) : Int))), .ref qS, .ref qQ, .int (iI (((cn - 1 : Nat) : Int)))])), ce_i qS cI 16 (nZ (sz_)), ce_i qQ cI 64 (nZ (sp)), (hB, .inr (0, [.ref qL, .ref qP, .ref qE, .ref qF, .int (iI (((n : Nat) : Int)))])), ce_i qP cI 4 (nZ (va_cpy sp pl ((cn - 1) * 4) 0 (sz_ (cn - 1))))] H := hP.sub (ws' := [(hX, .inr (4, [.int (iI (((T : Nat) : Int))), .int (iI (((dd : Nat) : Int))), .ref hB, .ref hR, .ref hQ, .ref hF, .ref hC, .int (iI (((no : Nat) : Int))), .int (iI (((sh : Nat) : Int))), .int (iI (((cs : Nat) : Int))), .int (iI (((lc : Nat) : Int))), .long (co)])), (hF, .inr (3, [.int (iI (((16 : Nat) : Int))), .ref qS, .ref qQ, .int (iI (((cn - 1 : Nat) : Int)))])), ce_i qS cI 16 (nZ (sz_)), ce_i qQ cI 64 (nZ (sp)), (hB, .inr (0, [.ref qL, .ref qP, .ref qE, .ref qF, .int (iI (((n : Nat) : Int)))])), ce_i qP cI 4 (nZ (va_cpy sp pl ((cn - 1) * 4) 0 (sz_ (cn - 1))))]) [0, 1, 2, 3, 4, 5] rfl
    have hD : va_D A [(hX, .inr (4, [.int (iI (((T : Nat) : Int))), .int (iI (((dd : Nat) : Int))), .ref hB, .ref hR, .ref hQ, .ref hF, .ref hC, .int (iI (((no : Nat) : Int))), .int (iI (((sh : Nat) : Int))), .int (iI (((cs : Nat) : Int))), .int (iI (((lc : Nat) : Int))), .long (co)])), (hF, .inr (3, [.int (iI (((16 : Nat) : Int))), .ref qS, .ref qQ, .int (iI (((cn - 1 : Nat) : Int)))])), ce_i qS cI 16 (nZ (sz_)), ce_i qQ cI 64 (nZ (sp)), (hB, .inr (0, [.ref qL, .ref qP, .ref qE, .ref qF, .int (iI (((n : Nat) : Int)))])), ce_i qP cI 4 (nZ (va_cpy sp pl ((cn - 1) * 4) 0 (sz_ (cn - 1))))] := hD.sub (ws' := [(hX, .inr (4, [.int (iI (((T : Nat) : Int))), .int (iI (((dd : Nat) : Int))), .ref hB, .ref hR, .ref hQ, .ref hF, .ref hC, .int (iI (((no : Nat) : Int))), .int (iI (((sh : Nat) : Int))), .int (iI (((cs : Nat) : Int))), .int (iI (((lc : Nat) : Int))), .long (co)])), (hF, .inr (3, [.int (iI (((16 : Nat) : Int))), .ref qS, .ref qQ, .int (iI (((cn - 1 : Nat) : Int)))])), ce_i qS cI 16 (nZ (sz_)), ce_i qQ cI 64 (nZ (sp)), (hB, .inr (0, [.ref qL, .ref qP, .ref qE, .ref qF, .int (iI (((n : Nat) : Int)))])), ce_i qP cI 4 (nZ (va_cpy sp pl ((cn - 1) * 4) 0 (sz_ (cn - 1))))]) [0, 1, 2, 3, 4, 5] (by decide) rfl
    refine lv_iconst (v := iI (((1 : Nat) : Int))) hx hb dX4_undo_23 (by decide +kernel) ?_
    exact hret _ _ _ _ _ _ dX4_undo_24 (Or.inr rfl) ⟨_, _, rfl, (by first | rw [if_neg (by omega)]; rfl | rw [if_pos (by omega)]; rfl)⟩ hP hD hS
  · refine lv_iconst (v := iI (((0 : Nat) : Int))) hx hb dX4_undo_10 (by decide +kernel) ?_
    exact hret _ _ _ _ _ _ dX4_undo_11 (Or.inl rfl) ⟨_, _, rfl, (by first | rw [if_neg (by omega)]; rfl | rw [if_pos (by omega)]; rfl)⟩ hP hD hS

set_option maxHeartbeats 4000000 in
set_option maxRecDepth 100000 in
theorem k_X4_copy (l : Launch) (D : va_G) (cI cZ : ClassId) (sz : Nat) (hX : Nat) (T : Nat) (dd : Nat) (hB : Nat) (hR : Nat) (hQ : Nat) (hF : Nat) (hC : Nat) (no : Nat) (sh : Nat) (cs : Nat) (lc : Nat) (co : Int64) (qL : Nat) (qP : Nat) (qE : Nat) (qF : Nat) (n : Nat) (pl : Nat → Nat) (qS : Nat) (qQ : Nat) (cn : Nat) (sz_ : Nat → Nat) (sp : Nat → Nat) (hc : cn ≤ 8) (hn : n ≤ 4) : Ci l yX4_copy wsX4_copy (rmD 3) D vwCl [(cI, .int), (cZ, .boolean)] [.ref hX] [(hX, .inr (4, [.int (iI (((T : Nat) : Int))), .int (iI (((dd : Nat) : Int))), .ref hB, .ref hR, .ref hQ, .ref hF, .ref hC, .int (iI (((no : Nat) : Int))), .int (iI (((sh : Nat) : Int))), .int (iI (((cs : Nat) : Int))), .int (iI (((lc : Nat) : Int))), .long (co)])), (hC, .inr (3, [.int (iI (((8 : Nat) : Int))), .ref qS, .ref qQ, .int (iI (((cn : Nat) : Int)))])), ce_i qS cI 8 (nZ (sz_)), ce_i qQ cI 32 (nZ (sp)), (hB, .inr (0, [.ref qL, .ref qP, .ref qE, .ref qF, .int (iI (((n : Nat) : Int)))])), ce_i qP cI 4 (nZ (pl))] sz (fun z w => ∃ cn2 : Nat, ∃ sz2 : Nat → Nat, ∃ sp2 : Nat → Nat, w = [(hX, .inr (4, [.int (iI (((T : Nat) : Int))), .int (iI (((dd : Nat) : Int))), .ref hB, .ref hR, .ref hQ, .ref hF, .ref hC, .int (iI (((no : Nat) : Int))), .int (iI (((sh : Nat) : Int))), .int (iI (((cs : Nat) : Int))), .int (iI (((lc : Nat) : Int))), .long (co)])), (hC, .inr (3, [.int (iI (((8 : Nat) : Int))), .ref qS, .ref qQ, .int (iI (((cn2 : Nat) : Int)))])), ce_i qS cI 8 (nZ (sz2)), ce_i qQ cI 32 (nZ (sp2)), (hB, .inr (0, [.ref qL, .ref qP, .ref qE, .ref qF, .int (iI (((n : Nat) : Int)))])), ce_i qP cI 4 (nZ (pl))] ∧ ((cn2, sz2, sp2, z) = (if cn < 8 then (cn + 1, uN sz_ cn n, va_cpy pl sp 0 (cn * 4) n, ((cn : Nat) : Int)) else (cn, sz_, sp, -2)))) 0 0 := by
  refine Ci_of (cc := cX4_copy) (nL := 1) (by decide) rfl (Nat.le_of_ble_eq_true rfl) ?_
  intro p e s m below meth c A Q hsz C hK hN hA hP hD hS hret ls hl
  obtain ⟨hx, hb, hml, hown, hts⟩ := id C
  have hown : s.vm.findClass RX4 = some m.cls := hown
  have hl : lv_has ls 1 [(0, .ref hX)] := hl
  have in_X4 : ∀ w ∈ u_ws RX4 TX4 12, w ∈ wsX4_copy := fun w h => List.mem_cons_of_mem _ (inX4 w h)
  refine lv_aload_n hx hb dX4_copy_0 rfl (lv_at hl 0 rfl) ?_
  refine va_get (D := D) (ci := 4) (v := .ref hC) (C := RX4) (T := TX4) (N := 12) hx hb hts in_X4 hown hK hP 0 rfl rfl 6 (by decide) (hts _ (List.mem_cons_of_mem _ tf_X4_39)) (fun _ h9 => h9) rfl dX4_copy_1 ?_
  have hPc := hP.sub (ws' := [(hC, .inr (3, [.int (iI (((8 : Nat) : Int))), .ref qS, .ref qQ, .int (iI (((cn : Nat) : Int)))]))]) [1] rfl
  have hDc := hD.sub (ws' := [(hC, .inr (3, [.int (iI (((8 : Nat) : Int))), .ref qS, .ref qQ, .int (iI (((cn : Nat) : Int)))]))]) [1] (by decide) rfl
  refine rz_calliR (va_runV (As := []) (rest := []) ⟨hx, hb, hml, hown, hts⟩ (k_X3_isFull l D cI cZ s.heap.size hC 8 qS qQ cn (by omega) (by omega)) (cwV 0 hts (gG (g_V tm_X4_153 ti_X3_isFull tse_X3_isFull tin_X3 cmX3_isFull)) rfl rfl rfl (by decide +kernel) ⟨Nat.le_of_ble_eq_true rfl, Nat.le_of_ble_eq_true rfl⟩) ⟨cP_blind, va_recv hK hPc (ci := 3) (q0 := 0) rfl rfl, cP_pre hPc hK hN hDc⟩ rfl rfl hl.1 rfl (lv_room (Nat.le_of_ble_eq_true rfl)) dX4_copy_4 ⟨Nat.le_refl _, Nat.le_refl _⟩) hP hD hS hA [1] rfl (fun z1 H locs hp hP hS => ?_)
  subst hp
  refine rz_beqD (P := (8 ≤ cn)) (tgt := 15) hx hb dX4_copy_7 (by decide) (fun c2 => ?_) (fun c2 => ?_)
  · refine lv_aload_n hx hb dX4_copy_15 rfl (lv_at hl 0 rfl) ?_
    refine va_get (D := D) (ci := 4) (v := .ref hC) (C := RX4) (T := TX4) (N := 12) hx hb hts in_X4 hown hK hP 0 rfl rfl 6 (by decide) (hts _ (List.mem_cons_of_mem _ tf_X4_39)) (fun _ h9 => h9) rfl dX4_copy_16 ?_
    refine lv_aload_n hx hb dX4_copy_19 rfl (lv_at hl 0 rfl) ?_
    refine va_get (D := D) (ci := 4) (v := .ref hB) (C := RX4) (T := TX4) (N := 12) hx hb hts in_X4 hown hK hP 0 rfl rfl 2 (by decide) (hts _ (List.mem_cons_of_mem _ tf_X4_12)) (fun _ h9 => h9) rfl dX4_copy_20 ?_
    have hPc := hP.sub (ws' := [(hC, .inr (3, [.int (iI (((8 : Nat) : Int))), .ref qS, .ref qQ, .int (iI (((cn : Nat) : Int)))])), ce_i qS cI 8 (nZ (sz_)), ce_i qQ cI 32 (nZ (sp)), (hB, .inr (0, [.ref qL, .ref qP, .ref qE, .ref qF, .int (iI (((n : Nat) : Int)))])), ce_i qP cI 4 (nZ (pl))]) [1, 2, 3, 4, 5] rfl
    have hDc := hD.sub (ws' := [(hC, .inr (3, [.int (iI (((8 : Nat) : Int))), .ref qS, .ref qQ, .int (iI (((cn : Nat) : Int)))])), ce_i qS cI 8 (nZ (sz_)), ce_i qQ cI 32 (nZ (sp)), (hB, .inr (0, [.ref qL, .ref qP, .ref qE, .ref qF, .int (iI (((n : Nat) : Int)))])), ce_i qP cI 4 (nZ (pl))]) [1, 2, 3, 4, 5] (by decide) rfl
    refine rz_calli (va_runV (As := [.ref hB]) (rest := []) ⟨hx, hb, hml, hown, hts⟩ (k_X3_put l D cI cZ H.size hC 8 qS qQ cn 32 sz_ sp hB qL qP qE qF n pl (by omega) (by omega) (by omega) (by omega)) (cwV 1 hts (gG (g_V tm_X4_154 ti_X3_put tse_X3_put tin_X3 cmX3_put)) rfl rfl rfl (by decide +kernel) ⟨Nat.le_of_ble_eq_true rfl, Nat.le_of_ble_eq_true rfl⟩) ⟨cP_blind, va_recv hK hPc (ci := 3) (q0 := 0) rfl rfl, cP_pre hPc hK hN hDc⟩ rfl rfl hl.1 rfl (lv_room (Nat.le_of_ble_eq_true rfl)) dX4_copy_23 ⟨Nat.le_refl _, Nat.le_refl _⟩) hP hD hS hA [1, 2, 3, 4, 5] [0] rfl (wr := [(hX, .inr (4, [.int (iI (((T : Nat) : Int))), .int (iI (((dd : Nat) : Int))), .ref hB, .ref hR, .ref hQ, .ref hF, .ref hC, .int (iI (((no : Nat) : Int))), .int (iI (((sh : Nat) : Int))), .int (iI (((cs : Nat) : Int))), .int (iI (((lc : Nat) : Int))), .long (co)]))]) rfl (by decide) (by decide) (fun z3 w H locs hp hP hD hS => ?_)
    obtain ⟨rfl, rfl⟩ := hp
    have hP : va_P D vwCl [(hX, .inr (4, [.int (iI (((T : Nat) : Int))), .int (iI (((dd : Nat) : Int))), .ref hB, .ref hR, .ref hQ, .ref hF, .ref hC, .int (iI (((no : Nat) : Int))), .int (iI (((sh : Nat) : Int))), .int (iI (((cs : Nat) : Int))), .int (iI (((lc : Nat) : Int))), .long (co)])), (hC, .inr (3, [.int (iI (((8 : Nat) : Int))), .ref qS, .ref qQ, .int (iI (((cn + 1 : Nat) : Int)))])), ce_i qS cI 8 (nZ (uN sz_ cn n)), ce_i qQ cI 32 (nZ (va_cpy pl sp 0 (cn * 4) n)), (hB, .inr (0, [.ref qL, .ref qP, .ref qE, .ref qF, .int (iI (((n : Nat) : Int)))])), ce_i qP cI 4 (nZ (pl))] H := hP.sub (ws' := [(hX, .inr (4, [.int (iI (((T : Nat) : Int))), .int (iI (((dd : Nat) : Int))), .ref hB, .ref hR, .ref hQ, .ref hF, .ref hC, .int (iI (((no : Nat) : Int))), .int (iI (((sh : Nat) : Int))), .int (iI (((cs : Nat) : Int))), .int (iI (((lc : Nat) : Int))), .long (co)])), (hC, .inr (3, [.int (iI (((8 : Nat) : Int))), .ref qS, .ref qQ, .int (iI (((cn + 1 : Nat) : Int)))])), ce_i qS cI 8 (nZ (uN sz_ cn n)), ce_i qQ cI 32 (nZ (va_cpy pl sp 0 (cn * 4) n)), (hB, .inr (0, [.ref qL, .ref qP, .ref qE, .ref qF, .int (iI (((n : Nat) : Int)))])), ce_i qP cI 4 (nZ (pl))]) [0, 1, 2, 3, 4, 5] rfl
    have hD : va_D A [(hX, .inr (4, [.int (iI (((T : Nat) : Int))), .int (iI (((dd : Nat) : Int))), .ref hB, .ref hR, .ref hQ, .ref hF, .ref hC, .int (iI (((no : Nat) : Int))), .int (iI (((sh : Nat) : Int))), .int (iI (((cs : Nat) : Int))), .int (iI (((lc : Nat) : Int))), .long (co)])), (hC, .inr (3, [.int (iI (((8 : Nat) : Int))), .ref qS, .ref qQ, .int (iI (((cn + 1 : Nat) : Int)))])), ce_i qS cI 8 (nZ (uN sz_ cn n)), ce_i qQ cI 32 (nZ (va_cpy pl sp 0 (cn * 4) n)), (hB, .inr (0, [.ref qL, .ref qP, .ref qE, .ref qF, .int (iI (((n : Nat) : Int)))])), ce_i qP cI 4 (nZ (pl))] := hD.sub (ws' := [(hX, .inr (4, [.int (iI (((T : Nat) : Int))), .int (iI (((dd : Nat) : Int))), .ref hB, .ref hR, .ref hQ, .ref hF, .ref hC, .int (iI (((no : Nat) : Int))), .int (iI (((sh : Nat) : Int))), .int (iI (((cs : Nat) : Int))), .int (iI (((lc : Nat) : Int))), .long (co)])), (hC, .inr (3, [.int (iI (((8 : Nat) : Int))), .ref qS, .ref qQ, .int (iI (((cn + 1 : Nat) : Int)))])), ce_i qS cI 8 (nZ (uN sz_ cn n)), ce_i qQ cI 32 (nZ (va_cpy pl sp 0 (cn * 4) n)), (hB, .inr (0, [.ref qL, .ref qP, .ref qE, .ref qF, .int (iI (((n : Nat) : Int)))])), ce_i qP cI 4 (nZ (pl))]) [0, 1, 2, 3, 4, 5] (by decide) rfl
    exact hret _ _ _ _ _ _ dX4_copy_26 ⟨_, _, _, rfl, (by first | rw [if_neg (by omega)]; rfl | rw [if_pos (by omega)]; rfl | rw [if_neg (by omega)] | rw [if_pos (by omega)])⟩ hP hD hS
  · refine lv_bipush (v := iI ((-2 : Int))) hx hb dX4_copy_10 (by decide +kernel) ?_
    refine lv_goto (tgt := 26) hx hb dX4_copy_12 (by decide) ?_
    exact hret _ _ _ _ _ _ dX4_copy_26 ⟨_, _, _, rfl, (by first | rw [if_neg (by omega)]; rfl | rw [if_pos (by omega)]; rfl | rw [if_neg (by omega)] | rw [if_pos (by omega)])⟩ hP hD hS

set_option maxHeartbeats 4000000 in
set_option maxRecDepth 100000 in
theorem k_X4_compare (l : Launch) (D : va_G) (cI cZ : ClassId) (sz : Nat) (hX : Nat) (T : Nat) (dd : Nat) (hB : Nat) (hR : Nat) (hQ : Nat) (hF : Nat) (hC : Nat) (no : Nat) (sh : Nat) (cs : Nat) (lc : Nat) (co : Int64) (qL : Nat) (qP : Nat) (qE : Nat) (qF : Nat) (n : Nat) (pl : Nat → Nat) (qS : Nat) (qQ : Nat) (cn : Nat) (sz_ : Nat → Nat) (sp : Nat → Nat) (x : Int) (k : Int) (hc : cn ≤ 8) (hn : n ≤ 4) (hpl : ∀ j, pl j < 30) (hsp : ∀ j, sp j < 30) (hz : ∀ j, sz_ j ≤ 4) (hx2 : -2147483648 ≤ x ∧ x < 2147483648) (hk : -2147483648 ≤ k ∧ k < 2147483648) : Ci l yX4_compare wsX4_compare (rmD 2) D vwCl [(cI, .int), (cZ, .boolean)] [.ref hX, .int (iI (x)), .int (iI (k))] [(hX, .inr (4, [.int (iI (((T : Nat) : Int))), .int (iI (((dd : Nat) : Int))), .ref hB, .ref hR, .ref hQ, .ref hF, .ref hC, .int (iI (((no : Nat) : Int))), .int (iI (((sh : Nat) : Int))), .int (iI (((cs : Nat) : Int))), .int (iI (((lc : Nat) : Int))), .long (co)])), (hC, .inr (3, [.int (iI (((8 : Nat) : Int))), .ref qS, .ref qQ, .int (iI (((cn : Nat) : Int)))])), ce_i qS cI 8 (nZ (sz_)), ce_i qQ cI 32 (nZ (sp)), (hB, .inr (0, [.ref qL, .ref qP, .ref qE, .ref qF, .int (iI (((n : Nat) : Int)))])), ce_i qP cI 4 (nZ (pl))] sz (fun z w => w = [(hX, .inr (4, [.int (iI (((T : Nat) : Int))), .int (iI (((dd : Nat) : Int))), .ref hB, .ref hR, .ref hQ, .ref hF, .ref hC, .int (iI (((no : Nat) : Int))), .int (iI (((sh : Nat) : Int))), .int (iI (((cs : Nat) : Int))), .int (iI (((lc : Nat) : Int))), .long (co)])), (hC, .inr (3, [.int (iI (((8 : Nat) : Int))), .ref qS, .ref qQ, .int (iI (((cn : Nat) : Int)))])), ce_i qS cI 8 (nZ (sz_)), ce_i qQ cI 32 (nZ (sp)), (hB, .inr (0, [.ref qL, .ref qP, .ref qE, .ref qF, .int (iI (((n : Nat) : Int)))])), ce_i qP cI 4 (nZ (pl))] ∧ (z = (if 0 ≤ x ∧ x < ((cn : Nat) : Int) then memF (fun j => Nat.testBit (othF (othX sz_ sp pl x.toNat) n) j) k 4 0 0 else -1))) 0 0 := by
  refine Ci_of (cc := cX4_compare) (nL := 3) (by decide) rfl (Nat.le_of_ble_eq_true rfl) ?_
  intro p e s m below meth c A Q hsz C hK hN hA hP hD hS hret ls hl
  obtain ⟨hx, hb, hml, hown, hts⟩ := id C
  have hown : s.vm.findClass RX4 = some m.cls := hown
  have hl : lv_has ls 3 [(0, .ref hX), (1, .int (iI (x))), (2, .int (iI (k)))] := hl
  have in_X4 : ∀ w ∈ u_ws RX4 TX4 12, w ∈ wsX4_compare := fun w h => List.mem_cons_of_mem _ (inX4 w h)
  refine lv_aload_n hx hb dX4_compare_0 rfl (lv_at hl 0 rfl) ?_
  refine va_get (D := D) (ci := 4) (v := .ref hC) (C := RX4) (T := TX4) (N := 12) hx hb hts in_X4 hown hK hP 0 rfl rfl 6 (by decide) (hts _ (List.mem_cons_of_mem _ tf_X4_39)) (fun _ h9 => h9) rfl dX4_compare_1 ?_
  refine lv_iload_n hx hb dX4_compare_4 rfl (lv_at hl 1 rfl) ?_
  have hPc := hP.sub (ws' := [(hC, .inr (3, [.int (iI (((8 : Nat) : Int))), .ref qS, .ref qQ, .int (iI (((cn : Nat) : Int)))]))]) [1] rfl
  have hDc := hD.sub (ws' := [(hC, .inr (3, [.int (iI (((8 : Nat) : Int))), .ref qS, .ref qQ, .int (iI (((cn : Nat) : Int)))]))]) [1] (by decide) rfl
  refine rz_calliR (va_runV (As := [.int (iI (x))]) (rest := []) ⟨hx, hb, hml, hown, hts⟩ (k_X3_has l D cI cZ s.heap.size hC 8 qS qQ cn x (by omega) (by omega)) (cwV 1 hts (gG (g_V tm_X4_158 ti_X3_has tse_X3_has tin_X3 cmX3_has)) rfl rfl rfl (by decide +kernel) ⟨Nat.le_of_ble_eq_true rfl, Nat.le_of_ble_eq_true rfl⟩) ⟨cP_blind, va_recv hK hPc (ci := 3) (q0 := 0) rfl rfl, cP_pre hPc hK hN hDc⟩ rfl rfl hl.1 rfl (lv_room (Nat.le_of_ble_eq_true rfl)) dX4_compare_5 ⟨Nat.le_refl _, Nat.le_refl _⟩) hP hD hS hA [1] rfl (fun z1 H locs hp hP hS => ?_)
  subst hp
  refine rz_beqD (P := (0 ≤ x ∧ x < ((cn : Nat) : Int))) (tgt := 30) hx hb dX4_compare_8 (by decide) (fun c2 => ?_) (fun c2 => ?_)
  · refine lv_iconst (v := iI ((-1 : Int))) hx hb dX4_compare_30 (by decide +kernel) ?_
    exact hret _ _ _ _ _ _ dX4_compare_31 ⟨rfl, (by first | rw [if_pos (by omega)] | rw [if_neg (by omega)])⟩ hP hD hS
  · refine lv_aload_n hx hb dX4_compare_11 rfl (lv_at hl 0 rfl) ?_
    refine va_get (D := D) (ci := 4) (v := .ref hC) (C := RX4) (T := TX4) (N := 12) hx hb hts in_X4 hown hK hP 0 rfl rfl 6 (by decide) (hts _ (List.mem_cons_of_mem _ tf_X4_39)) (fun _ h9 => h9) rfl dX4_compare_12 ?_
    refine lv_iload_n hx hb dX4_compare_15 rfl (lv_at hl 1 rfl) ?_
    refine rz_as (y := ((x.toNat : Nat) : Int)) (by omega) ?_
    refine lv_aload_n hx hb dX4_compare_16 rfl (lv_at hl 0 rfl) ?_
    refine va_get (D := D) (ci := 4) (v := .ref hB) (C := RX4) (T := TX4) (N := 12) hx hb hts in_X4 hown hK hP 0 rfl rfl 2 (by decide) (hts _ (List.mem_cons_of_mem _ tf_X4_12)) (fun _ h9 => h9) rfl dX4_compare_17 ?_
    have hPc := hP.sub (ws' := [(hC, .inr (3, [.int (iI (((8 : Nat) : Int))), .ref qS, .ref qQ, .int (iI (((cn : Nat) : Int)))])), ce_i qS cI 8 (nZ (sz_)), ce_i qQ cI 32 (nZ (sp)), (hB, .inr (0, [.ref qL, .ref qP, .ref qE, .ref qF, .int (iI (((n : Nat) : Int)))])), ce_i qP cI 4 (nZ (pl))]) [1, 2, 3, 4, 5] rfl
    have hDc := hD.sub (ws' := [(hC, .inr (3, [.int (iI (((8 : Nat) : Int))), .ref qS, .ref qQ, .int (iI (((cn : Nat) : Int)))])), ce_i qS cI 8 (nZ (sz_)), ce_i qQ cI 32 (nZ (sp)), (hB, .inr (0, [.ref qL, .ref qP, .ref qE, .ref qF, .int (iI (((n : Nat) : Int)))])), ce_i qP cI 4 (nZ (pl))]) [1, 2, 3, 4, 5] (by decide) rfl
    refine rz_calliR (va_runV (As := [.int (iI (((x.toNat : Nat) : Int))), .ref hB]) (rest := []) ⟨hx, hb, hml, hown, hts⟩ (k_X3_otherPlaces l D cI cZ H.size hC 8 qS qQ cn 32 sz_ sp hB qL qP qE qF n pl x.toNat (by omega) (by omega) (by omega) (by omega) (hz _) hpl hsp) (cwV 2 hts (gG (g_V tm_X4_159 ti_X3_otherPlaces tse_X3_otherPlaces tin_X3 cmX3_otherPlaces)) rfl rfl rfl (by decide +kernel) ⟨Nat.le_of_ble_eq_true rfl, Nat.le_of_ble_eq_true rfl⟩) ⟨cP_blind, va_recv hK hPc (ci := 3) (q0 := 0) rfl rfl, cP_pre hPc hK hN hDc⟩ rfl rfl hl.1 rfl (lv_room (Nat.le_of_ble_eq_true rfl)) dX4_compare_20 ⟨Nat.le_refl _, Nat.le_refl _⟩) hP hD hS hA [1, 2, 3, 4, 5] rfl (fun z3 H locs hp hP hS => ?_)
    subst hp
    refine lv_iload_n hx hb dX4_compare_23 rfl (lv_at hl 2 rfl) ?_
    have hPc := hP.sub (ws' := []) [] rfl
    have hDc := hD.sub (ws' := []) [] (by decide) rfl
    refine rz_calliR (va_runS (As := [.int (iI (((othF (othX sz_ sp pl x.toNat) n : Nat) : Int))), .int (iI (k))]) (rest := []) ⟨hx, hb, hml, hown, hts⟩ (k_X4_memberAt l D cI cZ H.size (othF (othX sz_ sp pl x.toNat) n) k (Nat.lt_of_lt_of_le (othF_lt _ _) (show 2 ^ n ≤ 2 ^ 4 from Nat.pow_le_pow_right (by decide) hn)) (by omega)) (va_cwS 2 hts (gG (g_S tm_X4_143 ts_X4_memberAt tin_X4 cmX4_memberAt)) rfl rfl rfl (by decide +kernel) ⟨Nat.le_of_ble_eq_true rfl, Nat.le_of_ble_eq_true rfl⟩) ⟨cP_blind, cP_pre hPc hK hN hDc⟩ rfl rfl hl.1 rfl (lv_room (Nat.le_of_ble_eq_true rfl)) dX4_compare_24 ⟨Nat.le_refl _, Nat.le_refl _⟩) hP hD hS hA [] rfl (fun z4 H locs hp hP hS => ?_)
    subst hp
    refine lv_goto (tgt := 31) hx hb dX4_compare_27 (by decide) ?_
    exact hret _ _ _ _ _ _ dX4_compare_31 ⟨rfl, (by first | rw [if_pos (by omega)] | rw [if_neg (by omega)])⟩ hP hD hS
