/-! Search: any good plan; the best one -/
/-- the batches from b on stand in their open places, and beside each other -/
def SolF (ln : Nat → Nat) (lg : Nat → Int) (ap : Nat → Nat) (n b : Nat) (r P : Nat → Nat) : Prop := (∀ j, b ≤ j → j < n → (r j).testBit (P j) = true) ∧ ∀ i j, b ≤ i → i < j → j < n → (besF ln lg ap i (P i) j).testBit (P j) = true
section SO
variable {ln ap r r2 P hm : Nat → Nat} {lg : Nat → Int} {n b q : Nat}
theorem sol_skip0 (hb : b < n) (hc : (r b).testBit q = false) (hno : ∀ P, SolF ln lg ap n b r P → q ≤ P b) : ∀ P, SolF ln lg ap n b r P → q + 1 ≤ P b := by
  intro P h
  have h1 := hno P h
  have h2 : P b ≠ q := fun e => by have h3 := h.1 b (Nat.le_refl b) hb; rw [e, hc] at h3; cases h3
  omega
theorem sol_down (hb : b < n) (hr2 : ∀ j, b < j → j < n → r2 j = r j &&& besF ln lg ap b q j) (h : SolF ln lg ap n b r P) (e : P b = q) : SolF ln lg ap n (b + 1) r2 P := by
  refine ⟨fun j h1 h2 => ?_, fun i j h1 h2 h3 => h.2 i j (by omega) h2 h3⟩
  rw [hr2 j (by omega) h2, Nat.testBit_and, h.1 j (by omega) h2, ← e, h.2 b j (Nat.le_refl b) (by omega) h2]; rfl
theorem sol_up (hb : b < n) (hc : (r b).testBit q = true) (hr2 : ∀ j, b < j → j < n → r2 j = r j &&& besF ln lg ap b q j) (h : SolF ln lg ap n (b + 1) r2 P) (e : P b = q) : SolF ln lg ap n b r P := by
  refine ⟨fun j h1 h2 => ?_, fun i j h1 h2 h3 => ?_⟩
  · by_cases hj : j = b
    · rw [hj, e]; exact hc
    · have h4 := h.1 j (by omega) h2
      rw [hr2 j (by omega) h2, Nat.testBit_and] at h4
      simp at h4; exact h4.1
  · by_cases hi : i = b
    · have h4 := h.1 j (by omega) h3
      rw [hr2 j (by omega) h3, Nat.testBit_and] at h4
      simp at h4; rw [hi, e]; exact h4.2
    · exact h.2 i j (by omega) h2 h3
theorem sol_upd (hb : b < n) (hc : (r b).testBit q = true) (hr2 : ∀ j, b < j → j < n → r2 j = r j &&& besF ln lg ap b q j) (h : SolF ln lg ap n (b + 1) r2 P) : SolF ln lg ap n b r (uN P b q) := by
  refine sol_up hb hc hr2 ⟨fun j h1 h2 => ?_, fun i j h1 h2 h3 => ?_⟩ (uN_s _ _ _)
  · rw [uN_n _ _ (by omega)]; exact h.1 j h1 h2
  · rw [uN_n _ _ (by omega), uN_n _ _ (by omega)]; exact h.2 i j h1 h2 h3
theorem sol_no1 {j : Nat} (h1 : b < j) (h2 : j < n) (h0 : r j &&& besF ln lg ap b q j = 0) (h : SolF ln lg ap n b r P) : P b ≠ q := by
  intro e
  have h3 : (r j &&& besF ln lg ap b q j).testBit (P j) = true := by
    rw [Nat.testBit_and, h.1 j (by omega) h2, ← e, h.2 b j (Nat.le_refl b) h1 h2]; rfl
  rw [h0, Nat.zero_testBit] at h3; cases h3
theorem sol_skip1 {j : Nat} (h1 : b < j) (h2 : j < n) (h0 : r j &&& besF ln lg ap b q j = 0) (hno : ∀ P, SolF ln lg ap n b r P → q ≤ P b) : ∀ P, SolF ln lg ap n b r P → q + 1 ≤ P b := by
  intro P h
  have := hno P h
  have := sol_no1 h1 h2 h0 h
  omega
theorem sol_skip2 (hb : b < n) (hr2 : ∀ j, b < j → j < n → r2 j = r j &&& besF ln lg ap b q j) (hn2 : ∀ P, ¬ SolF ln lg ap n (b + 1) r2 P) (hno : ∀ P, SolF ln lg ap n b r P → q ≤ P b) : ∀ P, SolF ln lg ap n b r P → q + 1 ≤ P b := by
  intro P h
  have h1 := hno P h
  have h2 : P b ≠ q := fun e => hn2 P (sol_down hb hr2 h e)
  omega
end SO

set_option maxHeartbeats 4000000 in
set_option maxRecDepth 100000 in
theorem k_X2_canPutFrom (l : Launch) (D : va_G) (cI cZ : ClassId) : ∀ (kf : Nat) (sz : Nat) (hQ : Nat) (qb : Nat) (ql : Nat) (qh : Nat) (qf : Nat) (qg : Nat) (qa : Nat) (qo : Nat) (qt : Nat) (n : Nat) (bw : Nat) (ln : Nat → Nat) (lg : Nat → Int) (ap : Nat → Nat) (op : Nat → Nat) (b : Nat), (n ≤ 4) → (b ≤ n) → (n ≤ b + kf) → (∀ j, ln j ≤ 10) → (∀ j, -10 ≤ lg j ∧ lg j ≤ 10) → (∀ j, ap j < 16) → (∀ j, op j < 1073741824) → Ci l yX2_canPutFrom wsX2_canPutFrom (rmD (kf + 4)) D vwCl [(cI, .int), (cZ, .boolean)] [.ref hQ, .int (iI (((b : Nat) : Int)))] [(hQ, .inr (2, [.ref qb, .ref ql, .ref qh, .ref qf, .ref qg, .ref qa, .ref qo, .ref qt, .int (iI (((n : Nat) : Int))), .int (iI (((bw : Nat) : Int)))])), ce_i ql cI 4 (nZ (ln)), ce_i qg cI 16 (lg), ce_i qa cI 4 (nZ (ap)), ce_i qo cI 16 (nZ (op))] sz (fun z w => ∃ rz : Bool, ∃ op2 : Nat → Nat, w = [(hQ, .inr (2, [.ref qb, .ref ql, .ref qh, .ref qf, .ref qg, .ref qa, .ref qo, .ref qt, .int (iI (((n : Nat) : Int))), .int (iI (((bw : Nat) : Int)))])), ce_i ql cI 4 (nZ (ln)), ce_i qg cI 16 (lg), ce_i qa cI 4 (nZ (ap)), ce_i qo cI 16 (nZ (op2))] ∧ (z = b2z (rz)) ∧ (∀ j, op2 j < 1073741824) ∧ (∀ j, j < b * 4 + 4 → op2 j = op j) ∧ (rz = true → ∃ P, SolF ln lg ap n b (fun j => op (b * 4 + j)) P) ∧ (rz = false → ∀ P, ¬ SolF ln lg ap n b (fun j => op (b * 4 + j)) P)) 0 0 := by
  intro kf
  induction kf with
  | zero =>
    intro sz hQ qb ql qh qf qg qa qo qt n bw ln lg ap op b hn hbn hkf hln hlg hap hop
    refine Cz_of (cc := cX2_canPutFrom) (nL := 5) (by decide) rfl (Nat.le_of_ble_eq_true rfl) ?_
    intro p e s m below meth c A Q hsz C hK hN hA hP hD hS hret ls hl
    obtain ⟨hx, hb, hml, hown, hts⟩ := id C
    have hown : s.vm.findClass RX2 = some m.cls := hown
    have hl : lv_has ls 5 [(0, .ref hQ), (1, .int (iI (((b : Nat) : Int))))] := hl
    have in_X2 : ∀ w ∈ u_ws RX2 TX2 10, w ∈ wsX2_canPutFrom := fun w h => List.mem_cons_of_mem _ (inX2 w h)
    refine lv_iload_n hx hb dX2_canPutFrom_0 rfl (lv_at hl 1 rfl) ?_
    refine lv_aload_n hx hb dX2_canPutFrom_1 rfl (lv_at hl 0 rfl) ?_
    refine va_get (D := D) (ci := 2) (v := .int (iI (((n : Nat) : Int)))) (C := RX2) (T := TX2) (N := 10) hx hb hts in_X2 hown hK hP 0 rfl rfl 8 (by decide) (hts _ (List.mem_cons_of_mem _ tf_X2_45)) (fun _ h9 => h9) rfl dX2_canPutFrom_2 ?_
    refine rz_clt (tgt := 10) hx hb dX2_canPutFrom_5 (by decide) (by omega) (by omega) (fun c1 => ?_) (fun c1 => ?_)
    · exfalso; omega
    · refine lv_iconst (v := iI (((1 : Nat) : Int))) hx hb dX2_canPutFrom_8 (by decide +kernel) ?_
      exact hret _ _ _ _ _ _ dX2_canPutFrom_9 (Or.inr rfl) ⟨true, _, rfl, rfl, hop, (fun _ _ => rfl), (fun _ => ⟨fun _ => 0, fun j h1 h2 => absurd h2 (by omega), fun i j h1 h2 h3 => absurd h3 (by omega)⟩), (fun h => nomatch h)⟩ hP hD hS
  | succ kf ihR =>
    intro sz hQ qb ql qh qf qg qa qo qt n bw ln lg ap op b hn hbn hkf hln hlg hap hop
    refine Cz_of (cc := cX2_canPutFrom) (nL := 5) (by decide) rfl (Nat.le_of_ble_eq_true rfl) ?_
    intro p e s m below meth c A Q hsz C hK hN hA hP hD hS hret ls hl
    obtain ⟨hx, hb, hml, hown, hts⟩ := id C
    have hown : s.vm.findClass RX2 = some m.cls := hown
    have hl : lv_has ls 5 [(0, .ref hQ), (1, .int (iI (((b : Nat) : Int))))] := hl
    have in_X2 : ∀ w ∈ u_ws RX2 TX2 10, w ∈ wsX2_canPutFrom := fun w h => List.mem_cons_of_mem _ (inX2 w h)
    have K23 : ∀ (fu : Nat) (q : Nat) (o1 : Nat → Nat), 30 - q < fu → (q ≤ 30) → (b < n) → (∀ j, o1 j < 1073741824) → (∀ j, j < b * 4 + 4 → o1 j = op j) → (∀ P, SolF ln lg ap n b (fun j => op (b * 4 + j)) P → q ≤ P b) → ∀ (H : Heap) (locs : List Loc) (ls : Array Slot), va_P D vwCl [(hQ, .inr (2, [.ref qb, .ref ql, .ref qh, .ref qf, .ref qg, .ref qa, .ref qo, .ref qt, .int (iI (((n : Nat) : Int))), .int (iI (((bw : Nat) : Int)))])), ce_i ql cI 4 (nZ (ln)), ce_i qg cI 16 (lg), ce_i qa cI 4 (nZ (ap)), ce_i qo cI 16 (nZ (o1))] H → va_D A [(hQ, .inr (2, [.ref qb, .ref ql, .ref qh, .ref qf, .ref qg, .ref qa, .ref qo, .ref qt, .int (iI (((n : Nat) : Int))), .int (iI (((bw : Nat) : Int)))])), ce_i ql cI 4 (nZ (ln)), ce_i qg cI 16 (lg), ce_i qa cI 4 (nZ (ap)), ce_i qo cI 16 (nZ (o1))] → va_S A s.heap H locs → lv_has ls 5 [(0, .ref hQ), (1, .int (iI (((b : Nat) : Int)))), (2, .int (iI (((op (b * 4 + b) : Nat) : Int)))), (3, .int (iI (((q : Nat) : Int))))] → W p l e (rmD (kf + 1 + 4)) s m ([.ref hQ, .int (iI (((b : Nat) : Int)))] : List Value).toArray below meth c H locs 0 0 Q (F0 m 23 ls []) := by
      intro fu
      induction fu with
      | zero => intro q o1 hmu; exact absurd hmu (Nat.not_lt_zero _)
      | succ fu ih =>
        intro q o1 hmu hq hb9 hB hK1 hno H locs ls hP hD hS hl
        refine lv_iload_n hx hb dX2_canPutFrom_23 rfl (lv_at hl 3 rfl) ?_
        refine lv_bipush (v := iI (((30 : Nat) : Int))) hx hb dX2_canPutFrom_24 (by decide +kernel) ?_
        refine rz_cge (tgt := 76) hx hb dX2_canPutFrom_26 (by decide) (by omega) (by omega) (fun c1 => ?_) (fun c1 => ?_)
        · refine lv_iconst (v := iI (((0 : Nat) : Int))) hx hb dX2_canPutFrom_76 (by decide +kernel) ?_
          exact hret _ _ _ _ _ _ dX2_canPutFrom_77 (Or.inl rfl) ⟨false, _, rfl, rfl, hB, hK1, (fun h => nomatch h), (fun _ P h => by have h1 := hno P h; have h2 := bit_30 (hop _) (h.1 b (Nat.le_refl b) hb9); omega)⟩ hP hD hS
        · refine lv_iload_n hx hb dX2_canPutFrom_29 rfl (lv_at hl 2 rfl) ?_
          refine lv_iload_n hx hb dX2_canPutFrom_30 rfl (lv_at hl 3 rfl) ?_
          refine rz_shr hx hb dX2_canPutFrom_31 (by omega) (by have := hop (b * 4 + b); omega) ?_
          refine lv_iconst (v := iI (((1 : Nat) : Int))) hx hb dX2_canPutFrom_32 (by decide +kernel) ?_
          refine rz_and hx hb dX2_canPutFrom_33 ?_
          refine rz_ieq (tgt := 41) hx hb dX2_canPutFrom_34 (by decide) (by have := tb_r (op (b * 4 + b)) q; omega) (fun c2 => ?_) (fun c2 => ?_)
          · have c2 := tb_f c2
            refine lv_iconst (v := iI (((0 : Nat) : Int))) hx hb dX2_canPutFrom_41 (by decide +kernel) ?_
            refine lv_istore (lv' := [(4, .int (iI (((0 : Nat) : Int)))), (0, .ref hQ), (1, .int (iI (((b : Nat) : Int)))), (2, .int (iI (((op (b * 4 + b) : Nat) : Int)))), (3, .int (iI (((q : Nat) : Int))))]) hx hb dX2_canPutFrom_42 hl (by decide) rfl (fun ls hl => ?_)
            refine lv_iload hx hb dX2_canPutFrom_44 (lv_at hl 0 rfl) ?_
            refine rz_ieq (tgt := 70) hx hb dX2_canPutFrom_46 (by decide) (by omega) (fun c3 => ?_) (fun c3 => ?_)
            · refine lv_iinc (v := iI (((q + 1 : Nat) : Int))) (lv' := [(3, .int (iI (((q + 1 : Nat) : Int)))), (4, .int (iI (((0 : Nat) : Int)))), (0, .ref hQ), (1, .int (iI (((b : Nat) : Int)))), (2, .int (iI (((op (b * 4 + b) : Nat) : Int))))]) hx hb dX2_canPutFrom_70 hl (k := 4) rfl (iI_inc _) (by decide) rfl (fun ls hl => ?_)
              refine lv_goto (tgt := 23) hx hb dX2_canPutFrom_73 (by decide) ?_
              exact ih (q + 1) (o1) (by omega) (by omega) (by omega) (by first | exact g1 | exact f1 | exact hB) (by first | exact (fun j h => by rw [g2 j (by omega), f2 j h, hK1 j h]) | exact (fun j h => by rw [f2 j h, hK1 j h]) | exact hK1) (by first | exact sol_skip2 (r2 := fun j => o2 ((b + 1) * 4 + j)) hb9 hr2 hno2 hno | (obtain ⟨j, h1, h2, h3⟩ := hlr; rw [hK1 _ (by omega)] at h3; exact sol_skip1 h1 h2 h3 hno) | exact sol_skip0 hb9 (by assumption) hno) _ _ _ hP hD hS (lv_sub hl [2, 3, 4, 0] rfl)
            · exfalso; omega
          · have hch := tb_t c2
            refine lv_iconst (v := iI (((1 : Nat) : Int))) hx hb dX2_canPutFrom_37 (by decide +kernel) ?_
            refine lv_goto (tgt := 42) hx hb dX2_canPutFrom_38 (by decide) ?_
            refine lv_istore (lv' := [(4, .int (iI (((1 : Nat) : Int)))), (0, .ref hQ), (1, .int (iI (((b : Nat) : Int)))), (2, .int (iI (((op (b * 4 + b) : Nat) : Int)))), (3, .int (iI (((q : Nat) : Int))))]) hx hb dX2_canPutFrom_42 hl (by decide) rfl (fun ls hl => ?_)
            refine lv_iload hx hb dX2_canPutFrom_44 (lv_at hl 0 rfl) ?_
            refine rz_ieq (tgt := 70) hx hb dX2_canPutFrom_46 (by decide) (by omega) (fun c4 => ?_) (fun c4 => ?_)
            · exfalso; omega
            · refine lv_aload_n hx hb dX2_canPutFrom_49 rfl (lv_at hl 1 rfl) ?_
              refine lv_iload_n hx hb dX2_canPutFrom_50 rfl (lv_at hl 2 rfl) ?_
              refine lv_iload_n hx hb dX2_canPutFrom_51 rfl (lv_at hl 4 rfl) ?_
              have hPc := hP.sub (ws' := [(hQ, .inr (2, [.ref qb, .ref ql, .ref qh, .ref qf, .ref qg, .ref qa, .ref qo, .ref qt, .int (iI (((n : Nat) : Int))), .int (iI (((bw : Nat) : Int)))])), ce_i ql cI 4 (nZ (ln)), ce_i qg cI 16 (lg), ce_i qa cI 4 (nZ (ap)), ce_i qo cI 16 (nZ (o1))]) [0, 1, 2, 3, 4] rfl
              have hDc := hD.sub (ws' := [(hQ, .inr (2, [.ref qb, .ref ql, .ref qh, .ref qf, .ref qg, .ref qa, .ref qo, .ref qt, .int (iI (((n : Nat) : Int))), .int (iI (((bw : Nat) : Int)))])), ce_i ql cI 4 (nZ (ln)), ce_i qg cI 16 (lg), ce_i qa cI 4 (nZ (ap)), ce_i qo cI 16 (nZ (o1))]) [0, 1, 2, 3, 4] (by decide) rfl
              refine rz_calli (va_runV (As := [.int (iI (((b : Nat) : Int))), .int (iI (((q : Nat) : Int)))]) (rest := []) ⟨hx, hb, hml, hown, hts⟩ (k_X2_leavesRoom l D cI cZ H.size hQ qb ql qh qf qg qa qo qt n bw ln lg ap o1 b q (by omega) (by omega) (by omega) hln hlg hap hB) (cwV 2 hts (gG (g_V tm_X2_136 ti_X2_leavesRoom tse_X2_leavesRoom tin_X2 cmX2_leavesRoom)) rfl rfl rfl (by decide +kernel) ⟨by simp only [rmD]; omega, by simp only [rmD]; omega⟩) ⟨cP_blind, va_recv hK hPc (ci := 2) (q0 := 0) rfl rfl, cP_pre hPc hK hN hDc⟩ rfl rfl hl.1 rfl (lv_room (Nat.le_of_ble_eq_true rfl)) dX2_canPutFrom_52 ⟨Nat.le_refl _, Nat.le_refl _⟩) hP hD hS hA [0, 1, 2, 3, 4] [] rfl (wr := []) rfl (by decide) (by decide) (fun z5 w H locs hp hP hD hS => ?_)
              obtain ⟨r1, o2, rfl, rfl, f1, f2, f3, f4⟩ := hp
              have hP : va_P D vwCl [(hQ, .inr (2, [.ref qb, .ref ql, .ref qh, .ref qf, .ref qg, .ref qa, .ref qo, .ref qt, .int (iI (((n : Nat) : Int))), .int (iI (((bw : Nat) : Int)))])), ce_i ql cI 4 (nZ (ln)), ce_i qg cI 16 (lg), ce_i qa cI 4 (nZ (ap)), ce_i qo cI 16 (nZ (o2))] H := hP.sub (ws' := [(hQ, .inr (2, [.ref qb, .ref ql, .ref qh, .ref qf, .ref qg, .ref qa, .ref qo, .ref qt, .int (iI (((n : Nat) : Int))), .int (iI (((bw : Nat) : Int)))])), ce_i ql cI 4 (nZ (ln)), ce_i qg cI 16 (lg), ce_i qa cI 4 (nZ (ap)), ce_i qo cI 16 (nZ (o2))]) [0, 1, 2, 3, 4] rfl
              have hD : va_D A [(hQ, .inr (2, [.ref qb, .ref ql, .ref qh, .ref qf, .ref qg, .ref qa, .ref qo, .ref qt, .int (iI (((n : Nat) : Int))), .int (iI (((bw : Nat) : Int)))])), ce_i ql cI 4 (nZ (ln)), ce_i qg cI 16 (lg), ce_i qa cI 4 (nZ (ap)), ce_i qo cI 16 (nZ (o2))] := hD.sub (ws' := [(hQ, .inr (2, [.ref qb, .ref ql, .ref qh, .ref qf, .ref qg, .ref qa, .ref qo, .ref qt, .int (iI (((n : Nat) : Int))), .int (iI (((bw : Nat) : Int)))])), ce_i ql cI 4 (nZ (ln)), ce_i qg cI 16 (lg), ce_i qa cI 4 (nZ (ap)), ce_i qo cI 16 (nZ (o2))]) [0, 1, 2, 3, 4] (by decide) rfl
              refine rz_beq (z := r1) (tgt := 70) hx hb dX2_canPutFrom_55 (by decide) (fun c6 => ?_) (fun c6 => ?_)
              · have hlr := f4 c6
                refine lv_iinc (v := iI (((q + 1 : Nat) : Int))) (lv' := [(3, .int (iI (((q + 1 : Nat) : Int)))), (4, .int (iI (((1 : Nat) : Int)))), (0, .ref hQ), (1, .int (iI (((b : Nat) : Int)))), (2, .int (iI (((op (b * 4 + b) : Nat) : Int))))]) hx hb dX2_canPutFrom_70 hl (k := 4) rfl (iI_inc _) (by decide) rfl (fun ls hl => ?_)
                refine lv_goto (tgt := 23) hx hb dX2_canPutFrom_73 (by decide) ?_
                exact ih (q + 1) (o2) (by omega) (by omega) (by omega) (by first | exact g1 | exact f1 | exact hB) (by first | exact (fun j h => by rw [g2 j (by omega), f2 j h, hK1 j h]) | exact (fun j h => by rw [f2 j h, hK1 j h]) | exact hK1) (by first | exact sol_skip2 (r2 := fun j => o2 ((b + 1) * 4 + j)) hb9 hr2 hno2 hno | (obtain ⟨j, h1, h2, h3⟩ := hlr; rw [hK1 _ (by omega)] at h3; exact sol_skip1 h1 h2 h3 hno) | exact sol_skip0 hb9 (by assumption) hno) _ _ _ hP hD hS (lv_sub hl [2, 3, 4, 0] rfl)
              · have hr2 : ∀ j, b < j → j < n → o2 ((b + 1) * 4 + j) = op (b * 4 + j) &&& besF ln lg ap b q j := fun j h1 h2 => by rw [show (b + 1) * 4 + j = b * 4 + 4 + j by omega, f3 c6 j h1 h2, hK1 _ (by omega)]
                refine lv_aload_n hx hb dX2_canPutFrom_58 rfl (lv_at hl 1 rfl) ?_
                refine lv_iload_n hx hb dX2_canPutFrom_59 rfl (lv_at hl 2 rfl) ?_
                refine lv_iconst (v := iI (((1 : Nat) : Int))) hx hb dX2_canPutFrom_60 (by decide +kernel) ?_
                refine rn_add hx hb dX2_canPutFrom_61 ?_
                have hPc := hP.sub (ws' := [(hQ, .inr (2, [.ref qb, .ref ql, .ref qh, .ref qf, .ref qg, .ref qa, .ref qo, .ref qt, .int (iI (((n : Nat) : Int))), .int (iI (((bw : Nat) : Int)))])), ce_i ql cI 4 (nZ (ln)), ce_i qg cI 16 (lg), ce_i qa cI 4 (nZ (ap)), ce_i qo cI 16 (nZ (o2))]) [0, 1, 2, 3, 4] rfl
                have hDc := hD.sub (ws' := [(hQ, .inr (2, [.ref qb, .ref ql, .ref qh, .ref qf, .ref qg, .ref qa, .ref qo, .ref qt, .int (iI (((n : Nat) : Int))), .int (iI (((bw : Nat) : Int)))])), ce_i ql cI 4 (nZ (ln)), ce_i qg cI 16 (lg), ce_i qa cI 4 (nZ (ap)), ce_i qo cI 16 (nZ (o2))]) [0, 1, 2, 3, 4] (by decide) rfl
                refine rz_calli (va_runV (As := [.int (iI (((b + 1 : Nat) : Int)))]) (rest := []) ⟨hx, hb, hml, hown, hts⟩ (ihR H.size hQ qb ql qh qf qg qa qo qt n bw ln lg ap o2 (b + 1) (by omega) (by omega) (by omega) hln hlg hap f1) (cwV 1 hts (gG (g_V tm_X2_128 ti_X2_canPutFrom tse_X2_canPutFrom tin_X2 cmX2_canPutFrom)) rfl rfl rfl (by decide +kernel) ⟨by simp only [rmD]; omega, by simp only [rmD]; omega⟩) ⟨cP_blind, va_recv hK hPc (ci := 2) (q0 := 0) rfl rfl, cP_pre hPc hK hN hDc⟩ rfl rfl hl.1 rfl (lv_room (Nat.le_of_ble_eq_true rfl)) dX2_canPutFrom_62 ⟨Nat.le_refl _, Nat.le_refl _⟩) hP hD hS hA [0, 1, 2, 3, 4] [] rfl (wr := []) rfl (by decide) (by decide) (fun z7 w H locs hp hP hD hS => ?_)
                obtain ⟨r2, o3, rfl, rfl, g1, g2, g3, g4⟩ := hp
                have hP : va_P D vwCl [(hQ, .inr (2, [.ref qb, .ref ql, .ref qh, .ref qf, .ref qg, .ref qa, .ref qo, .ref qt, .int (iI (((n : Nat) : Int))), .int (iI (((bw : Nat) : Int)))])), ce_i ql cI 4 (nZ (ln)), ce_i qg cI 16 (lg), ce_i qa cI 4 (nZ (ap)), ce_i qo cI 16 (nZ (o3))] H := hP.sub (ws' := [(hQ, .inr (2, [.ref qb, .ref ql, .ref qh, .ref qf, .ref qg, .ref qa, .ref qo, .ref qt, .int (iI (((n : Nat) : Int))), .int (iI (((bw : Nat) : Int)))])), ce_i ql cI 4 (nZ (ln)), ce_i qg cI 16 (lg), ce_i qa cI 4 (nZ (ap)), ce_i qo cI 16 (nZ (o3))]) [0, 1, 2, 3, 4] rfl
                have hD : va_D A [(hQ, .inr (2, [.ref qb, .ref ql, .ref qh, .ref qf, .ref qg, .ref qa, .ref qo, .ref qt, .int (iI (((n : Nat) : Int))), .int (iI (((bw : Nat) : Int)))])), ce_i ql cI 4 (nZ (ln)), ce_i qg cI 16 (lg), ce_i qa cI 4 (nZ (ap)), ce_i qo cI 16 (nZ (o3))] := hD.sub (ws' := [(hQ, .inr (2, [.ref qb, .ref ql, .ref qh, .ref qf, .ref qg, .ref qa, .ref qo, .ref qt, .int (iI (((n : Nat) : Int))), .int (iI (((bw : Nat) : Int)))])), ce_i ql cI 4 (nZ (ln)), ce_i qg cI 16 (lg), ce_i qa cI 4 (nZ (ap)), ce_i qo cI 16 (nZ (o3))]) [0, 1, 2, 3, 4] (by decide) rfl
                refine rz_beq (z := r2) (tgt := 70) hx hb dX2_canPutFrom_65 (by decide) (fun c8 => ?_) (fun c8 => ?_)
                · have hno2 := g4 c8
                  refine lv_iinc (v := iI (((q + 1 : Nat) : Int))) (lv' := [(3, .int (iI (((q + 1 : Nat) : Int)))), (4, .int (iI (((1 : Nat) : Int)))), (0, .ref hQ), (1, .int (iI (((b : Nat) : Int)))), (2, .int (iI (((op (b * 4 + b) : Nat) : Int))))]) hx hb dX2_canPutFrom_70 hl (k := 4) rfl (iI_inc _) (by decide) rfl (fun ls hl => ?_)
                  refine lv_goto (tgt := 23) hx hb dX2_canPutFrom_73 (by decide) ?_
                  exact ih (q + 1) (o3) (by omega) (by omega) (by omega) (by first | exact g1 | exact f1 | exact hB) (by first | exact (fun j h => by rw [g2 j (by omega), f2 j h, hK1 j h]) | exact (fun j h => by rw [f2 j h, hK1 j h]) | exact hK1) (by first | exact sol_skip2 (r2 := fun j => o2 ((b + 1) * 4 + j)) hb9 hr2 hno2 hno | (obtain ⟨j, h1, h2, h3⟩ := hlr; rw [hK1 _ (by omega)] at h3; exact sol_skip1 h1 h2 h3 hno) | exact sol_skip0 hb9 (by assumption) hno) _ _ _ hP hD hS (lv_sub hl [2, 3, 4, 0] rfl)
                · obtain ⟨P, hSo⟩ := g3 c8
                  refine lv_iconst (v := iI (((1 : Nat) : Int))) hx hb dX2_canPutFrom_68 (by decide +kernel) ?_
                  exact hret _ _ _ _ _ _ dX2_canPutFrom_69 (Or.inr rfl) ⟨true, _, rfl, rfl, g1, (fun j h => by rw [g2 j (by omega), f2 j h, hK1 j h]), (fun _ => ⟨uN P b q, sol_upd hb9 hch hr2 hSo⟩), (fun h => nomatch h)⟩ hP hD hS
    refine lv_iload_n hx hb dX2_canPutFrom_0 rfl (lv_at hl 1 rfl) ?_
    refine lv_aload_n hx hb dX2_canPutFrom_1 rfl (lv_at hl 0 rfl) ?_
    refine va_get (D := D) (ci := 2) (v := .int (iI (((n : Nat) : Int)))) (C := RX2) (T := TX2) (N := 10) hx hb hts in_X2 hown hK hP 0 rfl rfl 8 (by decide) (hts _ (List.mem_cons_of_mem _ tf_X2_45)) (fun _ h9 => h9) rfl dX2_canPutFrom_2 ?_
    refine rz_clt (tgt := 10) hx hb dX2_canPutFrom_5 (by decide) (by omega) (by omega) (fun c9 => ?_) (fun c9 => ?_)
    · refine lv_aload_n hx hb dX2_canPutFrom_10 rfl (lv_at hl 0 rfl) ?_
      refine va_get (D := D) (ci := 2) (v := .ref qo) (C := RX2) (T := TX2) (N := 10) hx hb hts in_X2 hown hK hP 0 rfl rfl 6 (by decide) (hts _ (List.mem_cons_of_mem _ tf_X2_30)) (fun _ h9 => h9) rfl dX2_canPutFrom_11 ?_
      refine lv_iload_n hx hb dX2_canPutFrom_14 rfl (lv_at hl 1 rfl) ?_
      refine lv_iconst (v := iI (((4 : Nat) : Int))) hx hb dX2_canPutFrom_15 (by decide +kernel) ?_
      refine rn_mul hx hb dX2_canPutFrom_16 ?_
      refine lv_iload_n hx hb dX2_canPutFrom_17 rfl (lv_at hl 1 rfl) ?_
      refine rn_add hx hb dX2_canPutFrom_18 ?_
      refine rn_aldM hx hb hK hP 4 0 rfl rfl (by omega) (by omega) dX2_canPutFrom_19 ?_
      refine lv_istore_n (lv' := [(2, .int (iI (((op ((b * 4) + b) : Nat) : Int)))), (0, .ref hQ), (1, .int (iI (((b : Nat) : Int))))]) hx hb dX2_canPutFrom_20 rfl hl (by decide) rfl (fun ls hl => ?_)
      refine lv_iconst (v := iI (((0 : Nat) : Int))) hx hb dX2_canPutFrom_21 (by decide +kernel) ?_
      refine lv_istore_n (lv' := [(3, .int (iI (((0 : Nat) : Int)))), (2, .int (iI (((op ((b * 4) + b) : Nat) : Int)))), (0, .ref hQ), (1, .int (iI (((b : Nat) : Int))))]) hx hb dX2_canPutFrom_22 rfl hl (by decide) rfl (fun ls hl => ?_)
      exact K23 (30 - (0) + 1) (0) (op) (Nat.lt_succ_self _) (by omega) (by omega) hop (fun _ _ => rfl) (fun _ _ => Nat.zero_le _) _ _ _ hP hD hS (lv_sub hl [2, 3, 1, 0] rfl)
    · refine lv_iconst (v := iI (((1 : Nat) : Int))) hx hb dX2_canPutFrom_8 (by decide +kernel) ?_
      exact hret _ _ _ _ _ _ dX2_canPutFrom_9 (Or.inr rfl) ⟨true, _, rfl, rfl, hop, (fun _ _ => rfl), (fun _ => ⟨fun _ => 0, fun j h1 h2 => absurd h2 (by omega), fun i j h1 h2 h3 => absurd h3 (by omega)⟩), (fun h => nomatch h)⟩ hP hD hS

set_option maxHeartbeats 4000000 in
set_option maxRecDepth 100000 in
theorem k_X2_findsAny (l : Launch) (D : va_G) (cI cZ : ClassId) (sz : Nat) (hQ : Nat) (qb : Nat) (ql : Nat) (qh : Nat) (qf : Nat) (qg : Nat) (qa : Nat) (qo : Nat) (qt : Nat) (n : Nat) (bw : Nat) (ln : Nat → Nat) (lg : Nat → Int) (ap : Nat → Nat) (op : Nat → Nat) (hn : n ≤ 4) (hln : ∀ j, ln j ≤ 10) (hlg : ∀ j, -10 ≤ lg j ∧ lg j ≤ 10) (hap : ∀ j, ap j < 16) (hop : ∀ j, op j < 1073741824) : Ci l yX2_findsAny wsX2_findsAny (rmD 9) D vwCl [(cI, .int), (cZ, .boolean)] [.ref hQ] [(hQ, .inr (2, [.ref qb, .ref ql, .ref qh, .ref qf, .ref qg, .ref qa, .ref qo, .ref qt, .int (iI (((n : Nat) : Int))), .int (iI (((bw : Nat) : Int)))])), ce_i ql cI 4 (nZ (ln)), ce_i qg cI 16 (lg), ce_i qa cI 4 (nZ (ap)), ce_i qo cI 16 (nZ (op))] sz (fun z w => ∃ rz : Bool, ∃ op2 : Nat → Nat, w = [(hQ, .inr (2, [.ref qb, .ref ql, .ref qh, .ref qf, .ref qg, .ref qa, .ref qo, .ref qt, .int (iI (((n : Nat) : Int))), .int (iI (((bw : Nat) : Int)))])), ce_i ql cI 4 (nZ (ln)), ce_i qg cI 16 (lg), ce_i qa cI 4 (nZ (ap)), ce_i qo cI 16 (nZ (op2))] ∧ (z = b2z (rz)) ∧ (∀ j, op2 j < 1073741824) ∧ (∀ j, j < 0 * 4 + 4 → op2 j = op j) ∧ (rz = true → ∃ P, SolF ln lg ap n 0 (fun j => op (0 * 4 + j)) P) ∧ (rz = false → ∀ P, ¬ SolF ln lg ap n 0 (fun j => op (0 * 4 + j)) P)) 0 0 := by
  refine Cz_of (cc := cX2_findsAny) (nL := 1) (by decide) rfl (Nat.le_of_ble_eq_true rfl) ?_
  intro p e s m below meth c A Q hsz C hK hN hA hP hD hS hret ls hl
  obtain ⟨hx, hb, hml, hown, hts⟩ := id C
  have hown : s.vm.findClass RX2 = some m.cls := hown
  have hl : lv_has ls 1 [(0, .ref hQ)] := hl
  refine lv_aload_n hx hb dX2_findsAny_0 rfl (lv_at hl 0 rfl) ?_
  refine lv_iconst (v := iI (((0 : Nat) : Int))) hx hb dX2_findsAny_1 (by decide +kernel) ?_
  have hPc := hP.sub (ws' := [(hQ, .inr (2, [.ref qb, .ref ql, .ref qh, .ref qf, .ref qg, .ref qa, .ref qo, .ref qt, .int (iI (((n : Nat) : Int))), .int (iI (((bw : Nat) : Int)))])), ce_i ql cI 4 (nZ (ln)), ce_i qg cI 16 (lg), ce_i qa cI 4 (nZ (ap)), ce_i qo cI 16 (nZ (op))]) [0, 1, 2, 3, 4] rfl
  have hDc := hD.sub (ws' := [(hQ, .inr (2, [.ref qb, .ref ql, .ref qh, .ref qf, .ref qg, .ref qa, .ref qo, .ref qt, .int (iI (((n : Nat) : Int))), .int (iI (((bw : Nat) : Int)))])), ce_i ql cI 4 (nZ (ln)), ce_i qg cI 16 (lg), ce_i qa cI 4 (nZ (ap)), ce_i qo cI 16 (nZ (op))]) [0, 1, 2, 3, 4] (by decide) rfl
  refine rz_calli (va_runV (As := [.int (iI (((0 : Nat) : Int)))]) (rest := []) ⟨hx, hb, hml, hown, hts⟩ (k_X2_canPutFrom l D cI cZ 4 s.heap.size hQ qb ql qh qf qg qa qo qt n bw ln lg ap op 0 (by omega) (by omega) (by omega) hln hlg hap hop) (cwV 1 hts (gG (g_V tm_X2_128 ti_X2_canPutFrom tse_X2_canPutFrom tin_X2 cmX2_canPutFrom)) rfl rfl rfl (by decide +kernel) ⟨Nat.le_of_ble_eq_true rfl, Nat.le_of_ble_eq_true rfl⟩) ⟨cP_blind, va_recv hK hPc (ci := 2) (q0 := 0) rfl rfl, cP_pre hPc hK hN hDc⟩ rfl rfl hl.1 rfl (lv_room (Nat.le_of_ble_eq_true rfl)) dX2_findsAny_2 ⟨Nat.le_refl _, Nat.le_refl _⟩) hP hD hS hA [0, 1, 2, 3, 4] [] rfl (wr := []) rfl (by decide) (by decide) (fun z1 w H locs hp hP hD hS => ?_)
  obtain ⟨r1, o1, rfl, rfl, f1, f2, f3, f4⟩ := hp
  have hP : va_P D vwCl [(hQ, .inr (2, [.ref qb, .ref ql, .ref qh, .ref qf, .ref qg, .ref qa, .ref qo, .ref qt, .int (iI (((n : Nat) : Int))), .int (iI (((bw : Nat) : Int)))])), ce_i ql cI 4 (nZ (ln)), ce_i qg cI 16 (lg), ce_i qa cI 4 (nZ (ap)), ce_i qo cI 16 (nZ (o1))] H := hP.sub (ws' := [(hQ, .inr (2, [.ref qb, .ref ql, .ref qh, .ref qf, .ref qg, .ref qa, .ref qo, .ref qt, .int (iI (((n : Nat) : Int))), .int (iI (((bw : Nat) : Int)))])), ce_i ql cI 4 (nZ (ln)), ce_i qg cI 16 (lg), ce_i qa cI 4 (nZ (ap)), ce_i qo cI 16 (nZ (o1))]) [0, 1, 2, 3, 4] rfl
  have hD : va_D A [(hQ, .inr (2, [.ref qb, .ref ql, .ref qh, .ref qf, .ref qg, .ref qa, .ref qo, .ref qt, .int (iI (((n : Nat) : Int))), .int (iI (((bw : Nat) : Int)))])), ce_i ql cI 4 (nZ (ln)), ce_i qg cI 16 (lg), ce_i qa cI 4 (nZ (ap)), ce_i qo cI 16 (nZ (o1))] := hD.sub (ws' := [(hQ, .inr (2, [.ref qb, .ref ql, .ref qh, .ref qf, .ref qg, .ref qa, .ref qo, .ref qt, .int (iI (((n : Nat) : Int))), .int (iI (((bw : Nat) : Int)))])), ce_i ql cI 4 (nZ (ln)), ce_i qg cI 16 (lg), ce_i qa cI 4 (nZ (ap)), ce_i qo cI 16 (nZ (o1))]) [0, 1, 2, 3, 4] (by decide) rfl
  exact hret _ _ _ _ _ _ dX2_findsAny_5 (b2z_01 _) ⟨_, _, rfl, rfl, f1, f2, f3, f4⟩ hP hD hS
