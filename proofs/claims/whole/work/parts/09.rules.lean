/-! Search: rules taken over, batches loaded, starts closed -/
theorem daysF_tb (a b : Int) (i : Nat) : (daysF a b).testBit i = decide (a ≤ (i : Int) ∧ (i : Int) ≤ b ∧ i < 10) := by
  unfold daysF
  by_cases h : max a 0 ≤ min b 9
  · rw [if_pos h]
    have key : ∀ lo, lo < 10 → ∀ hi, hi < 10 → lo ≤ hi → ∀ i, i < 32 → (1 * 2 ^ (hi + 1) - 1 * 2 ^ lo).testBit i = decide (lo ≤ i ∧ i ≤ hi) := by decide +kernel
    have e1 : (min b 9 + 1).toNat = (min b 9).toNat + 1 := by omega
    by_cases hi : i < 32
    · rw [e1, key (max a 0).toNat (by omega) (min b 9).toNat (by omega) (by omega) i hi]
      congr 1; apply propext; omega
    · have hlt : 1 * 2 ^ (min b 9 + 1).toNat - 1 * 2 ^ (max a 0).toNat < 2 ^ i := by
        have h1 : 1 * 2 ^ (min b 9 + 1).toNat ≤ 1 * 2 ^ 10 := pw_le (by omega)
        have h2 : 1 * 2 ^ 11 ≤ 1 * 2 ^ i := pw_le (by omega)
        omega
      rw [Nat.testBit_lt_two_pow hlt]; symm; apply decide_eq_false; omega
  · rw [if_neg h, Nat.zero_testBit]; symm; apply decide_eq_false; omega
theorem ie_tb : ∀ v, v < 1024 → ∀ q, q < 30 → (v * 1049601).testBit q = v.testBit (q % 10) := by decide +kernel
theorem stI_tb {x q : Nat} (hq : q < 30) (h : x.testBit q = true) : (stI x).testBit (q % 10) = true := by
  have h10 : q % 10 < 10 := Nat.mod_lt _ (by decide)
  have hd : q / 10 = 0 ∨ q / 10 = 1 ∨ q / 10 = 2 := by omega
  have hq2 : q = 10 * (q / 10) + q % 10 := by omega
  rw [stI, Nat.testBit_and, Nat.testBit_or, Nat.testBit_or, show (1023 : Nat) = 2 ^ 10 - 1 from rfl, Nat.testBit_two_pow_sub_one, Nat.testBit_div_two_pow, Nat.testBit_div_two_pow]
  rcases hd with e | e | e
  · rw [show q % 10 = q by omega, h]; simp; omega
  · rw [show q % 10 + 10 = q by omega, h]; simp [h10]
  · rw [show q % 10 + 20 = q by omega, h]; simp [h10]
theorem fs_le {x q : Nat} (hq : q < 30) (h : x.testBit q = true) : ntzV (stI x) ≤ q % 10 := ntz_le _ (stI_lt x) _ (Nat.mod_lt _ (by decide)) (stI_tb hq h)
theorem la_ge {x q : Nat} (hq : q < 30) (h : x.testBit q = true) : q % 10 + nlzV (stI x) ≤ 31 := nlz_ge _ (stI_lt x) _ (Nat.mod_lt _ (by decide)) (stI_tb hq h)
theorem bit_30 {x q : Nat} (hx : x < 1073741824) (h : x.testBit q = true) : q < 30 := by
  rcases Nat.lt_or_ge q 30 with h1 | h1
  · exact h1
  · have : x < 2 ^ q := Nat.lt_of_lt_of_le hx (show 2 ^ 30 ≤ 2 ^ q from Nat.pow_le_pow_right (by decide) h1)
    rw [Nat.testBit_lt_two_pow this] at h; cases h
theorem and_lt {x y : Nat} (h : x < 1073741824) : x &&& y < 1073741824 := Nat.lt_of_le_of_lt Nat.and_le_left h
def tkL (lg : Nat → Int) (kd a b d : Int) : Nat → Int := if kd = 0 then uZ lg (a.toNat * 4 + b.toNat) (max (lg (a.toNat * 4 + b.toNat)) d) else lg
def tkA (ap : Nat → Nat) (kd a b : Int) : Nat → Nat := if kd = 1 then uN (uN ap a.toNat (ap a.toNat ||| 1 * 2 ^ b.toNat)) b.toNat (uN ap a.toNat (ap a.toNat ||| 1 * 2 ^ b.toNat) b.toNat ||| 1 * 2 ^ a.toNat) else ap
def tkO (ln op : Nat → Nat) (kd a d : Int) : Nat → Nat := if kd = 2 then uN op a.toNat (op a.toNat &&& daysF ((0 : Nat) : Int) (d - ((ln a.toNat : Nat) : Int)) * 1049601) else if kd = 3 then uN op a.toNat (op a.toNat &&& daysF d ((9 : Nat) : Int) * 1049601) else op
/-- a plan that stands in the open places, and keeps the lags -/
def KeepP (ln : Nat → Nat) (lg : Nat → Int) (n : Nat) (op P : Nat → Nat) : Prop := (∀ j, j < n → (op j).testBit (P j) = true ∧ P j < 30) ∧ ∀ a b, a < n → b < n → lg (a * 4 + b) ≠ -10 → ((P b % 10 + ln b : Nat) : Int) + lg (a * 4 + b) ≤ ((P a % 10 : Nat) : Int)
theorem close1 {ln op P : Nat → Nat} {lg : Nat → Int} {n a b : Nat} (ha : a < n) (hb : b < n) (hl : lg (a * 4 + b) ≠ -10) (h : KeepP ln lg n op P) : KeepP ln lg n (uN op a (op a &&& daysF (((ntzV (stI (op b)) : Nat) : Int) + (((ln b : Nat) : Int) + lg (a * 4 + b))) ((9 : Nat) : Int) * 1049601)) P := by
  refine ⟨fun j hj => ?_, h.2⟩
  obtain ⟨h1, h2⟩ := h.1 j hj
  refine ⟨?_, h2⟩
  by_cases e : j = a
  · subst e
    rw [uN_s, Nat.testBit_and, h1, ie_tb _ (daysF_lt _ _) _ h2, daysF_tb]
    obtain ⟨h3, h4⟩ := h.1 b hb
    have h5 := fs_le h4 h3
    have h6 := h.2 j b hj hb hl
    simp; omega
  · rw [uN_n _ _ e]; exact h1
theorem close2 {ln op P : Nat → Nat} {lg : Nat → Int} {n a b : Nat} (ha : a < n) (hb : b < n) (hl : lg (a * 4 + b) ≠ -10) (h : KeepP ln lg n op P) : KeepP ln lg n (uN op b (op b &&& daysF ((0 : Nat) : Int) ((((31 : Nat) : Int) - ((nlzV (stI (op a)) : Nat) : Int)) - (((ln b : Nat) : Int) + lg (a * 4 + b))) * 1049601)) P := by
  refine ⟨fun j hj => ?_, h.2⟩
  obtain ⟨h1, h2⟩ := h.1 j hj
  refine ⟨?_, h2⟩
  by_cases e : j = b
  · subst e
    rw [uN_s, Nat.testBit_and, h1, ie_tb _ (daysF_lt _ _) _ h2, daysF_tb]
    obtain ⟨h3, h4⟩ := h.1 a ha
    have h5 := la_ge h4 h3
    have h6 := h.2 a j ha hj hl
    simp; omega
  · rw [uN_n _ _ e]; exact h1
theorem sub_and {op : Nat → Nat} {k m j t : Nat} (h : (uN op k (op k &&& m) j).testBit t = true) : (op j).testBit t = true := by
  by_cases e : j = k
  · subst e; rw [uN_s, Nat.testBit_and] at h; simp at h; exact h.1
  · rw [uN_n _ _ e] at h; exact h
def mixN (k : Nat) (f g : Nat → Nat) : Nat → Nat := fun j => if j < k then f j else g j
theorem mixN_u (k : Nat) (f g : Nat → Nat) : uN (mixN k f g) k (f k) = mixN (k + 1) f g := by
  funext j; simp only [uN, mixN]
  by_cases h : j = k
  · rw [if_pos h, if_pos (by omega), h]
  · rw [if_neg h]
    by_cases h2 : j < k
    · rw [if_pos h2, if_pos (by omega)]
    · rw [if_neg h2, if_neg (by omega)]
theorem mixN_0 (f g : Nat → Nat) : mixN 0 f g = g := by funext j; simp [mixN]
/-- a batch's places, all but the rules -/
def frF (bl pl ea : Nat → Nat) (fz : Nat → Bool) (T dd sh : Nat) (j : Nat) : Nat :=
  if fz j = true then freeF (daysF ((ea j : Nat) : Int) (((dd : Nat) : Int) - ((bl j : Nat) : Int))) (daysF 0 (((bl j : Nat) : Int) - ((1 : Nat) : Int))) sh (T * 10) &&& 1 * 2 ^ pl j
  else freeF (daysF ((ea j : Nat) : Int) (((dd : Nat) : Int) - ((bl j : Nat) : Int))) (daysF 0 (((bl j : Nat) : Int) - ((1 : Nat) : Int))) sh (T * 10)
/-- the rules taken over, one behind the other, but for one -/
def TL (rk ra rb rd : Nat → Int) (wo : Int) (g : Nat → Int) : Nat → Nat → Int
  | 0 => g
  | k + 1 => if ((k : Nat) : Int) = wo then TL rk ra rb rd wo g k else tkL (TL rk ra rb rd wo g k) (rk k) (ra k) (rb k) (rd k)
def TA (rk ra rb : Nat → Int) (wo : Int) (g : Nat → Nat) : Nat → Nat → Nat
  | 0 => g
  | k + 1 => if ((k : Nat) : Int) = wo then TA rk ra rb wo g k else tkA (TA rk ra rb wo g k) (rk k) (ra k) (rb k)
def TO (ln : Nat → Nat) (rk ra rd : Nat → Int) (wo : Int) (g : Nat → Nat) : Nat → Nat → Nat
  | 0 => g
  | k + 1 => if ((k : Nat) : Int) = wo then TO ln rk ra rd wo g k else tkO ln (TO ln rk ra rd wo g k) (rk k) (ra k) (rd k)
theorem tkL_b {lg : Nat → Int} (h : ∀ j, -10 ≤ lg j ∧ lg j ≤ 10) {kd a b d : Int} (hd : kd ≠ 1 → 0 ≤ d ∧ d ≤ 10) : ∀ j, -10 ≤ tkL lg kd a b d j ∧ tkL lg kd a b d j ≤ 10 := by
  intro j; unfold tkL; split
  · rename_i e
    have := hd (by omega)
    have h2 := h (a.toNat * 4 + b.toNat)
    exact uZ_all (P := fun x => -10 ≤ x ∧ x ≤ 10) h _ (by omega) j
  · exact h j
theorem or16 {x y : Nat} (hx : x < 16) (hy : y < 4) : x ||| 1 * 2 ^ y < 16 := Nat.or_lt_two_pow (n := 4) hx (by rw [Nat.one_mul]; exact Nat.pow_lt_pow_right (by decide) hy)
theorem tkA_b {ap : Nat → Nat} (h : ∀ j, ap j < 16) {kd a b : Int} (ha : 0 ≤ a ∧ a < 4) (hb : kd ≤ 1 → 0 ≤ b ∧ b < 4) : ∀ j, tkA ap kd a b j < 16 := by
  unfold tkA; split
  · rename_i e
    have := hb (by omega)
    have h1 : ∀ j, uN ap a.toNat (ap a.toNat ||| 1 * 2 ^ b.toNat) j < 16 := uN_all (P := fun x => x < 16) h _ (or16 (h _) (by omega))
    exact uN_all (P := fun x => x < 16) h1 _ (or16 (h1 _) (by omega))
  · exact h
theorem tkO_b {ln op : Nat → Nat} (h : ∀ j, op j < 1073741824) {kd a d : Int} : ∀ j, tkO ln op kd a d j < 1073741824 := by
  unfold tkO; split
  · exact uN_all (P := fun x => x < 1073741824) h _ (and_lt (h _))
  · split
    · exact uN_all (P := fun x => x < 1073741824) h _ (and_lt (h _))
    · exact h

set_option maxHeartbeats 4000000 in
set_option maxRecDepth 100000 in
theorem k_X2_takeOne (l : Launch) (D : va_G) (cI cZ : ClassId) (sz : Nat) (hQ : Nat) (qb : Nat) (ql : Nat) (qh : Nat) (qf : Nat) (qg : Nat) (qa : Nat) (qo : Nat) (qt : Nat) (n : Nat) (bw : Nat) (ln : Nat → Nat) (lg : Nat → Int) (ap : Nat → Nat) (op : Nat → Nat) (kd : Int) (a : Int) (b : Int) (d : Int) (hkd : 0 ≤ kd ∧ kd ≤ 3) (ha : 0 ≤ a ∧ a < 4) (hb9 : kd ≤ 1 → 0 ≤ b ∧ b < 4) (hb8 : -2147483648 ≤ b ∧ b < 2147483648) (hd9 : kd ≠ 1 → 0 ≤ d ∧ d ≤ 10) (hd8 : -2147483648 ≤ d ∧ d < 2147483648) (hln : ∀ j, ln j ≤ 10) (hlg : ∀ j, -10 ≤ lg j ∧ lg j ≤ 10) (hap : ∀ j, ap j < 16) (hop : ∀ j, op j < 1073741824) : Cv l yX2_takeOne wsX2_takeOne (rmD 3) D vwCl [(cI, .int), (cZ, .boolean)] [.ref hQ, .int (iI (kd)), .int (iI (a)), .int (iI (b)), .int (iI (d))] [(hQ, .inr (2, [.ref qb, .ref ql, .ref qh, .ref qf, .ref qg, .ref qa, .ref qo, .ref qt, .int (iI (((n : Nat) : Int))), .int (iI (((bw : Nat) : Int)))])), ce_i ql cI 4 (nZ (ln)), ce_i qg cI 16 (lg), ce_i qa cI 4 (nZ (ap)), ce_i qo cI 16 (nZ (op))] sz (fun w => ∃ lg2 : Nat → Int, ∃ ap2 : Nat → Nat, ∃ op2 : Nat → Nat, w = [(hQ, .inr (2, [.ref qb, .ref ql, .ref qh, .ref qf, .ref qg, .ref qa, .ref qo, .ref qt, .int (iI (((n : Nat) : Int))), .int (iI (((bw : Nat) : Int)))])), ce_i ql cI 4 (nZ (ln)), ce_i qg cI 16 (lg2), ce_i qa cI 4 (nZ (ap2)), ce_i qo cI 16 (nZ (op2))] ∧ (lg2 = tkL lg kd a b d) ∧ (ap2 = tkA ap kd a b) ∧ (op2 = tkO ln op kd a d)) 0 0 := by
  refine Cv_of (cc := cX2_takeOne) (nL := 6) (by decide) rfl (Nat.le_of_ble_eq_true rfl) ?_
  intro p e s m below meth c A Q hsz C hK hN hA hP hD hS hin hret ls hl
  obtain ⟨hx, hb, hml, hown, hts⟩ := id C
  have hown : s.vm.findClass RX2 = some m.cls := hown
  have hl : lv_has ls 6 [(0, .ref hQ), (1, .int (iI (kd))), (2, .int (iI (a))), (3, .int (iI (b))), (4, .int (iI (d)))] := hl
  have in_X2 : ∀ w ∈ u_ws RX2 TX2 10, w ∈ wsX2_takeOne := fun w h => List.mem_cons_of_mem _ (inX2 w h)
  have l1 := hln a.toNat
  have g1 := hlg (a.toNat * 4 + b.toNat)
  have hz : 0 ≤ a.toNat ∧ a.toNat < 4 := by omega
  refine lv_iload_n hx hb dX2_takeOne_0 rfl (lv_at hl 1 rfl) ?_
  refine rz_ine (tgt := 33) hx hb dX2_takeOne_1 (by decide) (by omega) (fun c1 => ?_) (fun c1 => ?_)
  · refine lv_iload_n hx hb dX2_takeOne_33 rfl (lv_at hl 1 rfl) ?_
    refine lv_iconst (v := iI (((1 : Nat) : Int))) hx hb dX2_takeOne_34 (by decide +kernel) ?_
    refine rz_cne (tgt := 65) hx hb dX2_takeOne_35 (by decide) (by omega) (by omega) (fun c2 => ?_) (fun c2 => ?_)
    · refine lv_iload_n hx hb dX2_takeOne_65 rfl (lv_at hl 1 rfl) ?_
      refine lv_iconst (v := iI (((2 : Nat) : Int))) hx hb dX2_takeOne_66 (by decide +kernel) ?_
      refine rz_cne (tgt := 98) hx hb dX2_takeOne_67 (by decide) (by omega) (by omega) (fun c3 => ?_) (fun c3 => ?_)
      · refine lv_iload_n hx hb dX2_takeOne_98 rfl (lv_at hl 1 rfl) ?_
        refine lv_iconst (v := iI (((3 : Nat) : Int))) hx hb dX2_takeOne_99 (by decide +kernel) ?_
        refine rz_cne (tgt := 122) hx hb dX2_takeOne_100 (by decide) (by omega) (by omega) (fun c4 => ?_) (fun c4 => ?_)
        · exfalso; omega
        · refine lv_aload_n hx hb dX2_takeOne_103 rfl (lv_at hl 0 rfl) ?_
          refine va_get (D := D) (ci := 2) (v := .ref qo) (C := RX2) (T := TX2) (N := 10) hx hb hts in_X2 hown hK hP 0 rfl rfl 6 (by decide) (hts _ (List.mem_cons_of_mem _ tf_X2_30)) (fun _ h9 => h9) rfl dX2_takeOne_104 ?_
          refine lv_iload_n hx hb dX2_takeOne_107 rfl (lv_at hl 2 rfl) ?_
          refine rz_as (y := ((a.toNat : Nat) : Int)) (by omega) ?_
          refine lv_dup2_11 hx hb dX2_takeOne_108 rfl rfl ?_
          refine rn_aldM hx hb hK hP 4 0 rfl rfl (by omega) (by omega) dX2_takeOne_109 ?_
          refine lv_iload hx hb dX2_takeOne_110 (lv_at hl 4 rfl) ?_
          refine lv_bipush (v := iI (((9 : Nat) : Int))) hx hb dX2_takeOne_112 (by decide +kernel) ?_
          have hPc := hP.sub (ws' := []) [] rfl
          have hDc := hD.sub (ws' := []) [] (by decide) rfl
          refine rz_calliR (va_runSN (As := [.int (iI (d)), .int (iI (((9 : Nat) : Int)))]) (rest := [.int (iI (((op a.toNat : Nat) : Int))), .int (iI (((a.toNat : Nat) : Int))), .ref qo]) ⟨hx, hb, hml, hown, hts⟩ (k_X4_daysFromTo l D cI cZ s.heap.size d ((9 : Nat) : Int) (by omega) (by omega)) ⟨va_cnB 2 hts (gG (g_c cmX4_daysFromTo)) rfl rfl rfl (nK_X2_50 hN) (hts _ (List.mem_cons_of_mem _ tin_X4)) (by decide +kernel) ⟨Nat.le_of_ble_eq_true rfl, Nat.le_of_ble_eq_true rfl⟩, hts _ (List.mem_cons_of_mem _ ts_X4_daysFromTo), trivial⟩ ⟨cP_blind, cP_pre hPc hK hN hDc⟩ rfl rfl hl.1 rfl (lv_room (Nat.le_of_ble_eq_true rfl)) dX2_takeOne_114 ⟨Nat.le_refl _, Nat.le_refl _⟩) hP hD hS hA [] rfl (fun z5 H locs hp hP hS => ?_)
          subst hp
          have hPc := hP.sub (ws' := []) [] rfl
          have hDc := hD.sub (ws' := []) [] (by decide) rfl
          refine rz_calliR (va_runS (As := [.int (iI (((daysF d ((9 : Nat) : Int) : Nat) : Int)))]) (rest := [.int (iI (((op a.toNat : Nat) : Int))), .int (iI (((a.toNat : Nat) : Int))), .ref qo]) ⟨hx, hb, hml, hown, hts⟩ (k_X2_inEveryTank l D cI cZ H.size (daysF d ((9 : Nat) : Int)) ) (va_cwS 1 hts (gG (g_S tm_X2_108 ts_X2_inEveryTank tin_X2 cmX2_inEveryTank)) rfl rfl rfl (by decide +kernel) ⟨Nat.le_of_ble_eq_true rfl, Nat.le_of_ble_eq_true rfl⟩) ⟨cP_blind, cP_pre hPc hK hN hDc⟩ rfl rfl hl.1 rfl (lv_room (Nat.le_of_ble_eq_true rfl)) dX2_takeOne_117 ⟨Nat.le_refl _, Nat.le_refl _⟩) hP hD hS hA [] rfl (fun z6 H locs hp hP hS => ?_)
          subst hp
          refine rz_and hx hb dX2_takeOne_120 ?_
          refine rn_astM hx hb hK hP hD hS 4 0 rfl rfl (by omega) (by omega) dX2_takeOne_121 (fun H locs hP hD hS => ?_)
          have hP : va_P D vwCl [(hQ, .inr (2, [.ref qb, .ref ql, .ref qh, .ref qf, .ref qg, .ref qa, .ref qo, .ref qt, .int (iI (((n : Nat) : Int))), .int (iI (((bw : Nat) : Int)))])), ce_i ql cI 4 (nZ (ln)), ce_i qg cI 16 (lg), ce_i qa cI 4 (nZ (ap)), ce_i qo cI 16 (nZ (uN op a.toNat ((op a.toNat) &&& ((daysF d ((9 : Nat) : Int)) * 1049601))))] H := hP
          have hD : va_D A [(hQ, .inr (2, [.ref qb, .ref ql, .ref qh, .ref qf, .ref qg, .ref qa, .ref qo, .ref qt, .int (iI (((n : Nat) : Int))), .int (iI (((bw : Nat) : Int)))])), ce_i ql cI 4 (nZ (ln)), ce_i qg cI 16 (lg), ce_i qa cI 4 (nZ (ap)), ce_i qo cI 16 (nZ (uN op a.toNat ((op a.toNat) &&& ((daysF d ((9 : Nat) : Int)) * 1049601))))] := hD
          exact hret _ _ _ _ _ dX2_takeOne_122 ⟨_, _, _, rfl, (by first | rw [tkL, if_pos (by omega)] | rw [tkL, if_neg (by omega)]), (by first | rw [tkA, if_pos (by omega)] | rw [tkA, if_neg (by omega)]), (by first | rw [tkO, if_pos (by omega)] | rw [tkO, if_neg (by omega), if_pos (by omega)] | rw [tkO, if_neg (by omega), if_neg (by omega)])⟩ hP hD hS
      · refine lv_aload_n hx hb dX2_takeOne_70 rfl (lv_at hl 0 rfl) ?_
        refine va_get (D := D) (ci := 2) (v := .ref qo) (C := RX2) (T := TX2) (N := 10) hx hb hts in_X2 hown hK hP 0 rfl rfl 6 (by decide) (hts _ (List.mem_cons_of_mem _ tf_X2_30)) (fun _ h9 => h9) rfl dX2_takeOne_71 ?_
        refine lv_iload_n hx hb dX2_takeOne_74 rfl (lv_at hl 2 rfl) ?_
        refine rz_as (y := ((a.toNat : Nat) : Int)) (by omega) ?_
        refine lv_dup2_11 hx hb dX2_takeOne_75 rfl rfl ?_
        refine rn_aldM hx hb hK hP 4 0 rfl rfl (by omega) (by omega) dX2_takeOne_76 ?_
        refine lv_iconst (v := iI (((0 : Nat) : Int))) hx hb dX2_takeOne_77 (by decide +kernel) ?_
        refine lv_iload hx hb dX2_takeOne_78 (lv_at hl 4 rfl) ?_
        refine lv_aload_n hx hb dX2_takeOne_80 rfl (lv_at hl 0 rfl) ?_
        refine va_get (D := D) (ci := 2) (v := .ref ql) (C := RX2) (T := TX2) (N := 10) hx hb hts in_X2 hown hK hP 0 rfl rfl 1 (by decide) (hts _ (List.mem_cons_of_mem _ tf_X2_15)) (fun _ h9 => h9) rfl dX2_takeOne_81 ?_
        refine lv_iload_n hx hb dX2_takeOne_84 rfl (lv_at hl 2 rfl) ?_
        refine rz_as (y := ((a.toNat : Nat) : Int)) (by omega) ?_
        refine rn_aldM hx hb hK hP 1 0 rfl rfl (by omega) (by omega) dX2_takeOne_85 ?_
        refine rz_sub hx hb dX2_takeOne_86 ?_
        have hPc := hP.sub (ws' := []) [] rfl
        have hDc := hD.sub (ws' := []) [] (by decide) rfl
        refine rz_calliR (va_runSN (As := [.int (iI (((0 : Nat) : Int))), .int (iI (d - ((ln a.toNat : Nat) : Int)))]) (rest := [.int (iI (((op a.toNat : Nat) : Int))), .int (iI (((a.toNat : Nat) : Int))), .ref qo]) ⟨hx, hb, hml, hown, hts⟩ (k_X4_daysFromTo l D cI cZ s.heap.size ((0 : Nat) : Int) (d - ((ln a.toNat : Nat) : Int)) (by omega) (by omega)) ⟨va_cnB 2 hts (gG (g_c cmX4_daysFromTo)) rfl rfl rfl (nK_X2_50 hN) (hts _ (List.mem_cons_of_mem _ tin_X4)) (by decide +kernel) ⟨Nat.le_of_ble_eq_true rfl, Nat.le_of_ble_eq_true rfl⟩, hts _ (List.mem_cons_of_mem _ ts_X4_daysFromTo), trivial⟩ ⟨cP_blind, cP_pre hPc hK hN hDc⟩ rfl rfl hl.1 rfl (lv_room (Nat.le_of_ble_eq_true rfl)) dX2_takeOne_87 ⟨Nat.le_refl _, Nat.le_refl _⟩) hP hD hS hA [] rfl (fun z7 H locs hp hP hS => ?_)
        subst hp
        have hPc := hP.sub (ws' := []) [] rfl
        have hDc := hD.sub (ws' := []) [] (by decide) rfl
        refine rz_calliR (va_runS (As := [.int (iI (((daysF ((0 : Nat) : Int) (d - ((ln a.toNat : Nat) : Int)) : Nat) : Int)))]) (rest := [.int (iI (((op a.toNat : Nat) : Int))), .int (iI (((a.toNat : Nat) : Int))), .ref qo]) ⟨hx, hb, hml, hown, hts⟩ (k_X2_inEveryTank l D cI cZ H.size (daysF ((0 : Nat) : Int) (d - ((ln a.toNat : Nat) : Int))) ) (va_cwS 1 hts (gG (g_S tm_X2_108 ts_X2_inEveryTank tin_X2 cmX2_inEveryTank)) rfl rfl rfl (by decide +kernel) ⟨Nat.le_of_ble_eq_true rfl, Nat.le_of_ble_eq_true rfl⟩) ⟨cP_blind, cP_pre hPc hK hN hDc⟩ rfl rfl hl.1 rfl (lv_room (Nat.le_of_ble_eq_true rfl)) dX2_takeOne_90 ⟨Nat.le_refl _, Nat.le_refl _⟩) hP hD hS hA [] rfl (fun z8 H locs hp hP hS => ?_)
        subst hp
        refine rz_and hx hb dX2_takeOne_93 ?_
        refine rn_astM hx hb hK hP hD hS 4 0 rfl rfl (by omega) (by omega) dX2_takeOne_94 (fun H locs hP hD hS => ?_)
        have hP : va_P D vwCl [(hQ, .inr (2, [.ref qb, .ref ql, .ref qh, .ref qf, .ref qg, .ref qa, .ref qo, .ref qt, .int (iI (((n : Nat) : Int))), .int (iI (((bw : Nat) : Int)))])), ce_i ql cI 4 (nZ (ln)), ce_i qg cI 16 (lg), ce_i qa cI 4 (nZ (ap)), ce_i qo cI 16 (nZ (uN op a.toNat ((op a.toNat) &&& ((daysF ((0 : Nat) : Int) (d - ((ln a.toNat : Nat) : Int))) * 1049601))))] H := hP
        have hD : va_D A [(hQ, .inr (2, [.ref qb, .ref ql, .ref qh, .ref qf, .ref qg, .ref qa, .ref qo, .ref qt, .int (iI (((n : Nat) : Int))), .int (iI (((bw : Nat) : Int)))])), ce_i ql cI 4 (nZ (ln)), ce_i qg cI 16 (lg), ce_i qa cI 4 (nZ (ap)), ce_i qo cI 16 (nZ (uN op a.toNat ((op a.toNat) &&& ((daysF ((0 : Nat) : Int) (d - ((ln a.toNat : Nat) : Int))) * 1049601))))] := hD
        refine lv_goto (tgt := 122) hx hb dX2_takeOne_95 (by decide) ?_
        exact hret _ _ _ _ _ dX2_takeOne_122 ⟨_, _, _, rfl, (by first | rw [tkL, if_pos (by omega)] | rw [tkL, if_neg (by omega)]), (by first | rw [tkA, if_pos (by omega)] | rw [tkA, if_neg (by omega)]), (by first | rw [tkO, if_pos (by omega)] | rw [tkO, if_neg (by omega), if_pos (by omega)] | rw [tkO, if_neg (by omega), if_neg (by omega)])⟩ hP hD hS
    · refine lv_aload_n hx hb dX2_takeOne_38 rfl (lv_at hl 0 rfl) ?_
      refine va_get (D := D) (ci := 2) (v := .ref qa) (C := RX2) (T := TX2) (N := 10) hx hb hts in_X2 hown hK hP 0 rfl rfl 5 (by decide) (hts _ (List.mem_cons_of_mem _ tf_X2_27)) (fun _ h9 => h9) rfl dX2_takeOne_39 ?_
      refine lv_iload_n hx hb dX2_takeOne_42 rfl (lv_at hl 2 rfl) ?_
      refine rz_as (y := ((a.toNat : Nat) : Int)) (by omega) ?_
      refine lv_dup2_11 hx hb dX2_takeOne_43 rfl rfl ?_
      refine rn_aldM hx hb hK hP 3 0 rfl rfl (by omega) (by omega) dX2_takeOne_44 ?_
      refine lv_iconst (v := iI (((1 : Nat) : Int))) hx hb dX2_takeOne_45 (by decide +kernel) ?_
      refine lv_iload_n hx hb dX2_takeOne_46 rfl (lv_at hl 3 rfl) ?_
      refine rz_as (y := ((b.toNat : Nat) : Int)) (by omega) ?_
      refine rz_shl hx hb dX2_takeOne_47 (by omega) (pw_lt (by omega)) ?_
      refine rz_or hx hb dX2_takeOne_48 ?_
      refine rn_astM hx hb hK hP hD hS 3 0 rfl rfl (by omega) (by omega) dX2_takeOne_49 (fun H locs hP hD hS => ?_)
      have hP : va_P D vwCl [(hQ, .inr (2, [.ref qb, .ref ql, .ref qh, .ref qf, .ref qg, .ref qa, .ref qo, .ref qt, .int (iI (((n : Nat) : Int))), .int (iI (((bw : Nat) : Int)))])), ce_i ql cI 4 (nZ (ln)), ce_i qg cI 16 (lg), ce_i qa cI 4 (nZ (uN ap a.toNat ((ap a.toNat) ||| (1 * 2 ^ b.toNat)))), ce_i qo cI 16 (nZ (op))] H := hP
      have hD : va_D A [(hQ, .inr (2, [.ref qb, .ref ql, .ref qh, .ref qf, .ref qg, .ref qa, .ref qo, .ref qt, .int (iI (((n : Nat) : Int))), .int (iI (((bw : Nat) : Int)))])), ce_i ql cI 4 (nZ (ln)), ce_i qg cI 16 (lg), ce_i qa cI 4 (nZ (uN ap a.toNat ((ap a.toNat) ||| (1 * 2 ^ b.toNat)))), ce_i qo cI 16 (nZ (op))] := hD
      refine lv_aload_n hx hb dX2_takeOne_50 rfl (lv_at hl 0 rfl) ?_
      refine va_get (D := D) (ci := 2) (v := .ref qa) (C := RX2) (T := TX2) (N := 10) hx hb hts in_X2 hown hK hP 0 rfl rfl 5 (by decide) (hts _ (List.mem_cons_of_mem _ tf_X2_27)) (fun _ h9 => h9) rfl dX2_takeOne_51 ?_
      refine lv_iload_n hx hb dX2_takeOne_54 rfl (lv_at hl 3 rfl) ?_
      refine rz_as (y := ((b.toNat : Nat) : Int)) (by omega) ?_
      refine lv_dup2_11 hx hb dX2_takeOne_55 rfl rfl ?_
      refine rn_aldM hx hb hK hP 3 0 rfl rfl (by omega) (by omega) dX2_takeOne_56 ?_
      refine lv_iconst (v := iI (((1 : Nat) : Int))) hx hb dX2_takeOne_57 (by decide +kernel) ?_
      refine lv_iload_n hx hb dX2_takeOne_58 rfl (lv_at hl 2 rfl) ?_
      refine rz_as (y := ((a.toNat : Nat) : Int)) (by omega) ?_
      refine rz_shl hx hb dX2_takeOne_59 (by omega) (pw_lt (by omega)) ?_
      refine rz_or hx hb dX2_takeOne_60 ?_
      refine rn_astM hx hb hK hP hD hS 3 0 rfl rfl (by omega) (by omega) dX2_takeOne_61 (fun H locs hP hD hS => ?_)
      have hP : va_P D vwCl [(hQ, .inr (2, [.ref qb, .ref ql, .ref qh, .ref qf, .ref qg, .ref qa, .ref qo, .ref qt, .int (iI (((n : Nat) : Int))), .int (iI (((bw : Nat) : Int)))])), ce_i ql cI 4 (nZ (ln)), ce_i qg cI 16 (lg), ce_i qa cI 4 (nZ (uN (uN ap a.toNat ((ap a.toNat) ||| (1 * 2 ^ b.toNat))) b.toNat (((uN ap a.toNat ((ap a.toNat) ||| (1 * 2 ^ b.toNat))) b.toNat) ||| (1 * 2 ^ a.toNat)))), ce_i qo cI 16 (nZ (op))] H := hP
      have hD : va_D A [(hQ, .inr (2, [.ref qb, .ref ql, .ref qh, .ref qf, .ref qg, .ref qa, .ref qo, .ref qt, .int (iI (((n : Nat) : Int))), .int (iI (((bw : Nat) : Int)))])), ce_i ql cI 4 (nZ (ln)), ce_i qg cI 16 (lg), ce_i qa cI 4 (nZ (uN (uN ap a.toNat ((ap a.toNat) ||| (1 * 2 ^ b.toNat))) b.toNat (((uN ap a.toNat ((ap a.toNat) ||| (1 * 2 ^ b.toNat))) b.toNat) ||| (1 * 2 ^ a.toNat)))), ce_i qo cI 16 (nZ (op))] := hD
      refine lv_goto (tgt := 122) hx hb dX2_takeOne_62 (by decide) ?_
      exact hret _ _ _ _ _ dX2_takeOne_122 ⟨_, _, _, rfl, (by first | rw [tkL, if_pos (by omega)] | rw [tkL, if_neg (by omega)]), (by first | rw [tkA, if_pos (by omega)] | rw [tkA, if_neg (by omega)]), (by first | rw [tkO, if_pos (by omega)] | rw [tkO, if_neg (by omega), if_pos (by omega)] | rw [tkO, if_neg (by omega), if_neg (by omega)])⟩ hP hD hS
  · refine lv_iload_n hx hb dX2_takeOne_4 rfl (lv_at hl 2 rfl) ?_
    refine lv_iconst (v := iI (((4 : Nat) : Int))) hx hb dX2_takeOne_5 (by decide +kernel) ?_
    refine rz_mul hx hb dX2_takeOne_6 ?_
    refine lv_iload_n hx hb dX2_takeOne_7 rfl (lv_at hl 3 rfl) ?_
    refine rz_add hx hb dX2_takeOne_8 ?_
    refine rz_as (y := ((a.toNat * 4 + b.toNat : Nat) : Int)) (by omega) ?_
    refine lv_istore (lv' := [(5, .int (iI (((a.toNat * 4 + b.toNat : Nat) : Int)))), (0, .ref hQ), (1, .int (iI (kd))), (2, .int (iI (a))), (3, .int (iI (b))), (4, .int (iI (d)))]) hx hb dX2_takeOne_9 hl (by decide) rfl (fun ls hl => ?_)
    refine lv_aload_n hx hb dX2_takeOne_11 rfl (lv_at hl 1 rfl) ?_
    refine va_get (D := D) (ci := 2) (v := .ref qg) (C := RX2) (T := TX2) (N := 10) hx hb hts in_X2 hown hK hP 0 rfl rfl 4 (by decide) (hts _ (List.mem_cons_of_mem _ tf_X2_24)) (fun _ h9 => h9) rfl dX2_takeOne_12 ?_
    refine lv_iload hx hb dX2_takeOne_15 (lv_at hl 0 rfl) ?_
    refine lv_aload_n hx hb dX2_takeOne_17 rfl (lv_at hl 1 rfl) ?_
    refine va_get (D := D) (ci := 2) (v := .ref qg) (C := RX2) (T := TX2) (N := 10) hx hb hts in_X2 hown hK hP 0 rfl rfl 4 (by decide) (hts _ (List.mem_cons_of_mem _ tf_X2_24)) (fun _ h9 => h9) rfl dX2_takeOne_18 ?_
    refine lv_iload hx hb dX2_takeOne_21 (lv_at hl 0 rfl) ?_
    refine rn_ald hx hb hK hP 2 0 rfl rfl (by omega) (by omega) dX2_takeOne_23 ?_
    refine lv_iload hx hb dX2_takeOne_24 (lv_at hl 5 rfl) ?_
    refine rz_mmax (rest := [.int (iI (((a.toNat * 4 + b.toNat : Nat) : Int))), .ref qg]) hx hb (hml.trans hl.1.symm) hown hts tm_X2_103 (Nat.le_of_ble_eq_true rfl) (Nat.le_of_ble_eq_true rfl) (Nat.le_of_ble_eq_true rfl) (Nat.le_of_ble_eq_true rfl) dX2_takeOne_26 (by omega) (by omega) ?_
    refine rn_ast hx hb hK hP hD hS 2 0 rfl rfl (by omega) (by omega) dX2_takeOne_29 (fun H locs hP hD hS => ?_)
    have hP : va_P D vwCl [(hQ, .inr (2, [.ref qb, .ref ql, .ref qh, .ref qf, .ref qg, .ref qa, .ref qo, .ref qt, .int (iI (((n : Nat) : Int))), .int (iI (((bw : Nat) : Int)))])), ce_i ql cI 4 (nZ (ln)), ce_i qg cI 16 (uZ lg (a.toNat * 4 + b.toNat) (max (lg (a.toNat * 4 + b.toNat)) d)), ce_i qa cI 4 (nZ (ap)), ce_i qo cI 16 (nZ (op))] H := hP
    have hD : va_D A [(hQ, .inr (2, [.ref qb, .ref ql, .ref qh, .ref qf, .ref qg, .ref qa, .ref qo, .ref qt, .int (iI (((n : Nat) : Int))), .int (iI (((bw : Nat) : Int)))])), ce_i ql cI 4 (nZ (ln)), ce_i qg cI 16 (uZ lg (a.toNat * 4 + b.toNat) (max (lg (a.toNat * 4 + b.toNat)) d)), ce_i qa cI 4 (nZ (ap)), ce_i qo cI 16 (nZ (op))] := hD
    refine lv_goto (tgt := 122) hx hb dX2_takeOne_30 (by decide) ?_
    exact hret _ _ _ _ _ dX2_takeOne_122 ⟨_, _, _, rfl, (by first | rw [tkL, if_pos (by omega)] | rw [tkL, if_neg (by omega)]), (by first | rw [tkA, if_pos (by omega)] | rw [tkA, if_neg (by omega)]), (by first | rw [tkO, if_pos (by omega)] | rw [tkO, if_neg (by omega), if_pos (by omega)] | rw [tkO, if_neg (by omega), if_neg (by omega)])⟩ hP hD hS

set_option maxHeartbeats 4000000 in
set_option maxRecDepth 100000 in
theorem k_X2_closeByLags (l : Launch) (D : va_G) (cI cZ : ClassId) (sz : Nat) (hQ : Nat) (qb : Nat) (ql : Nat) (qh : Nat) (qf : Nat) (qg : Nat) (qa : Nat) (qo : Nat) (qt : Nat) (n : Nat) (bw : Nat) (ln : Nat → Nat) (lg : Nat → Int) (op : Nat → Nat) (hn : n ≤ 4) (hln : ∀ j, ln j ≤ 10) (hlg : ∀ j, -10 ≤ lg j ∧ lg j ≤ 10) (hop : ∀ j, op j < 1073741824) : Cv l yX2_closeByLags wsX2_closeByLags (rmD 3) D vwCl [(cI, .int), (cZ, .boolean)] [.ref hQ] [(hQ, .inr (2, [.ref qb, .ref ql, .ref qh, .ref qf, .ref qg, .ref qa, .ref qo, .ref qt, .int (iI (((n : Nat) : Int))), .int (iI (((bw : Nat) : Int)))])), ce_i ql cI 4 (nZ (ln)), ce_i qg cI 16 (lg), ce_i qo cI 16 (nZ (op))] sz (fun w => ∃ op2 : Nat → Nat, w = [(hQ, .inr (2, [.ref qb, .ref ql, .ref qh, .ref qf, .ref qg, .ref qa, .ref qo, .ref qt, .int (iI (((n : Nat) : Int))), .int (iI (((bw : Nat) : Int)))])), ce_i ql cI 4 (nZ (ln)), ce_i qg cI 16 (lg), ce_i qo cI 16 (nZ (op2))] ∧ (∀ j, op2 j < 1073741824) ∧ (∀ j t, (op2 j).testBit t = true → (op j).testBit t = true) ∧ (∀ P, KeepP ln lg n op P → KeepP ln lg n op2 P)) 0 0 := by
  refine Cv_of (cc := cX2_closeByLags) (nL := 5) (by decide) rfl (Nat.le_of_ble_eq_true rfl) ?_
  intro p e s m below meth c A Q hsz C hK hN hA hP hD hS hin hret ls hl
  obtain ⟨hx, hb, hml, hown, hts⟩ := id C
  have hown : s.vm.findClass RX2 = some m.cls := hown
  have hl : lv_has ls 5 [(0, .ref hQ)] := hl
  have in_X2 : ∀ w ∈ u_ws RX2 TX2 10, w ∈ wsX2_closeByLags := fun w h => List.mem_cons_of_mem _ (inX2 w h)
  have KG : ∀ fu : Nat, (∀ (a : Nat) (o1 : Nat → Nat), (n - a) * 10 + 9 < fu → (a ≤ n) → (∀ j, o1 j < 1073741824) → (∀ j t, (o1 j).testBit t = true → (op j).testBit t = true) → (∀ P, KeepP ln lg n op P → KeepP ln lg n o1 P) → ∀ (H : Heap) (locs : List Loc) (ls : Array Slot), va_P D vwCl [(hQ, .inr (2, [.ref qb, .ref ql, .ref qh, .ref qf, .ref qg, .ref qa, .ref qo, .ref qt, .int (iI (((n : Nat) : Int))), .int (iI (((bw : Nat) : Int)))])), ce_i ql cI 4 (nZ (ln)), ce_i qg cI 16 (lg), ce_i qo cI 16 (nZ (o1))] H → va_D A [(hQ, .inr (2, [.ref qb, .ref ql, .ref qh, .ref qf, .ref qg, .ref qa, .ref qo, .ref qt, .int (iI (((n : Nat) : Int))), .int (iI (((bw : Nat) : Int)))])), ce_i ql cI 4 (nZ (ln)), ce_i qg cI 16 (lg), ce_i qo cI 16 (nZ (o1))] → va_S A s.heap H locs → lv_has ls 5 [(0, .ref hQ), (1, .int (iI (((a : Nat) : Int))))] → W p l e (rmD 3) s m ([.ref hQ] : List Value).toArray below meth c H locs 0 0 Q (F0 m 2 ls [])) ∧ (∀ (a : Nat) (b : Nat) (o1 : Nat → Nat), (n - a) * 10 + (n - b) < fu → (a < n) → (b ≤ n) → (∀ j, o1 j < 1073741824) → (∀ j t, (o1 j).testBit t = true → (op j).testBit t = true) → (∀ P, KeepP ln lg n op P → KeepP ln lg n o1 P) → ∀ (H : Heap) (locs : List Loc) (ls : Array Slot), va_P D vwCl [(hQ, .inr (2, [.ref qb, .ref ql, .ref qh, .ref qf, .ref qg, .ref qa, .ref qo, .ref qt, .int (iI (((n : Nat) : Int))), .int (iI (((bw : Nat) : Int)))])), ce_i ql cI 4 (nZ (ln)), ce_i qg cI 16 (lg), ce_i qo cI 16 (nZ (o1))] H → va_D A [(hQ, .inr (2, [.ref qb, .ref ql, .ref qh, .ref qf, .ref qg, .ref qa, .ref qo, .ref qt, .int (iI (((n : Nat) : Int))), .int (iI (((bw : Nat) : Int)))])), ce_i ql cI 4 (nZ (ln)), ce_i qg cI 16 (lg), ce_i qo cI 16 (nZ (o1))] → va_S A s.heap H locs → lv_has ls 5 [(0, .ref hQ), (1, .int (iI (((a : Nat) : Int)))), (2, .int (iI (((b : Nat) : Int))))] → W p l e (rmD 3) s m ([.ref hQ] : List Value).toArray below meth c H locs 0 0 Q (F0 m 12 ls [])) := by
    intro fu
    induction fu with
    | zero => exact ⟨by intro a o1 hmu; exact absurd hmu (Nat.not_lt_zero _), by intro a b o1 hmu; exact absurd hmu (Nat.not_lt_zero _)⟩
    | succ fu ih =>
      refine ⟨?_, ?_⟩
      · intro a o1 hmu ha hB hU hE H locs ls hP hD hS hl
        refine lv_iload_n hx hb dX2_closeByLags_2 rfl (lv_at hl 1 rfl) ?_
        refine lv_aload_n hx hb dX2_closeByLags_3 rfl (lv_at hl 0 rfl) ?_
        refine va_get (D := D) (ci := 2) (v := .int (iI (((n : Nat) : Int)))) (C := RX2) (T := TX2) (N := 10) hx hb hts in_X2 hown hK hP 0 rfl rfl 8 (by decide) (hts _ (List.mem_cons_of_mem _ tf_X2_45)) (fun _ h9 => h9) rfl dX2_closeByLags_4 ?_
        refine rz_cge (tgt := 116) hx hb dX2_closeByLags_7 (by decide) (by omega) (by omega) (fun c1 => ?_) (fun c1 => ?_)
        · exact hret _ _ _ _ _ dX2_closeByLags_116 ⟨_, rfl, hB, hU, hE⟩ hP hD hS
        · refine lv_iconst (v := iI (((0 : Nat) : Int))) hx hb dX2_closeByLags_10 (by decide +kernel) ?_
          refine lv_istore_n (lv' := [(2, .int (iI (((0 : Nat) : Int)))), (0, .ref hQ), (1, .int (iI (((a : Nat) : Int))))]) hx hb dX2_closeByLags_11 rfl hl (by decide) rfl (fun ls hl => ?_)
          exact ih.2 (a) (0) (o1) (by omega) (by omega) (by omega) (by first | exact hB | exact uN_all (P := fun x => x < 1073741824) (uN_all (P := fun x => x < 1073741824) hB _ (and_lt (hB _))) _ (and_lt (uN_all (P := fun x => x < 1073741824) hB _ (and_lt (hB _)) _))) (by first | exact hU | exact fun j t h => hU j t (sub_and (sub_and h))) (by first | exact hE | exact fun P h => close2 (by omega) (by omega) hcl (close1 (by omega) (by omega) hcl (hE P h))) _ _ _ hP hD hS (lv_sub hl [1, 2, 0] rfl)
      · intro a b o1 hmu ha hb9 hB hU hE H locs ls hP hD hS hl
        have l1 := hln b
        have g1 := hlg (a * 4 + b)
        refine lv_iload_n hx hb dX2_closeByLags_12 rfl (lv_at hl 2 rfl) ?_
        refine lv_aload_n hx hb dX2_closeByLags_13 rfl (lv_at hl 0 rfl) ?_
        refine va_get (D := D) (ci := 2) (v := .int (iI (((n : Nat) : Int)))) (C := RX2) (T := TX2) (N := 10) hx hb hts in_X2 hown hK hP 0 rfl rfl 8 (by decide) (hts _ (List.mem_cons_of_mem _ tf_X2_45)) (fun _ h9 => h9) rfl dX2_closeByLags_14 ?_
        refine rz_cge (tgt := 110) hx hb dX2_closeByLags_17 (by decide) (by omega) (by omega) (fun c2 => ?_) (fun c2 => ?_)
        · refine lv_iinc (v := iI (((a + 1 : Nat) : Int))) (lv' := [(1, .int (iI (((a + 1 : Nat) : Int)))), (0, .ref hQ), (2, .int (iI (((b : Nat) : Int))))]) hx hb dX2_closeByLags_110 hl (k := 1) rfl (iI_inc _) (by decide) rfl (fun ls hl => ?_)
          refine lv_goto (tgt := 2) hx hb dX2_closeByLags_113 (by decide) ?_
          exact ih.1 (a + 1) (o1) (by omega) (by omega) hB hU hE _ _ _ hP hD hS (lv_sub hl [1, 0] rfl)
        · refine lv_aload_n hx hb dX2_closeByLags_20 rfl (lv_at hl 0 rfl) ?_
          refine va_get (D := D) (ci := 2) (v := .ref qg) (C := RX2) (T := TX2) (N := 10) hx hb hts in_X2 hown hK hP 0 rfl rfl 4 (by decide) (hts _ (List.mem_cons_of_mem _ tf_X2_24)) (fun _ h9 => h9) rfl dX2_closeByLags_21 ?_
          refine lv_iload_n hx hb dX2_closeByLags_24 rfl (lv_at hl 1 rfl) ?_
          refine lv_iconst (v := iI (((4 : Nat) : Int))) hx hb dX2_closeByLags_25 (by decide +kernel) ?_
          refine rn_mul hx hb dX2_closeByLags_26 ?_
          refine lv_iload_n hx hb dX2_closeByLags_27 rfl (lv_at hl 2 rfl) ?_
          refine rn_add hx hb dX2_closeByLags_28 ?_
          refine rn_ald hx hb hK hP 2 0 rfl rfl (by omega) (by omega) dX2_closeByLags_29 ?_
          refine lv_istore_n (lv' := [(3, .int (iI (lg ((a * 4) + b)))), (0, .ref hQ), (1, .int (iI (((a : Nat) : Int)))), (2, .int (iI (((b : Nat) : Int))))]) hx hb dX2_closeByLags_30 rfl hl (by decide) rfl (fun ls hl => ?_)
          refine lv_iload_n hx hb dX2_closeByLags_31 rfl (lv_at hl 0 rfl) ?_
          refine lv_bipush (v := iI ((-10 : Int))) hx hb dX2_closeByLags_32 (by decide +kernel) ?_
          refine rz_ceq (tgt := 104) hx hb dX2_closeByLags_34 (by decide) (by omega) (by omega) (fun c3 => ?_) (fun c3 => ?_)
          · refine lv_iinc (v := iI (((b + 1 : Nat) : Int))) (lv' := [(2, .int (iI (((b + 1 : Nat) : Int)))), (3, .int (iI (lg ((a * 4) + b)))), (0, .ref hQ), (1, .int (iI (((a : Nat) : Int))))]) hx hb dX2_closeByLags_104 hl (k := 3) rfl (iI_inc _) (by decide) rfl (fun ls hl => ?_)
            refine lv_goto (tgt := 12) hx hb dX2_closeByLags_107 (by decide) ?_
            exact ih.2 (a) (b + 1) (o1) (by omega) (by omega) (by omega) (by first | exact hB | exact uN_all (P := fun x => x < 1073741824) (uN_all (P := fun x => x < 1073741824) hB _ (and_lt (hB _))) _ (and_lt (uN_all (P := fun x => x < 1073741824) hB _ (and_lt (hB _)) _))) (by first | exact hU | exact fun j t h => hU j t (sub_and (sub_and h))) (by first | exact hE | exact fun P h => close2 (by omega) (by omega) hcl (close1 (by omega) (by omega) hcl (hE P h))) _ _ _ hP hD hS (lv_sub hl [2, 3, 0] rfl)
          · have hcl := c3
            refine lv_aload_n hx hb dX2_closeByLags_37 rfl (lv_at hl 1 rfl) ?_
            refine va_get (D := D) (ci := 2) (v := .ref ql) (C := RX2) (T := TX2) (N := 10) hx hb hts in_X2 hown hK hP 0 rfl rfl 1 (by decide) (hts _ (List.mem_cons_of_mem _ tf_X2_15)) (fun _ h9 => h9) rfl dX2_closeByLags_38 ?_
            refine lv_iload_n hx hb dX2_closeByLags_41 rfl (lv_at hl 3 rfl) ?_
            refine rn_aldM hx hb hK hP 1 0 rfl rfl (by omega) (by omega) dX2_closeByLags_42 ?_
            refine lv_iload_n hx hb dX2_closeByLags_43 rfl (lv_at hl 0 rfl) ?_
            refine rz_add hx hb dX2_closeByLags_44 ?_
            refine lv_istore (lv' := [(4, .int (iI (((ln b : Nat) : Int) + (lg ((a * 4) + b))))), (3, .int (iI (lg ((a * 4) + b)))), (0, .ref hQ), (1, .int (iI (((a : Nat) : Int)))), (2, .int (iI (((b : Nat) : Int))))]) hx hb dX2_closeByLags_45 hl (by decide) rfl (fun ls hl => ?_)
            refine lv_aload_n hx hb dX2_closeByLags_47 rfl (lv_at hl 2 rfl) ?_
            refine va_get (D := D) (ci := 2) (v := .ref qo) (C := RX2) (T := TX2) (N := 10) hx hb hts in_X2 hown hK hP 0 rfl rfl 6 (by decide) (hts _ (List.mem_cons_of_mem _ tf_X2_30)) (fun _ h9 => h9) rfl dX2_closeByLags_48 ?_
            refine lv_iload_n hx hb dX2_closeByLags_51 rfl (lv_at hl 3 rfl) ?_
            refine lv_dup2_11 hx hb dX2_closeByLags_52 rfl rfl ?_
            refine rn_aldM hx hb hK hP 3 0 rfl rfl (by omega) (by omega) dX2_closeByLags_53 ?_
            refine lv_aload_n hx hb dX2_closeByLags_54 rfl (lv_at hl 2 rfl) ?_
            refine va_get (D := D) (ci := 2) (v := .ref qo) (C := RX2) (T := TX2) (N := 10) hx hb hts in_X2 hown hK hP 0 rfl rfl 6 (by decide) (hts _ (List.mem_cons_of_mem _ tf_X2_30)) (fun _ h9 => h9) rfl dX2_closeByLags_55 ?_
            refine lv_iload_n hx hb dX2_closeByLags_58 rfl (lv_at hl 4 rfl) ?_
            refine rn_aldM hx hb hK hP 3 0 rfl rfl (by omega) (by omega) dX2_closeByLags_59 ?_
            have hPc := hP.sub (ws' := []) [] rfl
            have hDc := hD.sub (ws' := []) [] (by decide) rfl
            refine rz_calliR (va_runS (As := [.int (iI (((o1 b : Nat) : Int)))]) (rest := [.int (iI (((o1 a : Nat) : Int))), .int (iI (((a : Nat) : Int))), .ref qo]) ⟨hx, hb, hml, hown, hts⟩ (k_X2_firstStart l D cI cZ H.size (o1 b) (hB _)) (va_cwS 1 hts (gG (g_S tm_X2_111 ts_X2_firstStart tin_X2 cmX2_firstStart)) rfl rfl rfl (by decide +kernel) ⟨Nat.le_of_ble_eq_true rfl, Nat.le_of_ble_eq_true rfl⟩) ⟨cP_blind, cP_pre hPc hK hN hDc⟩ rfl rfl hl.1 rfl (lv_room (Nat.le_of_ble_eq_true rfl)) dX2_closeByLags_60 ⟨Nat.le_refl _, Nat.le_refl _⟩) hP hD hS hA [] rfl (fun z4 H locs hp hP hS => ?_)
            subst hp
            refine lv_iload hx hb dX2_closeByLags_63 (lv_at hl 0 rfl) ?_
            refine rz_add hx hb dX2_closeByLags_65 ?_
            refine lv_bipush (v := iI (((9 : Nat) : Int))) hx hb dX2_closeByLags_66 (by decide +kernel) ?_
            have hPc := hP.sub (ws' := []) [] rfl
            have hDc := hD.sub (ws' := []) [] (by decide) rfl
            refine rz_calliR (va_runSN (As := [.int (iI (((ntzV (stI (o1 b)) : Nat) : Int) + (((ln b : Nat) : Int) + (lg ((a * 4) + b))))), .int (iI (((9 : Nat) : Int)))]) (rest := [.int (iI (((o1 a : Nat) : Int))), .int (iI (((a : Nat) : Int))), .ref qo]) ⟨hx, hb, hml, hown, hts⟩ (k_X4_daysFromTo l D cI cZ H.size (((ntzV (stI (o1 b)) : Nat) : Int) + (((ln b : Nat) : Int) + (lg ((a * 4) + b)))) ((9 : Nat) : Int) (by have := ntz_32 _ (stI_lt (o1 b)); omega) (by omega)) ⟨va_cnB 2 hts (gG (g_c cmX4_daysFromTo)) rfl rfl rfl (nK_X2_50 hN) (hts _ (List.mem_cons_of_mem _ tin_X4)) (by decide +kernel) ⟨Nat.le_of_ble_eq_true rfl, Nat.le_of_ble_eq_true rfl⟩, hts _ (List.mem_cons_of_mem _ ts_X4_daysFromTo), trivial⟩ ⟨cP_blind, cP_pre hPc hK hN hDc⟩ rfl rfl hl.1 rfl (lv_room (Nat.le_of_ble_eq_true rfl)) dX2_closeByLags_68 ⟨Nat.le_refl _, Nat.le_refl _⟩) hP hD hS hA [] rfl (fun z5 H locs hp hP hS => ?_)
            subst hp
            have hPc := hP.sub (ws' := []) [] rfl
            have hDc := hD.sub (ws' := []) [] (by decide) rfl
            refine rz_calliR (va_runS (As := [.int (iI (((daysF (((ntzV (stI (o1 b)) : Nat) : Int) + (((ln b : Nat) : Int) + (lg ((a * 4) + b)))) ((9 : Nat) : Int) : Nat) : Int)))]) (rest := [.int (iI (((o1 a : Nat) : Int))), .int (iI (((a : Nat) : Int))), .ref qo]) ⟨hx, hb, hml, hown, hts⟩ (k_X2_inEveryTank l D cI cZ H.size (daysF (((ntzV (stI (o1 b)) : Nat) : Int) + (((ln b : Nat) : Int) + (lg ((a * 4) + b)))) ((9 : Nat) : Int)) ) (va_cwS 1 hts (gG (g_S tm_X2_108 ts_X2_inEveryTank tin_X2 cmX2_inEveryTank)) rfl rfl rfl (by decide +kernel) ⟨Nat.le_of_ble_eq_true rfl, Nat.le_of_ble_eq_true rfl⟩) ⟨cP_blind, cP_pre hPc hK hN hDc⟩ rfl rfl hl.1 rfl (lv_room (Nat.le_of_ble_eq_true rfl)) dX2_closeByLags_71 ⟨Nat.le_refl _, Nat.le_refl _⟩) hP hD hS hA [] rfl (fun z6 H locs hp hP hS => ?_)
            subst hp
            refine rz_and hx hb dX2_closeByLags_74 ?_
            refine rn_astM hx hb hK hP hD hS 3 0 rfl rfl (by omega) (by omega) dX2_closeByLags_75 (fun H locs hP hD hS => ?_)
            have hP : va_P D vwCl [(hQ, .inr (2, [.ref qb, .ref ql, .ref qh, .ref qf, .ref qg, .ref qa, .ref qo, .ref qt, .int (iI (((n : Nat) : Int))), .int (iI (((bw : Nat) : Int)))])), ce_i ql cI 4 (nZ (ln)), ce_i qg cI 16 (lg), ce_i qo cI 16 (nZ (uN o1 a ((o1 a) &&& ((daysF (((ntzV (stI (o1 b)) : Nat) : Int) + (((ln b : Nat) : Int) + (lg ((a * 4) + b)))) ((9 : Nat) : Int)) * 1049601))))] H := hP
            have hD : va_D A [(hQ, .inr (2, [.ref qb, .ref ql, .ref qh, .ref qf, .ref qg, .ref qa, .ref qo, .ref qt, .int (iI (((n : Nat) : Int))), .int (iI (((bw : Nat) : Int)))])), ce_i ql cI 4 (nZ (ln)), ce_i qg cI 16 (lg), ce_i qo cI 16 (nZ (uN o1 a ((o1 a) &&& ((daysF (((ntzV (stI (o1 b)) : Nat) : Int) + (((ln b : Nat) : Int) + (lg ((a * 4) + b)))) ((9 : Nat) : Int)) * 1049601))))] := hD
            refine lv_aload_n hx hb dX2_closeByLags_76 rfl (lv_at hl 2 rfl) ?_
            refine va_get (D := D) (ci := 2) (v := .ref qo) (C := RX2) (T := TX2) (N := 10) hx hb hts in_X2 hown hK hP 0 rfl rfl 6 (by decide) (hts _ (List.mem_cons_of_mem _ tf_X2_30)) (fun _ h9 => h9) rfl dX2_closeByLags_77 ?_
            refine lv_iload_n hx hb dX2_closeByLags_80 rfl (lv_at hl 4 rfl) ?_
            refine lv_dup2_11 hx hb dX2_closeByLags_81 rfl rfl ?_
            refine rn_aldM hx hb hK hP 3 0 rfl rfl (by omega) (by omega) dX2_closeByLags_82 ?_
            refine lv_iconst (v := iI (((0 : Nat) : Int))) hx hb dX2_closeByLags_83 (by decide +kernel) ?_
            refine lv_aload_n hx hb dX2_closeByLags_84 rfl (lv_at hl 2 rfl) ?_
            refine va_get (D := D) (ci := 2) (v := .ref qo) (C := RX2) (T := TX2) (N := 10) hx hb hts in_X2 hown hK hP 0 rfl rfl 6 (by decide) (hts _ (List.mem_cons_of_mem _ tf_X2_30)) (fun _ h9 => h9) rfl dX2_closeByLags_85 ?_
            refine lv_iload_n hx hb dX2_closeByLags_88 rfl (lv_at hl 3 rfl) ?_
            refine rn_aldM hx hb hK hP 3 0 rfl rfl (by omega) (by omega) dX2_closeByLags_89 ?_
            have hPc := hP.sub (ws' := []) [] rfl
            have hDc := hD.sub (ws' := []) [] (by decide) rfl
            refine rz_calliR (va_runS (As := [.int (iI ((((uN o1 a ((o1 a) &&& ((daysF (((ntzV (stI (o1 b)) : Nat) : Int) + (((ln b : Nat) : Int) + (lg ((a * 4) + b)))) ((9 : Nat) : Int)) * 1049601))) a : Nat) : Int)))]) (rest := [.int (iI (((0 : Nat) : Int))), .int (iI ((((uN o1 a ((o1 a) &&& ((daysF (((ntzV (stI (o1 b)) : Nat) : Int) + (((ln b : Nat) : Int) + (lg ((a * 4) + b)))) ((9 : Nat) : Int)) * 1049601))) b : Nat) : Int))), .int (iI (((b : Nat) : Int))), .ref qo]) ⟨hx, hb, hml, hown, hts⟩ (k_X2_lastStart l D cI cZ H.size ((uN o1 a ((o1 a) &&& ((daysF (((ntzV (stI (o1 b)) : Nat) : Int) + (((ln b : Nat) : Int) + (lg ((a * 4) + b)))) ((9 : Nat) : Int)) * 1049601))) a) (uN_all (P := fun x => x < 1073741824) hB _ (and_lt (hB _)) _)) (va_cwS 1 hts (gG (g_S tm_X2_114 ts_X2_lastStart tin_X2 cmX2_lastStart)) rfl rfl rfl (by decide +kernel) ⟨Nat.le_of_ble_eq_true rfl, Nat.le_of_ble_eq_true rfl⟩) ⟨cP_blind, cP_pre hPc hK hN hDc⟩ rfl rfl hl.1 rfl (lv_room (Nat.le_of_ble_eq_true rfl)) dX2_closeByLags_90 ⟨Nat.le_refl _, Nat.le_refl _⟩) hP hD hS hA [] rfl (fun z7 H locs hp hP hS => ?_)
            subst hp
            refine lv_iload hx hb dX2_closeByLags_93 (lv_at hl 0 rfl) ?_
            refine rz_sub hx hb dX2_closeByLags_95 ?_
            have hPc := hP.sub (ws' := []) [] rfl
            have hDc := hD.sub (ws' := []) [] (by decide) rfl
            refine rz_calliR (va_runSN (As := [.int (iI (((0 : Nat) : Int))), .int (iI ((((31 : Nat) : Int) - ((nlzV (stI ((uN o1 a ((o1 a) &&& ((daysF (((ntzV (stI (o1 b)) : Nat) : Int) + (((ln b : Nat) : Int) + (lg ((a * 4) + b)))) ((9 : Nat) : Int)) * 1049601))) a)) : Nat) : Int)) - (((ln b : Nat) : Int) + (lg ((a * 4) + b)))))]) (rest := [.int (iI ((((uN o1 a ((o1 a) &&& ((daysF (((ntzV (stI (o1 b)) : Nat) : Int) + (((ln b : Nat) : Int) + (lg ((a * 4) + b)))) ((9 : Nat) : Int)) * 1049601))) b : Nat) : Int))), .int (iI (((b : Nat) : Int))), .ref qo]) ⟨hx, hb, hml, hown, hts⟩ (k_X4_daysFromTo l D cI cZ H.size ((0 : Nat) : Int) ((((31 : Nat) : Int) - ((nlzV (stI ((uN o1 a ((o1 a) &&& ((daysF (((ntzV (stI (o1 b)) : Nat) : Int) + (((ln b : Nat) : Int) + (lg ((a * 4) + b)))) ((9 : Nat) : Int)) * 1049601))) a)) : Nat) : Int)) - (((ln b : Nat) : Int) + (lg ((a * 4) + b)))) (by omega) (by have := nlz_32 _ (stI_lt (uN o1 a (o1 a &&& daysF (((ntzV (stI (o1 b)) : Nat) : Int) + (((ln b : Nat) : Int) + lg (a * 4 + b))) ((9 : Nat) : Int) * 1049601) a)); omega)) ⟨va_cnB 2 hts (gG (g_c cmX4_daysFromTo)) rfl rfl rfl (nK_X2_50 hN) (hts _ (List.mem_cons_of_mem _ tin_X4)) (by decide +kernel) ⟨Nat.le_of_ble_eq_true rfl, Nat.le_of_ble_eq_true rfl⟩, hts _ (List.mem_cons_of_mem _ ts_X4_daysFromTo), trivial⟩ ⟨cP_blind, cP_pre hPc hK hN hDc⟩ rfl rfl hl.1 rfl (lv_room (Nat.le_of_ble_eq_true rfl)) dX2_closeByLags_96 ⟨Nat.le_refl _, Nat.le_refl _⟩) hP hD hS hA [] rfl (fun z8 H locs hp hP hS => ?_)
            subst hp
            have hPc := hP.sub (ws' := []) [] rfl
            have hDc := hD.sub (ws' := []) [] (by decide) rfl
            refine rz_calliR (va_runS (As := [.int (iI (((daysF ((0 : Nat) : Int) ((((31 : Nat) : Int) - ((nlzV (stI ((uN o1 a ((o1 a) &&& ((daysF (((ntzV (stI (o1 b)) : Nat) : Int) + (((ln b : Nat) : Int) + (lg ((a * 4) + b)))) ((9 : Nat) : Int)) * 1049601))) a)) : Nat) : Int)) - (((ln b : Nat) : Int) + (lg ((a * 4) + b)))) : Nat) : Int)))]) (rest := [.int (iI ((((uN o1 a ((o1 a) &&& ((daysF (((ntzV (stI (o1 b)) : Nat) : Int) + (((ln b : Nat) : Int) + (lg ((a * 4) + b)))) ((9 : Nat) : Int)) * 1049601))) b : Nat) : Int))), .int (iI (((b : Nat) : Int))), .ref qo]) ⟨hx, hb, hml, hown, hts⟩ (k_X2_inEveryTank l D cI cZ H.size (daysF ((0 : Nat) : Int) ((((31 : Nat) : Int) - ((nlzV (stI ((uN o1 a ((o1 a) &&& ((daysF (((ntzV (stI (o1 b)) : Nat) : Int) + (((ln b : Nat) : Int) + (lg ((a * 4) + b)))) ((9 : Nat) : Int)) * 1049601))) a)) : Nat) : Int)) - (((ln b : Nat) : Int) + (lg ((a * 4) + b))))) ) (va_cwS 1 hts (gG (g_S tm_X2_108 ts_X2_inEveryTank tin_X2 cmX2_inEveryTank)) rfl rfl rfl (by decide +kernel) ⟨Nat.le_of_ble_eq_true rfl, Nat.le_of_ble_eq_true rfl⟩) ⟨cP_blind, cP_pre hPc hK hN hDc⟩ rfl rfl hl.1 rfl (lv_room (Nat.le_of_ble_eq_true rfl)) dX2_closeByLags_99 ⟨Nat.le_refl _, Nat.le_refl _⟩) hP hD hS hA [] rfl (fun z9 H locs hp hP hS => ?_)
            subst hp
            refine rz_and hx hb dX2_closeByLags_102 ?_
            refine rn_astM hx hb hK hP hD hS 3 0 rfl rfl (by omega) (by omega) dX2_closeByLags_103 (fun H locs hP hD hS => ?_)
            have hP : va_P D vwCl [(hQ, .inr (2, [.ref qb, .ref ql, .ref qh, .ref qf, .ref qg, .ref qa, .ref qo, .ref qt, .int (iI (((n : Nat) : Int))), .int (iI (((bw : Nat) : Int)))])), ce_i ql cI 4 (nZ (ln)), ce_i qg cI 16 (lg), ce_i qo cI 16 (nZ (uN (uN o1 a ((o1 a) &&& ((daysF (((ntzV (stI (o1 b)) : Nat) : Int) + (((ln b : Nat) : Int) + (lg ((a * 4) + b)))) ((9 : Nat) : Int)) * 1049601))) b (((uN o1 a ((o1 a) &&& ((daysF (((ntzV (stI (o1 b)) : Nat) : Int) + (((ln b : Nat) : Int) + (lg ((a * 4) + b)))) ((9 : Nat) : Int)) * 1049601))) b) &&& ((daysF ((0 : Nat) : Int) ((((31 : Nat) : Int) - ((nlzV (stI ((uN o1 a ((o1 a) &&& ((daysF (((ntzV (stI (o1 b)) : Nat) : Int) + (((ln b : Nat) : Int) + (lg ((a * 4) + b)))) ((9 : Nat) : Int)) * 1049601))) a)) : Nat) : Int)) - (((ln b : Nat) : Int) + (lg ((a * 4) + b))))) * 1049601))))] H := hP
            have hD : va_D A [(hQ, .inr (2, [.ref qb, .ref ql, .ref qh, .ref qf, .ref qg, .ref qa, .ref qo, .ref qt, .int (iI (((n : Nat) : Int))), .int (iI (((bw : Nat) : Int)))])), ce_i ql cI 4 (nZ (ln)), ce_i qg cI 16 (lg), ce_i qo cI 16 (nZ (uN (uN o1 a ((o1 a) &&& ((daysF (((ntzV (stI (o1 b)) : Nat) : Int) + (((ln b : Nat) : Int) + (lg ((a * 4) + b)))) ((9 : Nat) : Int)) * 1049601))) b (((uN o1 a ((o1 a) &&& ((daysF (((ntzV (stI (o1 b)) : Nat) : Int) + (((ln b : Nat) : Int) + (lg ((a * 4) + b)))) ((9 : Nat) : Int)) * 1049601))) b) &&& ((daysF ((0 : Nat) : Int) ((((31 : Nat) : Int) - ((nlzV (stI ((uN o1 a ((o1 a) &&& ((daysF (((ntzV (stI (o1 b)) : Nat) : Int) + (((ln b : Nat) : Int) + (lg ((a * 4) + b)))) ((9 : Nat) : Int)) * 1049601))) a)) : Nat) : Int)) - (((ln b : Nat) : Int) + (lg ((a * 4) + b))))) * 1049601))))] := hD
            refine lv_iinc (v := iI (((b + 1 : Nat) : Int))) (lv' := [(2, .int (iI (((b + 1 : Nat) : Int)))), (4, .int (iI (((ln b : Nat) : Int) + (lg ((a * 4) + b))))), (3, .int (iI (lg ((a * 4) + b)))), (0, .ref hQ), (1, .int (iI (((a : Nat) : Int))))]) hx hb dX2_closeByLags_104 hl (k := 4) rfl (iI_inc _) (by decide) rfl (fun ls hl => ?_)
            refine lv_goto (tgt := 12) hx hb dX2_closeByLags_107 (by decide) ?_
            exact ih.2 (a) (b + 1) (uN (uN o1 a ((o1 a) &&& ((daysF (((ntzV (stI (o1 b)) : Nat) : Int) + (((ln b : Nat) : Int) + (lg ((a * 4) + b)))) ((9 : Nat) : Int)) * 1049601))) b (((uN o1 a ((o1 a) &&& ((daysF (((ntzV (stI (o1 b)) : Nat) : Int) + (((ln b : Nat) : Int) + (lg ((a * 4) + b)))) ((9 : Nat) : Int)) * 1049601))) b) &&& ((daysF ((0 : Nat) : Int) ((((31 : Nat) : Int) - ((nlzV (stI ((uN o1 a ((o1 a) &&& ((daysF (((ntzV (stI (o1 b)) : Nat) : Int) + (((ln b : Nat) : Int) + (lg ((a * 4) + b)))) ((9 : Nat) : Int)) * 1049601))) a)) : Nat) : Int)) - (((ln b : Nat) : Int) + (lg ((a * 4) + b))))) * 1049601))) (by omega) (by omega) (by omega) (by first | exact hB | exact uN_all (P := fun x => x < 1073741824) (uN_all (P := fun x => x < 1073741824) hB _ (and_lt (hB _))) _ (and_lt (uN_all (P := fun x => x < 1073741824) hB _ (and_lt (hB _)) _))) (by first | exact hU | exact fun j t h => hU j t (sub_and (sub_and h))) (by first | exact hE | exact fun P h => close2 (by omega) (by omega) hcl (close1 (by omega) (by omega) hcl (hE P h))) _ _ _ hP hD hS (lv_sub hl [3, 4, 0] rfl)
  have K2 := fun fu => (KG fu).1
  have K12 := fun fu => (KG fu).2
  refine lv_iconst (v := iI (((0 : Nat) : Int))) hx hb dX2_closeByLags_0 (by decide +kernel) ?_
  refine lv_istore_n (lv' := [(1, .int (iI (((0 : Nat) : Int)))), (0, .ref hQ)]) hx hb dX2_closeByLags_1 rfl hl (by decide) rfl (fun ls hl => ?_)
  exact K2 ((n - (0)) * 10 + 9 + 1) (0) (op) (Nat.lt_succ_self _) (by omega) hop (fun j t h => h) (fun P h => h) _ _ _ hP hD hS (lv_sub hl [1, 0] rfl)
