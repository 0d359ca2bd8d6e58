/-! Search: the best plan -/
def WtF (hm P : Nat → Nat) : Nat → Nat
  | 0 => 0
  | k + 1 => WtF hm P k + wAt (hm k) (P k)
def lexlt (n : Nat) (P P' : Nat → Nat) : Prop := ∃ i, i < n ∧ P i < P' i ∧ ∀ j, j < i → P j = P' j
/-- over the plans X: what stood stays where none is lighter; else the lightest, of these the first -/
def Imp (hm : Nat → Nat) (n : Nat) (X : (Nat → Nat) → Prop) (bw : Nat) (best : Nat → Nat) (bw2 : Nat) (best2 : Nat → Nat) : Prop :=
  (bw2 = bw ∧ (∀ j, best2 j = best j) ∧ ∀ P, X P → bw ≤ WtF hm P n) ∨ (∃ P, X P ∧ bw2 = WtF hm P n ∧ bw2 < bw ∧ (∀ j, j < n → best2 j = P j) ∧ ∀ P', X P' → bw2 ≤ WtF hm P' n ∧ (lexlt n P' P → bw2 < WtF hm P' n))
def XB (ln : Nat → Nat) (lg : Nat → Int) (ap : Nat → Nat) (n b : Nat) (r tr P : Nat → Nat) : Prop := (∀ j, j < b → P j = tr j) ∧ SolF ln lg ap n b r P
section IM
variable {ln ap r r2 P hm tr best best1 best2 : Nat → Nat} {lg : Nat → Int} {n b q bw bw1 bw2 : Nat} {X X1 X2 : (Nat → Nat) → Prop}
theorem imp_none (h : ∀ P, X P → bw ≤ WtF hm P n) : Imp hm n X bw best bw best := Or.inl ⟨rfl, fun _ => rfl, h⟩
theorem imp_le (h : Imp hm n X bw best bw2 best2) : bw2 ≤ bw := by
  rcases h with ⟨h, -, -⟩ | ⟨P, -, -, h, -⟩
  · omega
  · omega
theorem imp_congr (h : Imp hm n X1 bw best bw2 best2) (e : ∀ P, X P ↔ X1 P) : Imp hm n X bw best bw2 best2 := by
  rcases h with ⟨h1, h2, h3⟩ | ⟨P, h1, h2, h3, h4, h5⟩
  · exact Or.inl ⟨h1, h2, fun P h => h3 P ((e P).mp h)⟩
  · exact Or.inr ⟨P, (e P).mpr h1, h2, h3, h4, fun P' h => h5 P' ((e P').mp h)⟩
theorem imp_comp (h1 : Imp hm n X1 bw best bw1 best1) (h2 : Imp hm n X2 bw1 best1 bw2 best2) (hl : ∀ P P', X1 P → X2 P' → ¬ lexlt n P' P) (hX : ∀ P, X P ↔ X1 P ∨ X2 P) : Imp hm n X bw best bw2 best2 := by
  rcases h1 with ⟨a1, a2, a3⟩ | ⟨P1, a1, a2, a3, a4, a5⟩
  · rcases h2 with ⟨b1, b2, b3⟩ | ⟨P2, b1, b2, b3, b4, b5⟩
    · refine Or.inl ⟨by omega, fun j => (b2 j).trans (a2 j), fun P h => ?_⟩
      rcases (hX P).mp h with h | h
      · exact a3 P h
      · have := b3 P h; omega
    · refine Or.inr ⟨P2, (hX P2).mpr (Or.inr b1), b2, by omega, b4, fun P' h => ?_⟩
      rcases (hX P').mp h with h | h
      · have := a3 P' h; exact ⟨by omega, fun _ => by omega⟩
      · exact b5 P' h
  · rcases h2 with ⟨b1, b2, b3⟩ | ⟨P2, b1, b2, b3, b4, b5⟩
    · refine Or.inr ⟨P1, (hX P1).mpr (Or.inl a1), by omega, by omega, fun j hj => (b2 j).trans (a4 j hj), fun P' h => ?_⟩
      rcases (hX P').mp h with h | h
      · have := a5 P' h; exact ⟨by omega, fun q => by have := this.2 q; omega⟩
      · have := b3 P' h; exact ⟨by omega, fun q => absurd q (hl P1 P' a1 h)⟩
    · refine Or.inr ⟨P2, (hX P2).mpr (Or.inr b1), b2, by omega, b4, fun P' h => ?_⟩
      rcases (hX P').mp h with h | h
      · have := (a5 P' h).1; exact ⟨by omega, fun _ => by omega⟩
      · exact b5 P' h
theorem xb_lex (P P' : Nat → Nat) (h1 : XB ln lg ap n b r tr P ∧ P b < q) (h2 : XB ln lg ap n b r tr P' ∧ P' b = q) : ¬ lexlt n P' P := by
  rintro ⟨i, hi, hlt, he⟩
  rcases Nat.lt_trichotomy i b with h | h | h
  · rw [h1.1.1 i h, h2.1.1 i h] at hlt; omega
  · subst h; have := h1.2; have := h2.2; omega
  · have := he b h; have := h1.2; have := h2.2; omega
theorem xb_split (P : Nat → Nat) : (XB ln lg ap n b r tr P ∧ P b < q + 1) ↔ ((XB ln lg ap n b r tr P ∧ P b < q) ∨ (XB ln lg ap n b r tr P ∧ P b = q)) := by
  constructor
  · rintro ⟨h1, h2⟩
    rcases Nat.lt_or_ge (P b) q with h | h
    · exact Or.inl ⟨h1, h⟩
    · exact Or.inr ⟨h1, by omega⟩
  · rintro (⟨h1, h2⟩ | ⟨h1, h2⟩)
    · exact ⟨h1, by omega⟩
    · exact ⟨h1, by omega⟩
theorem imp_skip (h : Imp hm n (fun P => XB ln lg ap n b r tr P ∧ P b < q) bw best bw1 best1) (hs : ∀ P, XB ln lg ap n b r tr P → P b = q → bw1 ≤ WtF hm P n) : Imp hm n (fun P => XB ln lg ap n b r tr P ∧ P b < q + 1) bw best bw1 best1 :=
  imp_comp h (imp_none (X := fun P => XB ln lg ap n b r tr P ∧ P b = q) (fun P h => hs P h.1 h.2)) xb_lex xb_split
theorem imp_step (h : Imp hm n (fun P => XB ln lg ap n b r tr P ∧ P b < q) bw best bw1 best1) (h2 : Imp hm n X2 bw1 best1 bw2 best2) (hx : ∀ P, (XB ln lg ap n b r tr P ∧ P b = q) ↔ X2 P) : Imp hm n (fun P => XB ln lg ap n b r tr P ∧ P b < q + 1) bw best bw2 best2 :=
  imp_comp h (imp_congr h2 hx) xb_lex xb_split
theorem WtF_congr {P P' : Nat → Nat} : ∀ k, (∀ j, j < k → P j = P' j) → WtF hm P k = WtF hm P' k
  | 0, _ => rfl
  | k + 1, h => by rw [WtF, WtF, WtF_congr k (fun j hj => h j (by omega)), h k (by omega)]
theorem WtF_mono {P : Nat → Nat} {k : Nat} : ∀ m, k ≤ m → WtF hm P k ≤ WtF hm P m := by
  intro m h
  induction m with
  | zero => have : k = 0 := by omega
            subst this; exact Nat.le_refl _
  | succ m ih =>
    by_cases e : k = m + 1
    · subst e; exact Nat.le_refl _
    · rw [WtF]; have := ih (by omega); omega
theorem imp_leaf {wg : Nat} (hb : b = n) (hw : wg = WtF hm tr b) (hlt : wg < bw) (hbest : ∀ j, j < n → best2 j = tr j) : Imp hm n (XB ln lg ap n b r tr) bw best wg best2 := by
  subst hb
  refine Or.inr ⟨tr, ⟨fun _ _ => rfl, fun j h1 h2 => absurd h2 (by omega), fun i j h1 h2 h3 => absurd h3 (by omega)⟩, hw, hlt, hbest, fun P h => ?_⟩
  have e1 : WtF hm P b = WtF hm tr b := WtF_congr b h.1
  refine ⟨by omega, ?_⟩
  rintro ⟨i, hi, hl, -⟩
  rw [h.1 i hi] at hl; omega
theorem wAt_ge {h p : Nat} (e : p ≠ h) (hp : p < 30) (hh : h < 30) : 65 ≤ wAt h p := by
  rw [wAt, if_neg e]; split <;> omega
theorem wt_low {op : Nat → Nat} (hn : b ≤ n) (hhm : ∀ j, hm j < 30) (hop : ∀ j, op j < 1073741824) (h : SolF ln lg ap n b (fun j => op (b * 4 + j)) P) : ∀ k, k ≤ n - b → WtF hm P (n - k) + lwF op hm (b * 4) n k ≤ WtF hm P n := by
  intro k
  induction k with
  | zero => intro _; simp [lwF]
  | succ k ih =>
    intro hk
    have h1 := ih (by omega)
    have h2 : n - k = (n - (k + 1)) + 1 := by omega
    rw [h2, WtF] at h1
    rw [lwF]
    have h3 := h.1 (n - (k + 1)) (by omega) (by omega)
    have h4 : (if (op (b * 4 + (n - (k + 1)))).testBit (hm (n - (k + 1))) = true then 0 else 65) ≤ wAt (hm (n - (k + 1))) (P (n - (k + 1))) := by
      split
      · exact Nat.zero_le _
      · rename_i hc
        refine wAt_ge (fun e => hc ?_) (bit_30 (hop _) h3) (hhm _)
        rw [← e]; exact h3
    omega
theorem lwF_le {op : Nat → Nat} {rr : Nat} : ∀ k, lwF op hm rr n k ≤ 65 * k
  | 0 => Nat.le_refl _
  | k + 1 => by rw [lwF]; have := lwF_le (op := op) (rr := rr) k; split <;> omega
theorem wAt_le {h p : Nat} (hp : p < 30) (hh : h < 30) : wAt h p ≤ 76 := by unfold wAt; split <;> (try split) <;> omega
theorem WtF_le {P : Nat → Nat} (hh : ∀ j, hm j < 30) (hp : ∀ j, P j < 30) : ∀ k, WtF hm P k ≤ 76 * k
  | 0 => Nat.le_refl _
  | k + 1 => by rw [WtF]; have := WtF_le hh hp k; have := wAt_le (hp k) (hh k); omega
end IM

set_option maxHeartbeats 4000000 in
set_option maxRecDepth 100000 in
theorem k_X2_putBetter (l : Launch) (D : va_G) (cI cZ : ClassId) : ∀ (kf : Nat) (sz : Nat) (hQ : Nat) (qb : Nat) (ql : Nat) (qh : Nat) (qf : Nat) (qg : Nat) (qa : Nat) (qo : Nat) (qt : Nat) (n : Nat) (bw : Nat) (best : Nat → Nat) (ln : Nat → Nat) (hm : Nat → Nat) (lg : Nat → Int) (ap : Nat → Nat) (op : Nat → Nat) (tr : Nat → Nat) (b : Nat) (wg : Nat), (n ≤ 4) → (b ≤ n) → (n ≤ b + kf) → (wg = WtF hm tr b) → (bw ≤ 1000) → (∀ j, ln j ≤ 10) → (∀ j, -10 ≤ lg j ∧ lg j ≤ 10) → (∀ j, ap j < 16) → (∀ j, op j < 1073741824) → (∀ j, hm j < 30) → (∀ j, tr j < 30) → Cv l yX2_putBetter wsX2_putBetter (rmD (kf + 4)) D vwCl [(cI, .int), (cZ, .boolean)] [.ref hQ, .int (iI (((b : Nat) : Int))), .int (iI (((wg : Nat) : Int)))] [(hQ, .inr (2, [.ref qb, .ref ql, .ref qh, .ref qf, .ref qg, .ref qa, .ref qo, .ref qt, .int (iI (((n : Nat) : Int))), .int (iI (((bw : Nat) : Int)))])), ce_i qb cI 4 (nZ (best)), ce_i ql cI 4 (nZ (ln)), ce_i qh cI 4 (nZ (hm)), ce_i qg cI 16 (lg), ce_i qa cI 4 (nZ (ap)), ce_i qo cI 16 (nZ (op)), ce_i qt cI 4 (nZ (tr))] sz (fun w => ∃ bw2 : Nat, ∃ best2 : Nat → Nat, ∃ op2 : Nat → Nat, ∃ tr2 : Nat → Nat, w = [(hQ, .inr (2, [.ref qb, .ref ql, .ref qh, .ref qf, .ref qg, .ref qa, .ref qo, .ref qt, .int (iI (((n : Nat) : Int))), .int (iI (((bw2 : Nat) : Int)))])), ce_i qb cI 4 (nZ (best2)), ce_i ql cI 4 (nZ (ln)), ce_i qh cI 4 (nZ (hm)), ce_i qg cI 16 (lg), ce_i qa cI 4 (nZ (ap)), ce_i qo cI 16 (nZ (op2)), ce_i qt cI 4 (nZ (tr2))] ∧ (Imp hm n (XB ln lg ap n b (fun j => op (b * 4 + j)) tr) bw best bw2 best2) ∧ (∀ j, op2 j < 1073741824) ∧ (∀ j, j < b * 4 + 4 → op2 j = op j) ∧ (∀ j, j < b → tr2 j = tr j) ∧ (∀ j, tr2 j < 30)) 0 0 := by
  intro kf
  induction kf with
  | zero =>
    intro sz hQ qb ql qh qf qg qa qo qt n bw best ln hm lg ap op tr b wg hn hbn hkf hwg hbw hln hlg hap hop hhm htr
    refine Cv_of (cc := cX2_putBetter) (nL := 6) (by decide) rfl (Nat.le_of_ble_eq_true rfl) ?_
    intro p e s m below meth c A Q hsz C hK hN hA hP hD hS hin hret ls hl
    obtain ⟨hx, hb, hml, hown, hts⟩ := id C
    have hown : s.vm.findClass RX2 = some m.cls := hown
    have hl : lv_has ls 6 [(0, .ref hQ), (1, .int (iI (((b : Nat) : Int)))), (2, .int (iI (((wg : Nat) : Int))))] := hl
    have in_X2 : ∀ w ∈ u_ws RX2 TX2 10, w ∈ wsX2_putBetter := fun w h => List.mem_cons_of_mem _ (inX2 w h)
    have hw3 : WtF hm tr b ≤ 76 * b := WtF_le hhm htr b
    have hl3 := lwF_le (op := op) (hm := hm) (n := n) (rr := b * 4) (n - b)
    refine lv_iload_n hx hb dX2_putBetter_0 rfl (lv_at hl 2 rfl) ?_
    refine lv_aload_n hx hb dX2_putBetter_1 rfl (lv_at hl 0 rfl) ?_
    refine lv_iload_n hx hb dX2_putBetter_2 rfl (lv_at hl 1 rfl) ?_
    have hPc := hP.sub (ws' := [(hQ, .inr (2, [.ref qb, .ref ql, .ref qh, .ref qf, .ref qg, .ref qa, .ref qo, .ref qt, .int (iI (((n : Nat) : Int))), .int (iI (((bw : Nat) : Int)))])), ce_i qh cI 4 (nZ (hm)), ce_i qo cI 16 (nZ (op))]) [0, 3, 6] rfl
    have hDc := hD.sub (ws' := [(hQ, .inr (2, [.ref qb, .ref ql, .ref qh, .ref qf, .ref qg, .ref qa, .ref qo, .ref qt, .int (iI (((n : Nat) : Int))), .int (iI (((bw : Nat) : Int)))])), ce_i qh cI 4 (nZ (hm)), ce_i qo cI 16 (nZ (op))]) [0, 3, 6] (by decide) rfl
    refine rz_calliR (va_runV (As := [.int (iI (((b : Nat) : Int)))]) (rest := [.int (iI (((wg : Nat) : Int)))]) ⟨hx, hb, hml, hown, hts⟩ (k_X2_leastWeightFrom l D cI cZ s.heap.size hQ qb ql qh qf qg qa qo qt n bw hm op b (by omega) (by omega) hhm hop) (cwV 1 hts (gG (g_V tm_X2_140 ti_X2_leastWeightFrom tse_X2_leastWeightFrom tin_X2 cmX2_leastWeightFrom)) rfl rfl rfl (by decide +kernel) ⟨by simp only [rmD]; omega, by simp only [rmD]; omega⟩) ⟨cP_blind, va_recv hK hPc (ci := 2) (q0 := 0) rfl rfl, cP_pre hPc hK hN hDc⟩ rfl rfl hl.1 rfl (lv_room (Nat.le_of_ble_eq_true rfl)) dX2_putBetter_3 ⟨Nat.le_refl _, Nat.le_refl _⟩) hP hD hS hA [0, 3, 6] rfl (fun z1 H locs hp hP hS => ?_)
    subst hp
    refine rn_add hx hb dX2_putBetter_6 ?_
    refine lv_aload_n hx hb dX2_putBetter_7 rfl (lv_at hl 0 rfl) ?_
    refine va_get (D := D) (ci := 2) (v := .int (iI (((bw : Nat) : Int)))) (C := RX2) (T := TX2) (N := 10) hx hb hts in_X2 hown hK hP 0 rfl rfl 9 (by decide) (hts _ (List.mem_cons_of_mem _ tf_X2_36)) (fun _ h9 => h9) rfl dX2_putBetter_8 ?_
    refine rz_clt (tgt := 15) hx hb dX2_putBetter_11 (by decide) (by omega) (by omega) (fun c2 => ?_) (fun c2 => ?_)
    · refine lv_iload_n hx hb dX2_putBetter_15 rfl (lv_at hl 1 rfl) ?_
      refine lv_aload_n hx hb dX2_putBetter_16 rfl (lv_at hl 0 rfl) ?_
      refine va_get (D := D) (ci := 2) (v := .int (iI (((n : Nat) : Int)))) (C := RX2) (T := TX2) (N := 10) hx hb hts in_X2 hown hK hP 0 rfl rfl 8 (by decide) (hts _ (List.mem_cons_of_mem _ tf_X2_45)) (fun _ h9 => h9) rfl dX2_putBetter_17 ?_
      refine rz_clt (tgt := 46) hx hb dX2_putBetter_20 (by decide) (by omega) (by omega) (fun c3 => ?_) (fun c3 => ?_)
      · exfalso; omega
      · refine lv_aload_n hx hb dX2_putBetter_23 rfl (lv_at hl 0 rfl) ?_
        refine lv_iload_n hx hb dX2_putBetter_24 rfl (lv_at hl 2 rfl) ?_
        refine va_put (D := D) (ci := 2) (v := .int (iI (((wg : Nat) : Int)))) (ty := .int) (C := RX2) (T := TX2) (N := 10) hx hb hts in_X2 tyX2 tyX2_ok nmX2 hown hK hP hD hS 0 rfl rfl 9 (by decide) (hts _ (List.mem_cons_of_mem _ tf_X2_36)) (fun _ h9 => h9) rfl (by decide +kernel) rfl rfl (Nat.le_of_ble_eq_true rfl) dX2_putBetter_25 (fun H locs hP hD hS => ?_)
        have hP : va_P D vwCl [(hQ, .inr (2, [.ref qb, .ref ql, .ref qh, .ref qf, .ref qg, .ref qa, .ref qo, .ref qt, .int (iI (((n : Nat) : Int))), .int (iI (((wg : Nat) : Int)))])), ce_i qb cI 4 (nZ (best)), ce_i ql cI 4 (nZ (ln)), ce_i qh cI 4 (nZ (hm)), ce_i qg cI 16 (lg), ce_i qa cI 4 (nZ (ap)), ce_i qo cI 16 (nZ (op)), ce_i qt cI 4 (nZ (tr))] H := hP
        have hD : va_D A [(hQ, .inr (2, [.ref qb, .ref ql, .ref qh, .ref qf, .ref qg, .ref qa, .ref qo, .ref qt, .int (iI (((n : Nat) : Int))), .int (iI (((wg : Nat) : Int)))])), ce_i qb cI 4 (nZ (best)), ce_i ql cI 4 (nZ (ln)), ce_i qh cI 4 (nZ (hm)), ce_i qg cI 16 (lg), ce_i qa cI 4 (nZ (ap)), ce_i qo cI 16 (nZ (op)), ce_i qt cI 4 (nZ (tr))] := hD
        refine lv_aload_n hx hb dX2_putBetter_28 rfl (lv_at hl 0 rfl) ?_
        refine va_get (D := D) (ci := 2) (v := .ref qt) (C := RX2) (T := TX2) (N := 10) hx hb hts in_X2 hown hK hP 0 rfl rfl 7 (by decide) (hts _ (List.mem_cons_of_mem _ tf_X2_33)) (fun _ h9 => h9) rfl dX2_putBetter_29 ?_
        refine lv_iconst (v := iI (((0 : Nat) : Int))) hx hb dX2_putBetter_32 (by decide +kernel) ?_
        refine lv_aload_n hx hb dX2_putBetter_33 rfl (lv_at hl 0 rfl) ?_
        refine va_get (D := D) (ci := 2) (v := .ref qb) (C := RX2) (T := TX2) (N := 10) hx hb hts in_X2 hown hK hP 0 rfl rfl 0 (by decide) (hts _ (List.mem_cons_of_mem _ tf_X2_9)) (fun _ h9 => h9) rfl dX2_putBetter_34 ?_
        refine lv_iconst (v := iI (((0 : Nat) : Int))) hx hb dX2_putBetter_37 (by decide +kernel) ?_
        refine lv_aload_n hx hb dX2_putBetter_38 rfl (lv_at hl 0 rfl) ?_
        refine va_get (D := D) (ci := 2) (v := .int (iI (((n : Nat) : Int)))) (C := RX2) (T := TX2) (N := 10) hx hb hts in_X2 hown hK hP 0 rfl rfl 8 (by decide) (hts _ (List.mem_cons_of_mem _ tf_X2_45)) (fun _ h9 => h9) rfl dX2_putBetter_39 ?_
        refine rn_copyM (rest := []) hx hb (hml.trans hl.1.symm) hown hts tm_X2_75 hK hP hD hS 7 1 0 rfl rfl rfl (by omega) (by omega) (by omega) (by omega) (show 1 ≤ 0 + 4 by omega) (Nat.le_trans (m := 40) (Nat.le_of_ble_eq_true rfl) (show 40 ≤ 40 * (0 + 4) by omega)) dX2_putBetter_42 (fun H locs hP hD hS => ?_)
        have hP : va_P D vwCl [(hQ, .inr (2, [.ref qb, .ref ql, .ref qh, .ref qf, .ref qg, .ref qa, .ref qo, .ref qt, .int (iI (((n : Nat) : Int))), .int (iI (((wg : Nat) : Int)))])), ce_i qb cI 4 (nZ (va_cpy tr best 0 0 n)), ce_i ql cI 4 (nZ (ln)), ce_i qh cI 4 (nZ (hm)), ce_i qg cI 16 (lg), ce_i qa cI 4 (nZ (ap)), ce_i qo cI 16 (nZ (op)), ce_i qt cI 4 (nZ (tr))] H := hP
        have hD : va_D A [(hQ, .inr (2, [.ref qb, .ref ql, .ref qh, .ref qf, .ref qg, .ref qa, .ref qo, .ref qt, .int (iI (((n : Nat) : Int))), .int (iI (((wg : Nat) : Int)))])), ce_i qb cI 4 (nZ (va_cpy tr best 0 0 n)), ce_i ql cI 4 (nZ (ln)), ce_i qh cI 4 (nZ (hm)), ce_i qg cI 16 (lg), ce_i qa cI 4 (nZ (ap)), ce_i qo cI 16 (nZ (op)), ce_i qt cI 4 (nZ (tr))] := hD
        exact hret _ _ _ _ _ dX2_putBetter_45 ⟨_, _, _, _, rfl, imp_leaf (by omega) hwg (by omega) (fun j hj => by rw [pk_cpy_in (by omega) (by omega)]; simp), hop, (fun _ _ => rfl), (fun _ _ => rfl), htr⟩ hP hD hS
    · exact hret _ _ _ _ _ dX2_putBetter_14 ⟨_, _, _, _, rfl, imp_none (fun P h => by have h1 := wt_low hbn hhm hop h.2 (n - b) (Nat.le_refl _); rw [show n - (n - b) = b by omega, WtF_congr b h.1] at h1; omega), hop, (fun _ _ => rfl), (fun _ _ => rfl), htr⟩ hP hD hS
  | succ kf ihR =>
    intro sz hQ qb ql qh qf qg qa qo qt n bw best ln hm lg ap op tr b wg hn hbn hkf hwg hbw hln hlg hap hop hhm htr
    refine Cv_of (cc := cX2_putBetter) (nL := 6) (by decide) rfl (Nat.le_of_ble_eq_true rfl) ?_
    intro p e s m below meth c A Q hsz C hK hN hA hP hD hS hin hret ls hl
    obtain ⟨hx, hb, hml, hown, hts⟩ := id C
    have hown : s.vm.findClass RX2 = some m.cls := hown
    have hl : lv_has ls 6 [(0, .ref hQ), (1, .int (iI (((b : Nat) : Int)))), (2, .int (iI (((wg : Nat) : Int))))] := hl
    have in_X2 : ∀ w ∈ u_ws RX2 TX2 10, w ∈ wsX2_putBetter := fun w h => List.mem_cons_of_mem _ (inX2 w h)
    have K60 : ∀ (fu : Nat) (q : Nat) (bw1 : Nat) (best1 : Nat → Nat) (o1 : Nat → Nat) (tr1 : Nat → Nat), 30 - q < fu → (q ≤ 30) → (b < n) → (bw1 ≤ bw) → (Imp hm n (fun P => (XB ln lg ap n b (fun j => op (b * 4 + j)) tr) P ∧ P b < q) bw best bw1 best1) → (∀ j, o1 j < 1073741824) → (∀ j, j < b * 4 + 4 → o1 j = op j) → (∀ j, j < b → tr1 j = tr j) → (∀ j, tr1 j < 30) → ∀ (H : Heap) (locs : List Loc) (ls : Array Slot), va_P D vwCl [(hQ, .inr (2, [.ref qb, .ref ql, .ref qh, .ref qf, .ref qg, .ref qa, .ref qo, .ref qt, .int (iI (((n : Nat) : Int))), .int (iI (((bw1 : Nat) : Int)))])), ce_i qb cI 4 (nZ (best1)), ce_i ql cI 4 (nZ (ln)), ce_i qh cI 4 (nZ (hm)), ce_i qg cI 16 (lg), ce_i qa cI 4 (nZ (ap)), ce_i qo cI 16 (nZ (o1)), ce_i qt cI 4 (nZ (tr1))] H → va_D A [(hQ, .inr (2, [.ref qb, .ref ql, .ref qh, .ref qf, .ref qg, .ref qa, .ref qo, .ref qt, .int (iI (((n : Nat) : Int))), .int (iI (((bw1 : Nat) : Int)))])), ce_i qb cI 4 (nZ (best1)), ce_i ql cI 4 (nZ (ln)), ce_i qh cI 4 (nZ (hm)), ce_i qg cI 16 (lg), ce_i qa cI 4 (nZ (ap)), ce_i qo cI 16 (nZ (o1)), ce_i qt cI 4 (nZ (tr1))] → va_S A s.heap H locs → lv_has ls 6 [(0, .ref hQ), (1, .int (iI (((b : Nat) : Int)))), (2, .int (iI (((wg : Nat) : Int)))), (3, .int (iI (((op (b * 4 + b) : Nat) : Int)))), (4, .int (iI (((q : Nat) : Int))))] → W p l e (rmD (kf + 1 + 4)) s m ([.ref hQ, .int (iI (((b : Nat) : Int))), .int (iI (((wg : Nat) : Int)))] : List Value).toArray below meth c H locs 0 0 Q (F0 m 60 ls []) := by
      intro fu
      induction fu with
      | zero => intro q bw1 best1 o1 tr1 hmu; exact absurd hmu (Nat.not_lt_zero _)
      | succ fu ih =>
        intro q bw1 best1 o1 tr1 hmu hq hb9 hbw1 hI hB hK1 hT ht1 H locs ls hP hD hS hl
        have hw3 : WtF hm tr b ≤ 76 * b := WtF_le hhm htr b
        have hw4 := fun h => wAt_le (h := hm b) (p := q) h (hhm b)
        refine lv_iload hx hb dX2_putBetter_60 (lv_at hl 4 rfl) ?_
        refine lv_bipush (v := iI (((30 : Nat) : Int))) hx hb dX2_putBetter_62 (by decide +kernel) ?_
        refine rz_cge (tgt := 129) hx hb dX2_putBetter_64 (by decide) (by omega) (by omega) (fun c1 => ?_) (fun c1 => ?_)
        · exact hret _ _ _ _ _ dX2_putBetter_129 ⟨_, _, _, _, rfl, imp_congr hI (fun P => ⟨fun h => ⟨h, by have h2 := bit_30 (hop _) (h.2.1 b (Nat.le_refl b) hb9); omega⟩, fun h => h.1⟩), hB, hK1, hT, ht1⟩ hP hD hS
        · refine lv_iload_n hx hb dX2_putBetter_67 rfl (lv_at hl 3 rfl) ?_
          refine lv_iload hx hb dX2_putBetter_68 (lv_at hl 4 rfl) ?_
          refine rz_shr hx hb dX2_putBetter_70 (by omega) (by have := hop (b * 4 + b); omega) ?_
          refine lv_iconst (v := iI (((1 : Nat) : Int))) hx hb dX2_putBetter_71 (by decide +kernel) ?_
          refine rz_and hx hb dX2_putBetter_72 ?_
          refine rz_ieq (tgt := 123) hx hb dX2_putBetter_73 (by decide) (by have := tb_r (op (b * 4 + b)) q; omega) (fun c2 => ?_) (fun c2 => ?_)
          · have hch := tb_f c2
            refine lv_iinc (v := iI (((q + 1 : Nat) : Int))) (lv' := [(4, .int (iI (((q + 1 : Nat) : Int)))), (0, .ref hQ), (1, .int (iI (((b : Nat) : Int)))), (2, .int (iI (((wg : Nat) : Int)))), (3, .int (iI (((op (b * 4 + b) : Nat) : Int))))]) hx hb dX2_putBetter_123 hl (k := 4) rfl (iI_inc _) (by decide) rfl (fun ls hl => ?_)
            refine lv_goto (tgt := 60) hx hb dX2_putBetter_126 (by decide) ?_
            exact ih (q + 1) (bw1) (best1) (o1) (tr1) (by omega) (by omega) (by omega) (by first | exact hbw1 | (have := imp_le g1; omega)) (by first | exact imp_step hI g1 (fun P => ⟨fun h => ⟨fun j hj => by (by_cases e : j = b; (rw [e, uN_s]; exact h.2); (rw [uN_n _ _ e, h.1.1 j (by omega), hT j (by omega)])), sol_down hb9 hr2 h.1.2 h.2⟩, fun h => ⟨⟨fun j hj => by (rw [h.1 j (by omega), uN_n _ _ (by omega), hT j hj]), sol_up hb9 hch hr2 h.2 (by rw [h.1 b (by omega), uN_s])⟩, by rw [h.1 b (by omega), uN_s]⟩⟩) | (obtain ⟨j, h1, h2, h3⟩ := hlr; rw [hK1 _ (by omega)] at h3; exact imp_skip hI (fun P h e => absurd e (sol_no1 h1 h2 h3 h.2))) | exact imp_skip hI (fun P h e => by have h1 := WtF_mono (hm := hm) (P := P) (k := b + 1) n (by omega); rw [WtF, e, WtF_congr b h.1] at h1; omega) | exact imp_skip hI (fun P h e => by have h1 := h.2.1 b (Nat.le_refl b) hb9; simp only [e, hch] at h1; cases h1)) (by first | exact g2 | exact f1 | exact hB) (by first | exact (fun j h => by rw [g3 j (by omega), f2 j h, hK1 j h]) | exact (fun j h => by rw [f2 j h, hK1 j h]) | exact hK1) (by first | exact (fun j h => by rw [g4 j (by omega), uN_n _ _ (by omega), hT j h]) | exact hT) (by first | exact g5 | exact ht1) _ _ _ hP hD hS (lv_sub hl [1, 2, 3, 4, 0] rfl)
          · have hch := tb_t c2
            have hw5 := hw4 (by omega)
            refine lv_iload_n hx hb dX2_putBetter_76 rfl (lv_at hl 2 rfl) ?_
            refine lv_aload_n hx hb dX2_putBetter_77 rfl (lv_at hl 0 rfl) ?_
            refine lv_iload_n hx hb dX2_putBetter_78 rfl (lv_at hl 1 rfl) ?_
            refine lv_iload hx hb dX2_putBetter_79 (lv_at hl 4 rfl) ?_
            have hPc := hP.sub (ws' := [(hQ, .inr (2, [.ref qb, .ref ql, .ref qh, .ref qf, .ref qg, .ref qa, .ref qo, .ref qt, .int (iI (((n : Nat) : Int))), .int (iI (((bw1 : Nat) : Int)))])), ce_i qh cI 4 (nZ (hm))]) [0, 3] rfl
            have hDc := hD.sub (ws' := [(hQ, .inr (2, [.ref qb, .ref ql, .ref qh, .ref qf, .ref qg, .ref qa, .ref qo, .ref qt, .int (iI (((n : Nat) : Int))), .int (iI (((bw1 : Nat) : Int)))])), ce_i qh cI 4 (nZ (hm))]) [0, 3] (by decide) rfl
            refine rz_calliR (va_runV (As := [.int (iI (((b : Nat) : Int))), .int (iI (((q : Nat) : Int)))]) (rest := [.int (iI (((wg : Nat) : Int)))]) ⟨hx, hb, hml, hown, hts⟩ (k_X2_weightAt l D cI cZ H.size hQ qb ql qh qf qg qa qo qt n bw1 hm b q (by omega) (by omega) hhm) (cwV 2 hts (gG (g_V tm_X2_143 ti_X2_weightAt tse_X2_weightAt tin_X2 cmX2_weightAt)) rfl rfl rfl (by decide +kernel) ⟨by simp only [rmD]; omega, by simp only [rmD]; omega⟩) ⟨cP_blind, va_recv hK hPc (ci := 2) (q0 := 0) rfl rfl, cP_pre hPc hK hN hDc⟩ rfl rfl hl.1 rfl (lv_room (Nat.le_of_ble_eq_true rfl)) dX2_putBetter_81 ⟨Nat.le_refl _, Nat.le_refl _⟩) hP hD hS hA [0, 3] rfl (fun z3 H locs hp hP hS => ?_)
            subst hp
            refine rn_add hx hb dX2_putBetter_84 ?_
            refine lv_istore (lv' := [(5, .int (iI (((wg + (wAt (hm b) q) : Nat) : Int)))), (0, .ref hQ), (1, .int (iI (((b : Nat) : Int)))), (2, .int (iI (((wg : Nat) : Int)))), (3, .int (iI (((op (b * 4 + b) : Nat) : Int)))), (4, .int (iI (((q : Nat) : Int))))]) hx hb dX2_putBetter_85 hl (by decide) rfl (fun ls hl => ?_)
            refine lv_iload hx hb dX2_putBetter_87 (lv_at hl 0 rfl) ?_
            refine lv_aload_n hx hb dX2_putBetter_89 rfl (lv_at hl 1 rfl) ?_
            refine va_get (D := D) (ci := 2) (v := .int (iI (((bw1 : Nat) : Int)))) (C := RX2) (T := TX2) (N := 10) hx hb hts in_X2 hown hK hP 0 rfl rfl 9 (by decide) (hts _ (List.mem_cons_of_mem _ tf_X2_36)) (fun _ h9 => h9) rfl dX2_putBetter_90 ?_
            refine rz_cge (tgt := 123) hx hb dX2_putBetter_93 (by decide) (by omega) (by omega) (fun c4 => ?_) (fun c4 => ?_)
            · have hpr := c4
              refine lv_iinc (v := iI (((q + 1 : Nat) : Int))) (lv' := [(4, .int (iI (((q + 1 : Nat) : Int)))), (5, .int (iI (((wg + (wAt (hm b) q) : Nat) : Int)))), (0, .ref hQ), (1, .int (iI (((b : Nat) : Int)))), (2, .int (iI (((wg : Nat) : Int)))), (3, .int (iI (((op (b * 4 + b) : Nat) : Int))))]) hx hb dX2_putBetter_123 hl (k := 5) rfl (iI_inc _) (by decide) rfl (fun ls hl => ?_)
              refine lv_goto (tgt := 60) hx hb dX2_putBetter_126 (by decide) ?_
              exact ih (q + 1) (bw1) (best1) (o1) (tr1) (by omega) (by omega) (by omega) (by first | exact hbw1 | (have := imp_le g1; omega)) (by first | exact imp_step hI g1 (fun P => ⟨fun h => ⟨fun j hj => by (by_cases e : j = b; (rw [e, uN_s]; exact h.2); (rw [uN_n _ _ e, h.1.1 j (by omega), hT j (by omega)])), sol_down hb9 hr2 h.1.2 h.2⟩, fun h => ⟨⟨fun j hj => by (rw [h.1 j (by omega), uN_n _ _ (by omega), hT j hj]), sol_up hb9 hch hr2 h.2 (by rw [h.1 b (by omega), uN_s])⟩, by rw [h.1 b (by omega), uN_s]⟩⟩) | (obtain ⟨j, h1, h2, h3⟩ := hlr; rw [hK1 _ (by omega)] at h3; exact imp_skip hI (fun P h e => absurd e (sol_no1 h1 h2 h3 h.2))) | exact imp_skip hI (fun P h e => by have h1 := WtF_mono (hm := hm) (P := P) (k := b + 1) n (by omega); rw [WtF, e, WtF_congr b h.1] at h1; omega) | exact imp_skip hI (fun P h e => by have h1 := h.2.1 b (Nat.le_refl b) hb9; simp only [e, hch] at h1; cases h1)) (by first | exact g2 | exact f1 | exact hB) (by first | exact (fun j h => by rw [g3 j (by omega), f2 j h, hK1 j h]) | exact (fun j h => by rw [f2 j h, hK1 j h]) | exact hK1) (by first | exact (fun j h => by rw [g4 j (by omega), uN_n _ _ (by omega), hT j h]) | exact hT) (by first | exact g5 | exact ht1) _ _ _ hP hD hS (lv_sub hl [2, 3, 4, 5, 0] rfl)
            · refine lv_aload_n hx hb dX2_putBetter_96 rfl (lv_at hl 1 rfl) ?_
              refine lv_iload_n hx hb dX2_putBetter_97 rfl (lv_at hl 2 rfl) ?_
              refine lv_iload hx hb dX2_putBetter_98 (lv_at hl 5 rfl) ?_
              have hPc := hP.sub (ws' := [(hQ, .inr (2, [.ref qb, .ref ql, .ref qh, .ref qf, .ref qg, .ref qa, .ref qo, .ref qt, .int (iI (((n : Nat) : Int))), .int (iI (((bw1 : Nat) : Int)))])), ce_i ql cI 4 (nZ (ln)), ce_i qg cI 16 (lg), ce_i qa cI 4 (nZ (ap)), ce_i qo cI 16 (nZ (o1))]) [0, 2, 4, 5, 6] rfl
              have hDc := hD.sub (ws' := [(hQ, .inr (2, [.ref qb, .ref ql, .ref qh, .ref qf, .ref qg, .ref qa, .ref qo, .ref qt, .int (iI (((n : Nat) : Int))), .int (iI (((bw1 : Nat) : Int)))])), ce_i ql cI 4 (nZ (ln)), ce_i qg cI 16 (lg), ce_i qa cI 4 (nZ (ap)), ce_i qo cI 16 (nZ (o1))]) [0, 2, 4, 5, 6] (by decide) rfl
              refine rz_calli (va_runV (As := [.int (iI (((b : Nat) : Int))), .int (iI (((q : Nat) : Int)))]) (rest := []) ⟨hx, hb, hml, hown, hts⟩ (k_X2_leavesRoom l D cI cZ H.size hQ qb ql qh qf qg qa qo qt n bw1 ln lg ap o1 b q (by omega) (by omega) (by omega) hln hlg hap hB) (cwV 2 hts (gG (g_V tm_X2_136 ti_X2_leavesRoom tse_X2_leavesRoom tin_X2 cmX2_leavesRoom)) rfl rfl rfl (by decide +kernel) ⟨by simp only [rmD]; omega, by simp only [rmD]; omega⟩) ⟨cP_blind, va_recv hK hPc (ci := 2) (q0 := 0) rfl rfl, cP_pre hPc hK hN hDc⟩ rfl rfl hl.1 rfl (lv_room (Nat.le_of_ble_eq_true rfl)) dX2_putBetter_100 ⟨Nat.le_refl _, Nat.le_refl _⟩) hP hD hS hA [0, 2, 4, 5, 6] [1, 3, 7] rfl (wr := [ce_i qb cI 4 (nZ (best1)), ce_i qh cI 4 (nZ (hm)), ce_i qt cI 4 (nZ (tr1))]) rfl (by decide) (by decide) (fun z5 w H locs hp hP hD hS => ?_)
              obtain ⟨r1, o2, rfl, rfl, f1, f2, f3, f4⟩ := hp
              have hP : va_P D vwCl [(hQ, .inr (2, [.ref qb, .ref ql, .ref qh, .ref qf, .ref qg, .ref qa, .ref qo, .ref qt, .int (iI (((n : Nat) : Int))), .int (iI (((bw1 : Nat) : Int)))])), ce_i qb cI 4 (nZ (best1)), ce_i ql cI 4 (nZ (ln)), ce_i qh cI 4 (nZ (hm)), ce_i qg cI 16 (lg), ce_i qa cI 4 (nZ (ap)), ce_i qo cI 16 (nZ (o2)), ce_i qt cI 4 (nZ (tr1))] H := hP.sub (ws' := [(hQ, .inr (2, [.ref qb, .ref ql, .ref qh, .ref qf, .ref qg, .ref qa, .ref qo, .ref qt, .int (iI (((n : Nat) : Int))), .int (iI (((bw1 : Nat) : Int)))])), ce_i qb cI 4 (nZ (best1)), ce_i ql cI 4 (nZ (ln)), ce_i qh cI 4 (nZ (hm)), ce_i qg cI 16 (lg), ce_i qa cI 4 (nZ (ap)), ce_i qo cI 16 (nZ (o2)), ce_i qt cI 4 (nZ (tr1))]) [3, 0, 4, 1, 5, 6, 7, 2] rfl
              have hD : va_D A [(hQ, .inr (2, [.ref qb, .ref ql, .ref qh, .ref qf, .ref qg, .ref qa, .ref qo, .ref qt, .int (iI (((n : Nat) : Int))), .int (iI (((bw1 : Nat) : Int)))])), ce_i qb cI 4 (nZ (best1)), ce_i ql cI 4 (nZ (ln)), ce_i qh cI 4 (nZ (hm)), ce_i qg cI 16 (lg), ce_i qa cI 4 (nZ (ap)), ce_i qo cI 16 (nZ (o2)), ce_i qt cI 4 (nZ (tr1))] := hD.sub (ws' := [(hQ, .inr (2, [.ref qb, .ref ql, .ref qh, .ref qf, .ref qg, .ref qa, .ref qo, .ref qt, .int (iI (((n : Nat) : Int))), .int (iI (((bw1 : Nat) : Int)))])), ce_i qb cI 4 (nZ (best1)), ce_i ql cI 4 (nZ (ln)), ce_i qh cI 4 (nZ (hm)), ce_i qg cI 16 (lg), ce_i qa cI 4 (nZ (ap)), ce_i qo cI 16 (nZ (o2)), ce_i qt cI 4 (nZ (tr1))]) [3, 0, 4, 1, 5, 6, 7, 2] (by decide) rfl
              refine rz_beq (z := r1) (tgt := 123) hx hb dX2_putBetter_103 (by decide) (fun c6 => ?_) (fun c6 => ?_)
              · have hlr := f4 c6
                refine lv_iinc (v := iI (((q + 1 : Nat) : Int))) (lv' := [(4, .int (iI (((q + 1 : Nat) : Int)))), (5, .int (iI (((wg + (wAt (hm b) q) : Nat) : Int)))), (0, .ref hQ), (1, .int (iI (((b : Nat) : Int)))), (2, .int (iI (((wg : Nat) : Int)))), (3, .int (iI (((op (b * 4 + b) : Nat) : Int))))]) hx hb dX2_putBetter_123 hl (k := 5) rfl (iI_inc _) (by decide) rfl (fun ls hl => ?_)
                refine lv_goto (tgt := 60) hx hb dX2_putBetter_126 (by decide) ?_
                exact ih (q + 1) (bw1) (best1) (o2) (tr1) (by omega) (by omega) (by omega) (by first | exact hbw1 | (have := imp_le g1; omega)) (by first | exact imp_step hI g1 (fun P => ⟨fun h => ⟨fun j hj => by (by_cases e : j = b; (rw [e, uN_s]; exact h.2); (rw [uN_n _ _ e, h.1.1 j (by omega), hT j (by omega)])), sol_down hb9 hr2 h.1.2 h.2⟩, fun h => ⟨⟨fun j hj => by (rw [h.1 j (by omega), uN_n _ _ (by omega), hT j hj]), sol_up hb9 hch hr2 h.2 (by rw [h.1 b (by omega), uN_s])⟩, by rw [h.1 b (by omega), uN_s]⟩⟩) | (obtain ⟨j, h1, h2, h3⟩ := hlr; rw [hK1 _ (by omega)] at h3; exact imp_skip hI (fun P h e => absurd e (sol_no1 h1 h2 h3 h.2))) | exact imp_skip hI (fun P h e => by have h1 := WtF_mono (hm := hm) (P := P) (k := b + 1) n (by omega); rw [WtF, e, WtF_congr b h.1] at h1; omega) | exact imp_skip hI (fun P h e => by have h1 := h.2.1 b (Nat.le_refl b) hb9; simp only [e, hch] at h1; cases h1)) (by first | exact g2 | exact f1 | exact hB) (by first | exact (fun j h => by rw [g3 j (by omega), f2 j h, hK1 j h]) | exact (fun j h => by rw [f2 j h, hK1 j h]) | exact hK1) (by first | exact (fun j h => by rw [g4 j (by omega), uN_n _ _ (by omega), hT j h]) | exact hT) (by first | exact g5 | exact ht1) _ _ _ hP hD hS (lv_sub hl [2, 3, 4, 5, 0] rfl)
              · have hr2 : ∀ j, b < j → j < n → o2 ((b + 1) * 4 + j) = op (b * 4 + j) &&& besF ln lg ap b q j := fun j h1 h2 => by rw [show (b + 1) * 4 + j = b * 4 + 4 + j by omega, f3 c6 j h1 h2, hK1 _ (by omega)]
                have hws : wg + wAt (hm b) q = WtF hm (uN tr1 b q) (b + 1) := by
                  rw [WtF, uN_s, hwg, WtF_congr b (P := uN tr1 b q) (P' := tr) (fun j hj => by rw [uN_n _ _ (by omega)]; exact hT j hj)]
                have ht2 : ∀ j, uN tr1 b q j < 30 := uN_all (P := fun x => x < 30) ht1 _ (by omega)
                refine lv_aload_n hx hb dX2_putBetter_106 rfl (lv_at hl 1 rfl) ?_
                refine va_get (D := D) (ci := 2) (v := .ref qt) (C := RX2) (T := TX2) (N := 10) hx hb hts in_X2 hown hK hP 0 rfl rfl 7 (by decide) (hts _ (List.mem_cons_of_mem _ tf_X2_33)) (fun _ h9 => h9) rfl dX2_putBetter_107 ?_
                refine lv_iload_n hx hb dX2_putBetter_110 rfl (lv_at hl 2 rfl) ?_
                refine lv_iload hx hb dX2_putBetter_111 (lv_at hl 5 rfl) ?_
                refine rn_astM hx hb hK hP hD hS 7 0 rfl rfl (by omega) (by omega) dX2_putBetter_113 (fun H locs hP hD hS => ?_)
                have hP : va_P D vwCl [(hQ, .inr (2, [.ref qb, .ref ql, .ref qh, .ref qf, .ref qg, .ref qa, .ref qo, .ref qt, .int (iI (((n : Nat) : Int))), .int (iI (((bw1 : Nat) : Int)))])), ce_i qb cI 4 (nZ (best1)), ce_i ql cI 4 (nZ (ln)), ce_i qh cI 4 (nZ (hm)), ce_i qg cI 16 (lg), ce_i qa cI 4 (nZ (ap)), ce_i qo cI 16 (nZ (o2)), ce_i qt cI 4 (nZ (uN tr1 b q))] H := hP
                have hD : va_D A [(hQ, .inr (2, [.ref qb, .ref ql, .ref qh, .ref qf, .ref qg, .ref qa, .ref qo, .ref qt, .int (iI (((n : Nat) : Int))), .int (iI (((bw1 : Nat) : Int)))])), ce_i qb cI 4 (nZ (best1)), ce_i ql cI 4 (nZ (ln)), ce_i qh cI 4 (nZ (hm)), ce_i qg cI 16 (lg), ce_i qa cI 4 (nZ (ap)), ce_i qo cI 16 (nZ (o2)), ce_i qt cI 4 (nZ (uN tr1 b q))] := hD
                refine lv_aload_n hx hb dX2_putBetter_114 rfl (lv_at hl 1 rfl) ?_
                refine lv_iload_n hx hb dX2_putBetter_115 rfl (lv_at hl 2 rfl) ?_
                refine lv_iconst (v := iI (((1 : Nat) : Int))) hx hb dX2_putBetter_116 (by decide +kernel) ?_
                refine rn_add hx hb dX2_putBetter_117 ?_
                refine lv_iload hx hb dX2_putBetter_118 (lv_at hl 0 rfl) ?_
                have hPc := hP.sub (ws' := [(hQ, .inr (2, [.ref qb, .ref ql, .ref qh, .ref qf, .ref qg, .ref qa, .ref qo, .ref qt, .int (iI (((n : Nat) : Int))), .int (iI (((bw1 : Nat) : Int)))])), ce_i qb cI 4 (nZ (best1)), ce_i ql cI 4 (nZ (ln)), ce_i qh cI 4 (nZ (hm)), ce_i qg cI 16 (lg), ce_i qa cI 4 (nZ (ap)), ce_i qo cI 16 (nZ (o2)), ce_i qt cI 4 (nZ (uN tr1 b q))]) [0, 1, 2, 3, 4, 5, 6, 7] rfl
                have hDc := hD.sub (ws' := [(hQ, .inr (2, [.ref qb, .ref ql, .ref qh, .ref qf, .ref qg, .ref qa, .ref qo, .ref qt, .int (iI (((n : Nat) : Int))), .int (iI (((bw1 : Nat) : Int)))])), ce_i qb cI 4 (nZ (best1)), ce_i ql cI 4 (nZ (ln)), ce_i qh cI 4 (nZ (hm)), ce_i qg cI 16 (lg), ce_i qa cI 4 (nZ (ap)), ce_i qo cI 16 (nZ (o2)), ce_i qt cI 4 (nZ (uN tr1 b q))]) [0, 1, 2, 3, 4, 5, 6, 7] (by decide) rfl
                refine rz_callv (va_runV (As := [.int (iI (((b + 1 : Nat) : Int))), .int (iI (((wg + (wAt (hm b) q) : Nat) : Int)))]) (rest := []) ⟨hx, hb, hml, hown, hts⟩ (ihR H.size hQ qb ql qh qf qg qa qo qt n bw1 best1 ln hm lg ap o2 (uN tr1 b q) (b + 1) (wg + (wAt (hm b) q)) (by omega) (by omega) (by omega) hws (by omega) hln hlg hap f1 hhm ht2) (cwV 2 hts (gG (g_V tm_X2_132 ti_X2_putBetter tse_X2_putBetter tin_X2 cmX2_putBetter)) rfl rfl rfl (by decide +kernel) ⟨by simp only [rmD]; omega, by simp only [rmD]; omega⟩) ⟨cP_blind, va_recv hK hPc (ci := 2) (q0 := 0) rfl rfl, cP_pre hPc hK hN hDc⟩ rfl rfl hl.1 rfl (lv_room (Nat.le_of_ble_eq_true rfl)) dX2_putBetter_120 ⟨Nat.le_refl _, Nat.le_refl _⟩) hP hD hS hA [0, 1, 2, 3, 4, 5, 6, 7] [] rfl (wr := []) rfl (by decide) (by decide) (fun w H locs hp hP hD hS => ?_)
                obtain ⟨bw2, best2, o3, tr3, rfl, g1, g2, g3, g4, g5⟩ := hp
                have hP : va_P D vwCl [(hQ, .inr (2, [.ref qb, .ref ql, .ref qh, .ref qf, .ref qg, .ref qa, .ref qo, .ref qt, .int (iI (((n : Nat) : Int))), .int (iI (((bw2 : Nat) : Int)))])), ce_i qb cI 4 (nZ (best2)), ce_i ql cI 4 (nZ (ln)), ce_i qh cI 4 (nZ (hm)), ce_i qg cI 16 (lg), ce_i qa cI 4 (nZ (ap)), ce_i qo cI 16 (nZ (o3)), ce_i qt cI 4 (nZ (tr3))] H := hP.sub (ws' := [(hQ, .inr (2, [.ref qb, .ref ql, .ref qh, .ref qf, .ref qg, .ref qa, .ref qo, .ref qt, .int (iI (((n : Nat) : Int))), .int (iI (((bw2 : Nat) : Int)))])), ce_i qb cI 4 (nZ (best2)), ce_i ql cI 4 (nZ (ln)), ce_i qh cI 4 (nZ (hm)), ce_i qg cI 16 (lg), ce_i qa cI 4 (nZ (ap)), ce_i qo cI 16 (nZ (o3)), ce_i qt cI 4 (nZ (tr3))]) [0, 1, 2, 3, 4, 5, 6, 7] rfl
                have hD : va_D A [(hQ, .inr (2, [.ref qb, .ref ql, .ref qh, .ref qf, .ref qg, .ref qa, .ref qo, .ref qt, .int (iI (((n : Nat) : Int))), .int (iI (((bw2 : Nat) : Int)))])), ce_i qb cI 4 (nZ (best2)), ce_i ql cI 4 (nZ (ln)), ce_i qh cI 4 (nZ (hm)), ce_i qg cI 16 (lg), ce_i qa cI 4 (nZ (ap)), ce_i qo cI 16 (nZ (o3)), ce_i qt cI 4 (nZ (tr3))] := hD.sub (ws' := [(hQ, .inr (2, [.ref qb, .ref ql, .ref qh, .ref qf, .ref qg, .ref qa, .ref qo, .ref qt, .int (iI (((n : Nat) : Int))), .int (iI (((bw2 : Nat) : Int)))])), ce_i qb cI 4 (nZ (best2)), ce_i ql cI 4 (nZ (ln)), ce_i qh cI 4 (nZ (hm)), ce_i qg cI 16 (lg), ce_i qa cI 4 (nZ (ap)), ce_i qo cI 16 (nZ (o3)), ce_i qt cI 4 (nZ (tr3))]) [0, 1, 2, 3, 4, 5, 6, 7] (by decide) rfl
                refine lv_iinc (v := iI (((q + 1 : Nat) : Int))) (lv' := [(4, .int (iI (((q + 1 : Nat) : Int)))), (5, .int (iI (((wg + (wAt (hm b) q) : Nat) : Int)))), (0, .ref hQ), (1, .int (iI (((b : Nat) : Int)))), (2, .int (iI (((wg : Nat) : Int)))), (3, .int (iI (((op (b * 4 + b) : Nat) : Int))))]) hx hb dX2_putBetter_123 hl (k := 5) rfl (iI_inc _) (by decide) rfl (fun ls hl => ?_)
                refine lv_goto (tgt := 60) hx hb dX2_putBetter_126 (by decide) ?_
                exact ih (q + 1) (bw2) (best2) (o3) (tr3) (by omega) (by omega) (by omega) (by first | exact hbw1 | (have := imp_le g1; omega)) (by first | exact imp_step hI g1 (fun P => ⟨fun h => ⟨fun j hj => by (by_cases e : j = b; (rw [e, uN_s]; exact h.2); (rw [uN_n _ _ e, h.1.1 j (by omega), hT j (by omega)])), sol_down hb9 hr2 h.1.2 h.2⟩, fun h => ⟨⟨fun j hj => by (rw [h.1 j (by omega), uN_n _ _ (by omega), hT j hj]), sol_up hb9 hch hr2 h.2 (by rw [h.1 b (by omega), uN_s])⟩, by rw [h.1 b (by omega), uN_s]⟩⟩) | (obtain ⟨j, h1, h2, h3⟩ := hlr; rw [hK1 _ (by omega)] at h3; exact imp_skip hI (fun P h e => absurd e (sol_no1 h1 h2 h3 h.2))) | exact imp_skip hI (fun P h e => by have h1 := WtF_mono (hm := hm) (P := P) (k := b + 1) n (by omega); rw [WtF, e, WtF_congr b h.1] at h1; omega) | exact imp_skip hI (fun P h e => by have h1 := h.2.1 b (Nat.le_refl b) hb9; simp only [e, hch] at h1; cases h1)) (by first | exact g2 | exact f1 | exact hB) (by first | exact (fun j h => by rw [g3 j (by omega), f2 j h, hK1 j h]) | exact (fun j h => by rw [f2 j h, hK1 j h]) | exact hK1) (by first | exact (fun j h => by rw [g4 j (by omega), uN_n _ _ (by omega), hT j h]) | exact hT) (by first | exact g5 | exact ht1) _ _ _ hP hD hS (lv_sub hl [2, 3, 4, 5, 0] rfl)
    have hw3 : WtF hm tr b ≤ 76 * b := WtF_le hhm htr b
    have hl3 := lwF_le (op := op) (hm := hm) (n := n) (rr := b * 4) (n - b)
    refine lv_iload_n hx hb dX2_putBetter_0 rfl (lv_at hl 2 rfl) ?_
    refine lv_aload_n hx hb dX2_putBetter_1 rfl (lv_at hl 0 rfl) ?_
    refine lv_iload_n hx hb dX2_putBetter_2 rfl (lv_at hl 1 rfl) ?_
    have hPc := hP.sub (ws' := [(hQ, .inr (2, [.ref qb, .ref ql, .ref qh, .ref qf, .ref qg, .ref qa, .ref qo, .ref qt, .int (iI (((n : Nat) : Int))), .int (iI (((bw : Nat) : Int)))])), ce_i qh cI 4 (nZ (hm)), ce_i qo cI 16 (nZ (op))]) [0, 3, 6] rfl
    have hDc := hD.sub (ws' := [(hQ, .inr (2, [.ref qb, .ref ql, .ref qh, .ref qf, .ref qg, .ref qa, .ref qo, .ref qt, .int (iI (((n : Nat) : Int))), .int (iI (((bw : Nat) : Int)))])), ce_i qh cI 4 (nZ (hm)), ce_i qo cI 16 (nZ (op))]) [0, 3, 6] (by decide) rfl
    refine rz_calliR (va_runV (As := [.int (iI (((b : Nat) : Int)))]) (rest := [.int (iI (((wg : Nat) : Int)))]) ⟨hx, hb, hml, hown, hts⟩ (k_X2_leastWeightFrom l D cI cZ s.heap.size hQ qb ql qh qf qg qa qo qt n bw hm op b (by omega) (by omega) hhm hop) (cwV 1 hts (gG (g_V tm_X2_140 ti_X2_leastWeightFrom tse_X2_leastWeightFrom tin_X2 cmX2_leastWeightFrom)) rfl rfl rfl (by decide +kernel) ⟨by simp only [rmD]; omega, by simp only [rmD]; omega⟩) ⟨cP_blind, va_recv hK hPc (ci := 2) (q0 := 0) rfl rfl, cP_pre hPc hK hN hDc⟩ rfl rfl hl.1 rfl (lv_room (Nat.le_of_ble_eq_true rfl)) dX2_putBetter_3 ⟨Nat.le_refl _, Nat.le_refl _⟩) hP hD hS hA [0, 3, 6] rfl (fun z8 H locs hp hP hS => ?_)
    subst hp
    refine rn_add hx hb dX2_putBetter_6 ?_
    refine lv_aload_n hx hb dX2_putBetter_7 rfl (lv_at hl 0 rfl) ?_
    refine va_get (D := D) (ci := 2) (v := .int (iI (((bw : Nat) : Int)))) (C := RX2) (T := TX2) (N := 10) hx hb hts in_X2 hown hK hP 0 rfl rfl 9 (by decide) (hts _ (List.mem_cons_of_mem _ tf_X2_36)) (fun _ h9 => h9) rfl dX2_putBetter_8 ?_
    refine rz_clt (tgt := 15) hx hb dX2_putBetter_11 (by decide) (by omega) (by omega) (fun c9 => ?_) (fun c9 => ?_)
    · refine lv_iload_n hx hb dX2_putBetter_15 rfl (lv_at hl 1 rfl) ?_
      refine lv_aload_n hx hb dX2_putBetter_16 rfl (lv_at hl 0 rfl) ?_
      refine va_get (D := D) (ci := 2) (v := .int (iI (((n : Nat) : Int)))) (C := RX2) (T := TX2) (N := 10) hx hb hts in_X2 hown hK hP 0 rfl rfl 8 (by decide) (hts _ (List.mem_cons_of_mem _ tf_X2_45)) (fun _ h9 => h9) rfl dX2_putBetter_17 ?_
      refine rz_clt (tgt := 46) hx hb dX2_putBetter_20 (by decide) (by omega) (by omega) (fun c10 => ?_) (fun c10 => ?_)
      · refine lv_aload_n hx hb dX2_putBetter_46 rfl (lv_at hl 0 rfl) ?_
        refine va_get (D := D) (ci := 2) (v := .ref qo) (C := RX2) (T := TX2) (N := 10) hx hb hts in_X2 hown hK hP 0 rfl rfl 6 (by decide) (hts _ (List.mem_cons_of_mem _ tf_X2_30)) (fun _ h9 => h9) rfl dX2_putBetter_47 ?_
        refine lv_iload_n hx hb dX2_putBetter_50 rfl (lv_at hl 1 rfl) ?_
        refine lv_iconst (v := iI (((4 : Nat) : Int))) hx hb dX2_putBetter_51 (by decide +kernel) ?_
        refine rn_mul hx hb dX2_putBetter_52 ?_
        refine lv_iload_n hx hb dX2_putBetter_53 rfl (lv_at hl 1 rfl) ?_
        refine rn_add hx hb dX2_putBetter_54 ?_
        refine rn_aldM hx hb hK hP 6 0 rfl rfl (by omega) (by omega) dX2_putBetter_55 ?_
        refine lv_istore_n (lv' := [(3, .int (iI (((op ((b * 4) + b) : Nat) : Int)))), (0, .ref hQ), (1, .int (iI (((b : Nat) : Int)))), (2, .int (iI (((wg : Nat) : Int))))]) hx hb dX2_putBetter_56 rfl hl (by decide) rfl (fun ls hl => ?_)
        refine lv_iconst (v := iI (((0 : Nat) : Int))) hx hb dX2_putBetter_57 (by decide +kernel) ?_
        refine lv_istore (lv' := [(4, .int (iI (((0 : Nat) : Int)))), (3, .int (iI (((op ((b * 4) + b) : Nat) : Int)))), (0, .ref hQ), (1, .int (iI (((b : Nat) : Int)))), (2, .int (iI (((wg : Nat) : Int))))]) hx hb dX2_putBetter_58 hl (by decide) rfl (fun ls hl => ?_)
        exact K60 (30 - (0) + 1) (0) (bw) (best) (op) (tr) (Nat.lt_succ_self _) (by omega) (by omega) (by omega) (imp_none (fun P h => absurd h.2 (Nat.not_lt_zero _))) hop (fun _ _ => rfl) (fun _ _ => rfl) htr _ _ _ hP hD hS (lv_sub hl [2, 3, 4, 1, 0] rfl)
      · refine lv_aload_n hx hb dX2_putBetter_23 rfl (lv_at hl 0 rfl) ?_
        refine lv_iload_n hx hb dX2_putBetter_24 rfl (lv_at hl 2 rfl) ?_
        refine va_put (D := D) (ci := 2) (v := .int (iI (((wg : Nat) : Int)))) (ty := .int) (C := RX2) (T := TX2) (N := 10) hx hb hts in_X2 tyX2 tyX2_ok nmX2 hown hK hP hD hS 0 rfl rfl 9 (by decide) (hts _ (List.mem_cons_of_mem _ tf_X2_36)) (fun _ h9 => h9) rfl (by decide +kernel) rfl rfl (Nat.le_of_ble_eq_true rfl) dX2_putBetter_25 (fun H locs hP hD hS => ?_)
        have hP : va_P D vwCl [(hQ, .inr (2, [.ref qb, .ref ql, .ref qh, .ref qf, .ref qg, .ref qa, .ref qo, .ref qt, .int (iI (((n : Nat) : Int))), .int (iI (((wg : Nat) : Int)))])), ce_i qb cI 4 (nZ (best)), ce_i ql cI 4 (nZ (ln)), ce_i qh cI 4 (nZ (hm)), ce_i qg cI 16 (lg), ce_i qa cI 4 (nZ (ap)), ce_i qo cI 16 (nZ (op)), ce_i qt cI 4 (nZ (tr))] H := hP
        have hD : va_D A [(hQ, .inr (2, [.ref qb, .ref ql, .ref qh, .ref qf, .ref qg, .ref qa, .ref qo, .ref qt, .int (iI (((n : Nat) : Int))), .int (iI (((wg : Nat) : Int)))])), ce_i qb cI 4 (nZ (best)), ce_i ql cI 4 (nZ (ln)), ce_i qh cI 4 (nZ (hm)), ce_i qg cI 16 (lg), ce_i qa cI 4 (nZ (ap)), ce_i qo cI 16 (nZ (op)), ce_i qt cI 4 (nZ (tr))] := hD
        refine lv_aload_n hx hb dX2_putBetter_28 rfl (lv_at hl 0 rfl) ?_
        refine va_get (D := D) (ci := 2) (v := .ref qt) (C := RX2) (T := TX2) (N := 10) hx hb hts in_X2 hown hK hP 0 rfl rfl 7 (by decide) (hts _ (List.mem_cons_of_mem _ tf_X2_33)) (fun _ h9 => h9) rfl dX2_putBetter_29 ?_
        refine lv_iconst (v := iI (((0 : Nat) : Int))) hx hb dX2_putBetter_32 (by decide +kernel) ?_
        refine lv_aload_n hx hb dX2_putBetter_33 rfl (lv_at hl 0 rfl) ?_
        refine va_get (D := D) (ci := 2) (v := .ref qb) (C := RX2) (T := TX2) (N := 10) hx hb hts in_X2 hown hK hP 0 rfl rfl 0 (by decide) (hts _ (List.mem_cons_of_mem _ tf_X2_9)) (fun _ h9 => h9) rfl dX2_putBetter_34 ?_
        refine lv_iconst (v := iI (((0 : Nat) : Int))) hx hb dX2_putBetter_37 (by decide +kernel) ?_
        refine lv_aload_n hx hb dX2_putBetter_38 rfl (lv_at hl 0 rfl) ?_
        refine va_get (D := D) (ci := 2) (v := .int (iI (((n : Nat) : Int)))) (C := RX2) (T := TX2) (N := 10) hx hb hts in_X2 hown hK hP 0 rfl rfl 8 (by decide) (hts _ (List.mem_cons_of_mem _ tf_X2_45)) (fun _ h9 => h9) rfl dX2_putBetter_39 ?_
        refine rn_copyM (rest := []) hx hb (hml.trans hl.1.symm) hown hts tm_X2_75 hK hP hD hS 7 1 0 rfl rfl rfl (by omega) (by omega) (by omega) (by omega) (show 1 ≤ kf + 1 + 4 by omega) (Nat.le_trans (m := 40) (Nat.le_of_ble_eq_true rfl) (show 40 ≤ 40 * (kf + 1 + 4) by omega)) dX2_putBetter_42 (fun H locs hP hD hS => ?_)
        have hP : va_P D vwCl [(hQ, .inr (2, [.ref qb, .ref ql, .ref qh, .ref qf, .ref qg, .ref qa, .ref qo, .ref qt, .int (iI (((n : Nat) : Int))), .int (iI (((wg : Nat) : Int)))])), ce_i qb cI 4 (nZ (va_cpy tr best 0 0 n)), ce_i ql cI 4 (nZ (ln)), ce_i qh cI 4 (nZ (hm)), ce_i qg cI 16 (lg), ce_i qa cI 4 (nZ (ap)), ce_i qo cI 16 (nZ (op)), ce_i qt cI 4 (nZ (tr))] H := hP
        have hD : va_D A [(hQ, .inr (2, [.ref qb, .ref ql, .ref qh, .ref qf, .ref qg, .ref qa, .ref qo, .ref qt, .int (iI (((n : Nat) : Int))), .int (iI (((wg : Nat) : Int)))])), ce_i qb cI 4 (nZ (va_cpy tr best 0 0 n)), ce_i ql cI 4 (nZ (ln)), ce_i qh cI 4 (nZ (hm)), ce_i qg cI 16 (lg), ce_i qa cI 4 (nZ (ap)), ce_i qo cI 16 (nZ (op)), ce_i qt cI 4 (nZ (tr))] := hD
        exact hret _ _ _ _ _ dX2_putBetter_45 ⟨_, _, _, _, rfl, imp_leaf (by omega) hwg (by omega) (fun j hj => by rw [pk_cpy_in (by omega) (by omega)]; simp), hop, (fun _ _ => rfl), (fun _ _ => rfl), htr⟩ hP hD hS
    · exact hret _ _ _ _ _ dX2_putBetter_14 ⟨_, _, _, _, rfl, imp_none (fun P h => by have h1 := wt_low hbn hhm hop h.2 (n - b) (Nat.le_refl _); rw [show n - (n - b) = b by omega, WtF_congr b h.1] at h1; omega), hop, (fun _ _ => rfl), (fun _ _ => rfl), htr⟩ hP hD hS

set_option maxHeartbeats 4000000 in
set_option maxRecDepth 100000 in
theorem k_X2_findsBest (l : Launch) (D : va_G) (cI cZ : ClassId) (sz : Nat) (hQ : Nat) (qb : Nat) (ql : Nat) (qh : Nat) (qf : Nat) (qg : Nat) (qa : Nat) (qo : Nat) (qt : Nat) (n : Nat) (bw : Nat) (best : Nat → Nat) (ln : Nat → Nat) (hm : Nat → Nat) (lg : Nat → Int) (ap : Nat → Nat) (op : Nat → Nat) (tr : Nat → Nat) (al : Nat) (hn : n ≤ 4) (hal : al ≤ 4) (hbw : bw ≤ 1000) (hln : ∀ j, ln j ≤ 10) (hlg : ∀ j, -10 ≤ lg j ∧ lg j ≤ 10) (hap : ∀ j, ap j < 16) (hop : ∀ j, op j < 1073741824) (hhm : ∀ j, hm j < 30) (htr : ∀ j, tr j < 30) : Ci l yX2_findsBest wsX2_findsBest (rmD 9) D vwCl [(cI, .int), (cZ, .boolean)] [.ref hQ, .int (iI (((al : Nat) : Int)))] [(hQ, .inr (2, [.ref qb, .ref ql, .ref qh, .ref qf, .ref qg, .ref qa, .ref qo, .ref qt, .int (iI (((n : Nat) : Int))), .int (iI (((bw : Nat) : Int)))])), ce_i qb cI 4 (nZ (best)), ce_i ql cI 4 (nZ (ln)), ce_i qh cI 4 (nZ (hm)), ce_i qg cI 16 (lg), ce_i qa cI 4 (nZ (ap)), ce_i qo cI 16 (nZ (op)), ce_i qt cI 4 (nZ (tr))] sz (fun z w => ∃ rz : Bool, ∃ bw2 : Nat, ∃ best2 : Nat → Nat, ∃ op2 : Nat → Nat, ∃ tr2 : Nat → Nat, w = [(hQ, .inr (2, [.ref qb, .ref ql, .ref qh, .ref qf, .ref qg, .ref qa, .ref qo, .ref qt, .int (iI (((n : Nat) : Int))), .int (iI (((bw2 : Nat) : Int)))])), ce_i qb cI 4 (nZ (best2)), ce_i ql cI 4 (nZ (ln)), ce_i qh cI 4 (nZ (hm)), ce_i qg cI 16 (lg), ce_i qa cI 4 (nZ (ap)), ce_i qo cI 16 (nZ (op2)), ce_i qt cI 4 (nZ (tr2))] ∧ (z = b2z (rz)) ∧ (∀ j, op2 j < 1073741824) ∧ (∀ j, tr2 j < 30) ∧ (bw2 ≤ 1000) ∧ (rz = true → ∃ P, SolF ln lg ap n 0 (fun j => op (0 * 4 + j)) P ∧ bw2 = WtF hm P n ∧ bw2 < (al + 1) * 64 ∧ (∀ j, j < n → best2 j = P j) ∧ ∀ P', SolF ln lg ap n 0 (fun j => op (0 * 4 + j)) P' → bw2 ≤ WtF hm P' n ∧ (lexlt n P' P → bw2 < WtF hm P' n)) ∧ (rz = false → ∀ P, SolF ln lg ap n 0 (fun j => op (0 * 4 + j)) P → (al + 1) * 64 ≤ WtF hm P n)) 0 0 := by
  refine Cz_of (cc := cX2_findsBest) (nL := 4) (by decide) rfl (Nat.le_of_ble_eq_true rfl) ?_
  intro p e s m below meth c A Q hsz C hK hN hA hP hD hS hret ls hl
  obtain ⟨hx, hb, hml, hown, hts⟩ := id C
  have hown : s.vm.findClass RX2 = some m.cls := hown
  have hl : lv_has ls 4 [(0, .ref hQ), (1, .int (iI (((al : Nat) : Int))))] := hl
  have in_X2 : ∀ w ∈ u_ws RX2 TX2 10, w ∈ wsX2_findsBest := fun w h => List.mem_cons_of_mem _ (inX2 w h)
  have K2 : ∀ (fu : Nat) (ch : Nat) (bw1 : Nat) (best1 : Nat → Nat) (o1 : Nat → Nat) (tr1 : Nat → Nat), al + 1 - ch < fu → (ch ≤ al + 1) → (bw1 ≤ 1000) → (∀ j, o1 j < 1073741824) → (∀ j, j < 4 → o1 j = op j) → (∀ j, tr1 j < 30) → (∀ P, SolF ln lg ap n 0 (fun j => op (0 * 4 + j)) P → ch * 64 ≤ WtF hm P n) → ∀ (H : Heap) (locs : List Loc) (ls : Array Slot), va_P D vwCl [(hQ, .inr (2, [.ref qb, .ref ql, .ref qh, .ref qf, .ref qg, .ref qa, .ref qo, .ref qt, .int (iI (((n : Nat) : Int))), .int (iI (((bw1 : Nat) : Int)))])), ce_i qb cI 4 (nZ (best1)), ce_i ql cI 4 (nZ (ln)), ce_i qh cI 4 (nZ (hm)), ce_i qg cI 16 (lg), ce_i qa cI 4 (nZ (ap)), ce_i qo cI 16 (nZ (o1)), ce_i qt cI 4 (nZ (tr1))] H → va_D A [(hQ, .inr (2, [.ref qb, .ref ql, .ref qh, .ref qf, .ref qg, .ref qa, .ref qo, .ref qt, .int (iI (((n : Nat) : Int))), .int (iI (((bw1 : Nat) : Int)))])), ce_i qb cI 4 (nZ (best1)), ce_i ql cI 4 (nZ (ln)), ce_i qh cI 4 (nZ (hm)), ce_i qg cI 16 (lg), ce_i qa cI 4 (nZ (ap)), ce_i qo cI 16 (nZ (o1)), ce_i qt cI 4 (nZ (tr1))] → va_S A s.heap H locs → lv_has ls 4 [(0, .ref hQ), (1, .int (iI (((al : Nat) : Int)))), (2, .int (iI (((ch : Nat) : Int))))] → W p l e (rmD 9) s m ([.ref hQ, .int (iI (((al : Nat) : Int)))] : List Value).toArray below meth c H locs 0 0 Q (F0 m 2 ls []) := by
    intro fu
    induction fu with
    | zero => intro ch bw1 best1 o1 tr1 hmu; exact absurd hmu (Nat.not_lt_zero _)
    | succ fu ih =>
      intro ch bw1 best1 o1 tr1 hmu hch hbw1 hB hK1 ht1 hno H locs ls hP hD hS hl
      refine lv_iload_n hx hb dX2_findsBest_2 rfl (lv_at hl 2 rfl) ?_
      refine lv_iload_n hx hb dX2_findsBest_3 rfl (lv_at hl 1 rfl) ?_
      refine rz_cgt (tgt := 41) hx hb dX2_findsBest_4 (by decide) (by omega) (by omega) (fun c1 => ?_) (fun c1 => ?_)
      · refine lv_iconst (v := iI (((0 : Nat) : Int))) hx hb dX2_findsBest_41 (by decide +kernel) ?_
        exact hret _ _ _ _ _ _ dX2_findsBest_42 (Or.inl rfl) ⟨false, _, _, _, _, rfl, rfl, hB, ht1, hbw1, (fun h => nomatch h), (fun _ P h => by have := hno P h; rw [show ch = al + 1 by omega] at this; exact this)⟩ hP hD hS
      · refine lv_iload_n hx hb dX2_findsBest_7 rfl (lv_at hl 2 rfl) ?_
        refine lv_iconst (v := iI (((1 : Nat) : Int))) hx hb dX2_findsBest_8 (by decide +kernel) ?_
        refine rn_add hx hb dX2_findsBest_9 ?_
        refine lv_bipush (v := iI (((64 : Nat) : Int))) hx hb dX2_findsBest_10 (by decide +kernel) ?_
        refine rn_mul hx hb dX2_findsBest_12 ?_
        refine lv_istore_n (lv' := [(3, .int (iI ((((ch + 1) * 64 : Nat) : Int)))), (0, .ref hQ), (1, .int (iI (((al : Nat) : Int)))), (2, .int (iI (((ch : Nat) : Int))))]) hx hb dX2_findsBest_13 rfl hl (by decide) rfl (fun ls hl => ?_)
        refine lv_aload_n hx hb dX2_findsBest_14 rfl (lv_at hl 1 rfl) ?_
        refine lv_iload_n hx hb dX2_findsBest_15 rfl (lv_at hl 0 rfl) ?_
        refine va_put (D := D) (ci := 2) (v := .int (iI ((((ch + 1) * 64 : Nat) : Int)))) (ty := .int) (C := RX2) (T := TX2) (N := 10) hx hb hts in_X2 tyX2 tyX2_ok nmX2 hown hK hP hD hS 0 rfl rfl 9 (by decide) (hts _ (List.mem_cons_of_mem _ tf_X2_36)) (fun _ h9 => h9) rfl (by decide +kernel) rfl rfl (Nat.le_of_ble_eq_true rfl) dX2_findsBest_16 (fun H locs hP hD hS => ?_)
        have hP : va_P D vwCl [(hQ, .inr (2, [.ref qb, .ref ql, .ref qh, .ref qf, .ref qg, .ref qa, .ref qo, .ref qt, .int (iI (((n : Nat) : Int))), .int (iI ((((ch + 1) * 64 : Nat) : Int)))])), ce_i qb cI 4 (nZ (best1)), ce_i ql cI 4 (nZ (ln)), ce_i qh cI 4 (nZ (hm)), ce_i qg cI 16 (lg), ce_i qa cI 4 (nZ (ap)), ce_i qo cI 16 (nZ (o1)), ce_i qt cI 4 (nZ (tr1))] H := hP
        have hD : va_D A [(hQ, .inr (2, [.ref qb, .ref ql, .ref qh, .ref qf, .ref qg, .ref qa, .ref qo, .ref qt, .int (iI (((n : Nat) : Int))), .int (iI ((((ch + 1) * 64 : Nat) : Int)))])), ce_i qb cI 4 (nZ (best1)), ce_i ql cI 4 (nZ (ln)), ce_i qh cI 4 (nZ (hm)), ce_i qg cI 16 (lg), ce_i qa cI 4 (nZ (ap)), ce_i qo cI 16 (nZ (o1)), ce_i qt cI 4 (nZ (tr1))] := hD
        refine lv_aload_n hx hb dX2_findsBest_19 rfl (lv_at hl 1 rfl) ?_
        refine lv_iconst (v := iI (((0 : Nat) : Int))) hx hb dX2_findsBest_20 (by decide +kernel) ?_
        refine lv_iconst (v := iI (((0 : Nat) : Int))) hx hb dX2_findsBest_21 (by decide +kernel) ?_
        have hPc := hP.sub (ws' := [(hQ, .inr (2, [.ref qb, .ref ql, .ref qh, .ref qf, .ref qg, .ref qa, .ref qo, .ref qt, .int (iI (((n : Nat) : Int))), .int (iI ((((ch + 1) * 64 : Nat) : Int)))])), ce_i qb cI 4 (nZ (best1)), ce_i ql cI 4 (nZ (ln)), ce_i qh cI 4 (nZ (hm)), ce_i qg cI 16 (lg), ce_i qa cI 4 (nZ (ap)), ce_i qo cI 16 (nZ (o1)), ce_i qt cI 4 (nZ (tr1))]) [0, 1, 2, 3, 4, 5, 6, 7] rfl
        have hDc := hD.sub (ws' := [(hQ, .inr (2, [.ref qb, .ref ql, .ref qh, .ref qf, .ref qg, .ref qa, .ref qo, .ref qt, .int (iI (((n : Nat) : Int))), .int (iI ((((ch + 1) * 64 : Nat) : Int)))])), ce_i qb cI 4 (nZ (best1)), ce_i ql cI 4 (nZ (ln)), ce_i qh cI 4 (nZ (hm)), ce_i qg cI 16 (lg), ce_i qa cI 4 (nZ (ap)), ce_i qo cI 16 (nZ (o1)), ce_i qt cI 4 (nZ (tr1))]) [0, 1, 2, 3, 4, 5, 6, 7] (by decide) rfl
        refine rz_callv (va_runV (As := [.int (iI (((0 : Nat) : Int))), .int (iI (((0 : Nat) : Int)))]) (rest := []) ⟨hx, hb, hml, hown, hts⟩ (k_X2_putBetter l D cI cZ 4 H.size hQ qb ql qh qf qg qa qo qt n ((ch + 1) * 64) best1 ln hm lg ap o1 tr1 0 0 (by omega) (by omega) (by omega) rfl (by omega) hln hlg hap hB hhm ht1) (cwV 2 hts (gG (g_V tm_X2_132 ti_X2_putBetter tse_X2_putBetter tin_X2 cmX2_putBetter)) rfl rfl rfl (by decide +kernel) ⟨Nat.le_of_ble_eq_true rfl, Nat.le_of_ble_eq_true rfl⟩) ⟨cP_blind, va_recv hK hPc (ci := 2) (q0 := 0) rfl rfl, cP_pre hPc hK hN hDc⟩ rfl rfl hl.1 rfl (lv_room (Nat.le_of_ble_eq_true rfl)) dX2_findsBest_22 ⟨Nat.le_refl _, Nat.le_refl _⟩) hP hD hS hA [0, 1, 2, 3, 4, 5, 6, 7] [] rfl (wr := []) rfl (by decide) (by decide) (fun w H locs hp hP hD hS => ?_)
        obtain ⟨bw2, best2, o2, tr2, rfl, g1, g2, g3, g4, g5⟩ := hp
        have hP : va_P D vwCl [(hQ, .inr (2, [.ref qb, .ref ql, .ref qh, .ref qf, .ref qg, .ref qa, .ref qo, .ref qt, .int (iI (((n : Nat) : Int))), .int (iI (((bw2 : Nat) : Int)))])), ce_i qb cI 4 (nZ (best2)), ce_i ql cI 4 (nZ (ln)), ce_i qh cI 4 (nZ (hm)), ce_i qg cI 16 (lg), ce_i qa cI 4 (nZ (ap)), ce_i qo cI 16 (nZ (o2)), ce_i qt cI 4 (nZ (tr2))] H := hP.sub (ws' := [(hQ, .inr (2, [.ref qb, .ref ql, .ref qh, .ref qf, .ref qg, .ref qa, .ref qo, .ref qt, .int (iI (((n : Nat) : Int))), .int (iI (((bw2 : Nat) : Int)))])), ce_i qb cI 4 (nZ (best2)), ce_i ql cI 4 (nZ (ln)), ce_i qh cI 4 (nZ (hm)), ce_i qg cI 16 (lg), ce_i qa cI 4 (nZ (ap)), ce_i qo cI 16 (nZ (o2)), ce_i qt cI 4 (nZ (tr2))]) [0, 1, 2, 3, 4, 5, 6, 7] rfl
        have hD : va_D A [(hQ, .inr (2, [.ref qb, .ref ql, .ref qh, .ref qf, .ref qg, .ref qa, .ref qo, .ref qt, .int (iI (((n : Nat) : Int))), .int (iI (((bw2 : Nat) : Int)))])), ce_i qb cI 4 (nZ (best2)), ce_i ql cI 4 (nZ (ln)), ce_i qh cI 4 (nZ (hm)), ce_i qg cI 16 (lg), ce_i qa cI 4 (nZ (ap)), ce_i qo cI 16 (nZ (o2)), ce_i qt cI 4 (nZ (tr2))] := hD.sub (ws' := [(hQ, .inr (2, [.ref qb, .ref ql, .ref qh, .ref qf, .ref qg, .ref qa, .ref qo, .ref qt, .int (iI (((n : Nat) : Int))), .int (iI (((bw2 : Nat) : Int)))])), ce_i qb cI 4 (nZ (best2)), ce_i ql cI 4 (nZ (ln)), ce_i qh cI 4 (nZ (hm)), ce_i qg cI 16 (lg), ce_i qa cI 4 (nZ (ap)), ce_i qo cI 16 (nZ (o2)), ce_i qt cI 4 (nZ (tr2))]) [0, 1, 2, 3, 4, 5, 6, 7] (by decide) rfl
        refine lv_aload_n hx hb dX2_findsBest_25 rfl (lv_at hl 1 rfl) ?_
        refine va_get (D := D) (ci := 2) (v := .int (iI (((bw2 : Nat) : Int)))) (C := RX2) (T := TX2) (N := 10) hx hb hts in_X2 hown hK hP 0 rfl rfl 9 (by decide) (hts _ (List.mem_cons_of_mem _ tf_X2_36)) (fun _ h9 => h9) rfl dX2_findsBest_26 ?_
        refine lv_iload_n hx hb dX2_findsBest_29 rfl (lv_at hl 0 rfl) ?_
        refine rz_cge (tgt := 35) hx hb dX2_findsBest_30 (by decide) (by have := imp_le g1; omega) (by omega) (fun c3 => ?_) (fun c3 => ?_)
        · have gI : Imp hm n (fun P => SolF ln lg ap n 0 (fun j => op (0 * 4 + j)) P) ((ch + 1) * 64) best1 bw2 best2 := imp_congr g1 (fun P => ⟨fun h => ⟨fun j hj => absurd hj (Nat.not_lt_zero _), ⟨fun j h1 h2 => by (have h3 := h.1 j h1 h2; simp only [hK1 (0 * 4 + j) (by omega)]; exact h3), h.2⟩⟩, fun h => ⟨fun j h1 h2 => by (have h3 := h.2.1 j h1 h2; simp only [hK1 (0 * 4 + j) (by omega)] at h3; exact h3), h.2.2⟩⟩)
          have g8 := c3
          refine lv_iinc (v := iI (((ch + 1 : Nat) : Int))) (lv' := [(2, .int (iI (((ch + 1 : Nat) : Int)))), (3, .int (iI ((((ch + 1) * 64 : Nat) : Int)))), (0, .ref hQ), (1, .int (iI (((al : Nat) : Int))))]) hx hb dX2_findsBest_35 hl (k := 3) rfl (iI_inc _) (by decide) rfl (fun ls hl => ?_)
          refine lv_goto (tgt := 2) hx hb dX2_findsBest_38 (by decide) ?_
          exact ih (ch + 1) (bw2) (best2) (o2) (tr2) (by omega) (by omega) (by have := imp_le g1; omega) g2 (fun j h => by rw [g3 j (by omega), hK1 j h]) g5 (fun P h => by rcases gI with ⟨e1, e2, e3⟩ | ⟨P2, e1, e2, e3, e4⟩; exact e3 P h; omega) _ _ _ hP hD hS (lv_sub hl [2, 3, 0] rfl)
        · have gI : Imp hm n (fun P => SolF ln lg ap n 0 (fun j => op (0 * 4 + j)) P) ((ch + 1) * 64) best1 bw2 best2 := imp_congr g1 (fun P => ⟨fun h => ⟨fun j hj => absurd hj (Nat.not_lt_zero _), ⟨fun j h1 h2 => by (have h3 := h.1 j h1 h2; simp only [hK1 (0 * 4 + j) (by omega)]; exact h3), h.2⟩⟩, fun h => ⟨fun j h1 h2 => by (have h3 := h.2.1 j h1 h2; simp only [hK1 (0 * 4 + j) (by omega)] at h3; exact h3), h.2.2⟩⟩)
          have g8 := c3
          refine lv_iconst (v := iI (((1 : Nat) : Int))) hx hb dX2_findsBest_33 (by decide +kernel) ?_
          exact hret _ _ _ _ _ _ dX2_findsBest_34 (Or.inr rfl) ⟨true, _, _, _, _, rfl, rfl, g2, g5, (by have := imp_le g1; omega), (fun _ => by rcases gI with ⟨e1, e2, e3⟩ | ⟨P2, e1, e2, e3, e4, e5⟩; omega; exact ⟨P2, e1, e2, by omega, e4, e5⟩), (fun h => nomatch h)⟩ hP hD hS
  refine lv_iconst (v := iI (((0 : Nat) : Int))) hx hb dX2_findsBest_0 (by decide +kernel) ?_
  refine lv_istore_n (lv' := [(2, .int (iI (((0 : Nat) : Int)))), (0, .ref hQ), (1, .int (iI (((al : Nat) : Int))))]) hx hb dX2_findsBest_1 rfl hl (by decide) rfl (fun ls hl => ?_)
  exact K2 (al + 1 - (0) + 1) (0) (bw) (best) (op) (tr) (Nat.lt_succ_self _) (by omega) (by omega) hop (fun _ _ => rfl) htr (fun P h => by simp) _ _ _ hP hD hS (lv_sub hl [1, 2, 0] rfl)
