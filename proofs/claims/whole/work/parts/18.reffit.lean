/-! the reference: does a batch fit; the plan judged -/
def KpP (ln gt gs : Nat → Nat) (kd a b d : Int) (j : Nat) : Prop :=
  (kd = 2 → a = ((j : Nat) : Int) → ((gs a.toNat : Nat) : Int) + ((ln a.toNat : Nat) : Int) ≤ d) ∧ (kd = 3 → a = ((j : Nat) : Int) → d ≤ ((gs a.toNat : Nat) : Int)) ∧
  (kd = 0 → a ≤ ((j : Nat) : Int) → b ≤ ((j : Nat) : Int) → (a = ((j : Nat) : Int) ∨ b = ((j : Nat) : Int)) → ((gs b.toNat : Nat) : Int) + ((ln b.toNat : Nat) : Int) + d ≤ ((gs a.toNat : Nat) : Int)) ∧
  (kd = 1 → a ≤ ((j : Nat) : Int) → b ≤ ((j : Nat) : Int) → (a = ((j : Nat) : Int) ∨ b = ((j : Nat) : Int)) → ((gt a.toNat : Nat) : Int) ≠ ((gt b.toNat : Nat) : Int))
def FitU (dd : Nat) (ln tk sd ea : Nat → Nat) (fz : Nat → Bool) (gt gs : Nat → Nat) (b : Nat) : Prop := gs b + ln b ≤ dd ∧ ea b ≤ gs b ∧ (fz b = true → gt b = tk b ∧ gs b = sd b)
def FitO (ln : Nat → Nat) (ot of_ oo : Nat → Int) (gt gs : Nat → Nat) (b o : Nat) : Prop := ot o ≠ ((gt b : Nat) : Int) ∨ ((gs b + ln b : Nat) : Int) ≤ of_ o ∨ oo o ≤ ((gs b : Nat) : Int)
def FitC (ln gt gs : Nat → Nat) (b c : Nat) : Prop := gt c ≠ gt b ∨ gs b + ln b ≤ gs c ∨ gs c + ln c ≤ gs b
def FitR (ln : Nat → Nat) (rk ra rb rd : Nat → Int) (wo : Int) (gt gs : Nat → Nat) (b r : Nat) : Prop := ((r : Nat) : Int) = wo ∨ KpP ln gt gs (rk r) (ra r) (rb r) (rd r) b
def FitP (dd : Nat) (ln tk sd ea : Nat → Nat) (fz : Nat → Bool) (ot of_ oo : Nat → Int) (no : Nat) (rk ra rb rd : Nat → Int) (nr : Nat) (wo : Int) (gt gs : Nat → Nat) (b : Nat) : Prop :=
  ((FitU dd ln tk sd ea fz gt gs b ∧ ∀ o, o < no → FitO ln ot of_ oo gt gs b o) ∧ ∀ c, c < b → FitC ln gt gs b c) ∧ ∀ r, r < nr → FitR ln rk ra rb rd wo gt gs b r
section BL
variable {B : Prop} {C : Nat → Prop} {k N : Nat} {fb : Bool}
theorem bl_t (h : fb = true ↔ (B ∧ ∀ i, i < k → C i)) (hf : fb = true) (hc : C k) : (true = true ↔ (B ∧ ∀ i, i < k + 1 → C i)) :=
  ⟨fun _ => ⟨(h.mp hf).1, fun i hi => by by_cases e : i = k; (subst e; exact hc); exact (h.mp hf).2 i (by omega)⟩, fun _ => rfl⟩
theorem bl_f (hc : ¬ C k) : (false = true ↔ (B ∧ ∀ i, i < k + 1 → C i)) := ⟨(fun h => nomatch h), fun h => absurd (h.2 k (by omega)) hc⟩
theorem bl_end (h : fb = true ↔ (B ∧ ∀ i, i < k → C i)) (hk : k ≤ N) (he : k = N ∨ fb = false) : (fb = true ↔ (B ∧ ∀ i, i < N → C i)) := by
  rcases he with e | e
  · subst e; exact h
  · constructor
    · intro q; rw [e] at q; cases q
    · intro q; exact h.mpr ⟨q.1, fun i hi => q.2 i (by omega)⟩
theorem bl_0 (h : fb = true ↔ B) : (fb = true ↔ (B ∧ ∀ i, i < 0 → C i)) := h.trans ⟨fun q => ⟨q, fun i hi => absurd hi (Nat.not_lt_zero _)⟩, fun q => q.1⟩
end BL
/-- how many are changed, what that costs: of the first k -/
def chF (tk sd gt gs : Nat → Nat) : Nat → Nat
  | 0 => 0
  | k + 1 => chF tk sd gt gs k + (if gt k = tk k ∧ gs k = sd k then 0 else 1)
def coF (tk sd gt gs : Nat → Nat) : Nat → Nat
  | 0 => 0
  | k + 1 => coF tk sd gt gs k + ((if gt k = tk k then 0 else 3) + (gs k - sd k + (sd k - gs k)))
theorem chF_le {tk sd gt gs : Nat → Nat} : ∀ k, chF tk sd gt gs k ≤ k
  | 0 => Nat.le_refl _
  | k + 1 => by rw [chF]; have := chF_le (tk := tk) (sd := sd) (gt := gt) (gs := gs) k; split <;> omega
theorem coF_le {tk sd gt gs : Nat → Nat} (h1 : ∀ j, gs j < 10) (h2 : ∀ j, sd j < 10) : ∀ k, coF tk sd gt gs k ≤ 12 * k
  | 0 => Nat.le_refl _
  | k + 1 => by rw [coF]; have := coF_le (tk := tk) (gt := gt) h1 h2 k; have := h1 k; have := h2 k; split <;> omega
abbrev plF (tk sd : Nat → Nat) : Nat → Nat := fun j => tk j * 10 + sd j
theorem wt_ref {tk sd gt gs : Nat → Nat} (h1 : ∀ j, gs j < 10) (h2 : ∀ j, sd j < 10) : ∀ k, WtF (plF tk sd) (plF gt gs) k = 64 * chF tk sd gt gs k + coF tk sd gt gs k
  | 0 => rfl
  | k + 1 => by
    have ih := wt_ref (tk := tk) (gt := gt) h1 h2 k
    have a1 := h1 k
    have a2 := h2 k
    rw [WtF, chF, coF, ih, wAt]
    show _ + (if gt k * 10 + gs k = tk k * 10 + sd k then 0 else 64 + ((gt k * 10 + gs k) % 10 - (tk k * 10 + sd k) % 10 + ((tk k * 10 + sd k) % 10 - (gt k * 10 + gs k) % 10)) + (if (gt k * 10 + gs k) / 10 = (tk k * 10 + sd k) / 10 then 0 else 3)) = _
    by_cases e : gt k = tk k ∧ gs k = sd k
    · rw [if_pos (by omega), if_pos e, if_pos e.1]; omega
    · rw [if_neg (by omega), if_neg e]
      by_cases e2 : gt k = tk k
      · rw [if_pos (by omega), if_pos e2]; omega
      · rw [if_neg (by omega), if_neg e2]; omega
def thW (th : Bool) (bc bk : Nat) : Nat := if th = true then 64 * bc + bk else 1000

set_option maxHeartbeats 4000000 in
set_option maxRecDepth 100000 in
theorem k_X5_keeps (l : Launch) (D : va_G) (cI cZ : ClassId) (sz : Nat) (hM : Nat) (T : Nat) (dd : Nat) (yL : Nat) (yT : Nat) (yS : Nat) (yE : Nat) (yF : Nat) (n : Nat) (yK : Nat) (yA : Nat) (yB : Nat) (yD : Nat) (nr : Nat) (yO : Nat) (yP : Nat) (yQ : Nat) (no : Nat) (yU : Nat) (yV : Nat) (un : Nat) (yC : Nat) (yW : Nat) (cp : Nat) (yG : Nat) (yH : Nat) (yI : Nat) (yJ : Nat) (bc : Nat) (bk : Nat) (th : Bool) (wo : Int) (yN : Nat) (bd : Nat) (co : Int64) (ln : Nat → Nat) (gt : Nat → Nat) (gs : Nat → Nat) (rk : Nat → Int) (ra : Nat → Int) (rb : Nat → Int) (rd : Nat → Int) (r : Nat) (b : Nat) (hn : n ≤ 4) (hnr : nr ≤ 8) (hr9 : r < nr) (hb9 : b < n) (hln : ∀ j, ln j ≤ 10) (hgt10 : ∀ j, gt j < 10) (hgs10 : ∀ j, gs j < 10) (hv : RulesOK rk ra rb rd nr n) (hrr : ∀ j, (-2147483648 ≤ rb j ∧ rb j < 2147483648) ∧ (-2147483648 ≤ rd j ∧ rd j < 2147483648)) : Ci l yX5_keeps wsX5_keeps (rmD 0) D vwCl [(cI, .int), (cZ, .boolean)] [.ref hM, .int (iI (((r : Nat) : Int))), .int (iI (((b : Nat) : Int)))] [(hM, .inr (5, [.int (iI (((T : Nat) : Int))), .int (iI (((dd : Nat) : Int))), .ref yL, .ref yT, .ref yS, .ref yE, .ref yF, .int (iI (((n : Nat) : Int))), .ref yK, .ref yA, .ref yB, .ref yD, .int (iI (((nr : Nat) : Int))), .ref yO, .ref yP, .ref yQ, .int (iI (((no : Nat) : Int))), .ref yU, .ref yV, .int (iI (((un : Nat) : Int))), .ref yC, .ref yW, .int (iI (((cp : Nat) : Int))), .ref yG, .ref yH, .ref yI, .ref yJ, .int (iI (((bc : Nat) : Int))), .int (iI (((bk : Nat) : Int))), .int (iI (b2z (th))), .int (iI (wo)), .ref yN, .int (iI (((bd : Nat) : Int))), .long (co)])), ce_i yL cI 4 (nZ (ln)), ce_i yG cI 4 (nZ (gt)), ce_i yH cI 4 (nZ (gs)), ce_i yK cI 8 (rk), ce_i yA cI 8 (ra), ce_i yB cI 8 (rb), ce_i yD cI 8 (rd)] sz (fun z w => ∃ rz : Bool, w = [(hM, .inr (5, [.int (iI (((T : Nat) : Int))), .int (iI (((dd : Nat) : Int))), .ref yL, .ref yT, .ref yS, .ref yE, .ref yF, .int (iI (((n : Nat) : Int))), .ref yK, .ref yA, .ref yB, .ref yD, .int (iI (((nr : Nat) : Int))), .ref yO, .ref yP, .ref yQ, .int (iI (((no : Nat) : Int))), .ref yU, .ref yV, .int (iI (((un : Nat) : Int))), .ref yC, .ref yW, .int (iI (((cp : Nat) : Int))), .ref yG, .ref yH, .ref yI, .ref yJ, .int (iI (((bc : Nat) : Int))), .int (iI (((bk : Nat) : Int))), .int (iI (b2z (th))), .int (iI (wo)), .ref yN, .int (iI (((bd : Nat) : Int))), .long (co)])), ce_i yL cI 4 (nZ (ln)), ce_i yG cI 4 (nZ (gt)), ce_i yH cI 4 (nZ (gs)), ce_i yK cI 8 (rk), ce_i yA cI 8 (ra), ce_i yB cI 8 (rb), ce_i yD cI 8 (rd)] ∧ (z = b2z (rz)) ∧ (rz = true ↔ KpP ln gt gs (rk r) (ra r) (rb r) (rd r) b)) 0 0 := by
  refine Cz_of (cc := cX5_keeps) (nL := 5) (by decide) rfl (Nat.le_of_ble_eq_true rfl) ?_
  intro p e s m below meth c A Q hsz C hK hN hA hP hD hS hret ls hl
  obtain ⟨hx, hb, hml, hown, hts⟩ := id C
  have hown : s.vm.findClass RX5 = some m.cls := hown
  have hl : lv_has ls 5 [(0, .ref hM), (1, .int (iI (((r : Nat) : Int)))), (2, .int (iI (((b : Nat) : Int))))] := hl
  have in_X5 : ∀ w ∈ u_ws RX5 TX5 34, w ∈ wsX5_keeps := fun w h => List.mem_cons_of_mem _ (inX5 w h)
  obtain ⟨v1, v2, v3, v4⟩ := hv r hr9
  have w1 := hrr r
  have g1 := hgs10 (ra r).toNat
  have g2 := hgs10 (rb r).toNat
  have g3 := hgt10 (ra r).toNat
  have g4 := hgt10 (rb r).toNat
  have l1 := hln (ra r).toNat
  have l2 := hln (rb r).toNat
  refine lv_aload_n hx hb dX5_keeps_0 rfl (lv_at hl 0 rfl) ?_
  refine va_get (D := D) (ci := 5) (v := .ref yA) (C := RX5) (T := TX5) (N := 34) hx hb hts in_X5 hown hK hP 0 rfl rfl 9 (by decide) (hts _ (List.mem_cons_of_mem _ tf_X5_29)) (fun _ h9 => h9) rfl dX5_keeps_1 ?_
  refine lv_iload_n hx hb dX5_keeps_4 rfl (lv_at hl 1 rfl) ?_
  refine rn_ald hx hb hK hP 5 0 rfl rfl (by omega) (by omega) dX5_keeps_5 ?_
  refine lv_istore_n (lv' := [(3, .int (iI (ra r))), (0, .ref hM), (1, .int (iI (((r : Nat) : Int)))), (2, .int (iI (((b : Nat) : Int))))]) hx hb dX5_keeps_6 rfl hl (by decide) rfl (fun ls hl => ?_)
  refine lv_aload_n hx hb dX5_keeps_7 rfl (lv_at hl 1 rfl) ?_
  refine va_get (D := D) (ci := 5) (v := .ref yB) (C := RX5) (T := TX5) (N := 34) hx hb hts in_X5 hown hK hP 0 rfl rfl 10 (by decide) (hts _ (List.mem_cons_of_mem _ tf_X5_32)) (fun _ h9 => h9) rfl dX5_keeps_8 ?_
  refine lv_iload_n hx hb dX5_keeps_11 rfl (lv_at hl 2 rfl) ?_
  refine rn_ald hx hb hK hP 6 0 rfl rfl (by omega) (by omega) dX5_keeps_12 ?_
  refine lv_istore (lv' := [(4, .int (iI (rb r))), (3, .int (iI (ra r))), (0, .ref hM), (1, .int (iI (((r : Nat) : Int)))), (2, .int (iI (((b : Nat) : Int))))]) hx hb dX5_keeps_13 hl (by decide) rfl (fun ls hl => ?_)
  refine lv_aload_n hx hb dX5_keeps_15 rfl (lv_at hl 2 rfl) ?_
  refine va_get (D := D) (ci := 5) (v := .ref yK) (C := RX5) (T := TX5) (N := 34) hx hb hts in_X5 hown hK hP 0 rfl rfl 8 (by decide) (hts _ (List.mem_cons_of_mem _ tf_X5_26)) (fun _ h9 => h9) rfl dX5_keeps_16 ?_
  refine lv_iload_n hx hb dX5_keeps_19 rfl (lv_at hl 3 rfl) ?_
  refine rn_ald hx hb hK hP 4 0 rfl rfl (by omega) (by omega) dX5_keeps_20 ?_
  refine lv_iconst (v := iI (((2 : Nat) : Int))) hx hb dX5_keeps_21 (by decide +kernel) ?_
  refine rz_cne (tgt := 58) hx hb dX5_keeps_22 (by decide) (by omega) (by omega) (fun c1 => ?_) (fun c1 => ?_)
  · refine lv_aload_n hx hb dX5_keeps_58 rfl (lv_at hl 2 rfl) ?_
    refine va_get (D := D) (ci := 5) (v := .ref yK) (C := RX5) (T := TX5) (N := 34) hx hb hts in_X5 hown hK hP 0 rfl rfl 8 (by decide) (hts _ (List.mem_cons_of_mem _ tf_X5_26)) (fun _ h9 => h9) rfl dX5_keeps_59 ?_
    refine lv_iload_n hx hb dX5_keeps_62 rfl (lv_at hl 3 rfl) ?_
    refine rn_ald hx hb hK hP 4 0 rfl rfl (by omega) (by omega) dX5_keeps_63 ?_
    refine lv_iconst (v := iI (((3 : Nat) : Int))) hx hb dX5_keeps_64 (by decide +kernel) ?_
    refine rz_cne (tgt := 94) hx hb dX5_keeps_65 (by decide) (by omega) (by omega) (fun c2 => ?_) (fun c2 => ?_)
    · refine lv_iload_n hx hb dX5_keeps_94 rfl (lv_at hl 1 rfl) ?_
      refine lv_iload_n hx hb dX5_keeps_95 rfl (lv_at hl 4 rfl) ?_
      refine rz_cgt (tgt := 116) hx hb dX5_keeps_96 (by decide) (by omega) (by omega) (fun c3 => ?_) (fun c3 => ?_)
      · refine lv_iconst (v := iI (((1 : Nat) : Int))) hx hb dX5_keeps_116 (by decide +kernel) ?_
        exact hret _ _ _ _ _ _ dX5_keeps_117 (Or.inr rfl) (by first | exact ⟨true, rfl, rfl, ⟨fun _ => by unfold KpP; omega, fun _ => rfl⟩⟩ | exact ⟨false, rfl, rfl, ⟨(fun h => nomatch h), fun h => by unfold KpP at h; omega⟩⟩) hP hD hS
      · refine lv_iload hx hb dX5_keeps_99 (lv_at hl 0 rfl) ?_
        refine lv_iload_n hx hb dX5_keeps_101 rfl (lv_at hl 4 rfl) ?_
        refine rz_cgt (tgt := 116) hx hb dX5_keeps_102 (by decide) (by omega) (by omega) (fun c4 => ?_) (fun c4 => ?_)
        · refine lv_iconst (v := iI (((1 : Nat) : Int))) hx hb dX5_keeps_116 (by decide +kernel) ?_
          exact hret _ _ _ _ _ _ dX5_keeps_117 (Or.inr rfl) (by first | exact ⟨true, rfl, rfl, ⟨fun _ => by unfold KpP; omega, fun _ => rfl⟩⟩ | exact ⟨false, rfl, rfl, ⟨(fun h => nomatch h), fun h => by unfold KpP at h; omega⟩⟩) hP hD hS
        · refine lv_iload_n hx hb dX5_keeps_105 rfl (lv_at hl 1 rfl) ?_
          refine lv_iload_n hx hb dX5_keeps_106 rfl (lv_at hl 4 rfl) ?_
          refine rz_ceq (tgt := 118) hx hb dX5_keeps_107 (by decide) (by omega) (by omega) (fun c5 => ?_) (fun c5 => ?_)
          · refine lv_aload_n hx hb dX5_keeps_118 rfl (lv_at hl 2 rfl) ?_
            refine va_get (D := D) (ci := 5) (v := .ref yK) (C := RX5) (T := TX5) (N := 34) hx hb hts in_X5 hown hK hP 0 rfl rfl 8 (by decide) (hts _ (List.mem_cons_of_mem _ tf_X5_26)) (fun _ h9 => h9) rfl dX5_keeps_119 ?_
            refine lv_iload_n hx hb dX5_keeps_122 rfl (lv_at hl 3 rfl) ?_
            refine rn_ald hx hb hK hP 4 0 rfl rfl (by omega) (by omega) dX5_keeps_123 ?_
            refine lv_iconst (v := iI (((1 : Nat) : Int))) hx hb dX5_keeps_124 (by decide +kernel) ?_
            refine rz_cne (tgt := 152) hx hb dX5_keeps_125 (by decide) (by omega) (by omega) (fun c6 => ?_) (fun c6 => ?_)
            · refine lv_aload_n hx hb dX5_keeps_152 rfl (lv_at hl 2 rfl) ?_
              refine va_get (D := D) (ci := 5) (v := .ref yH) (C := RX5) (T := TX5) (N := 34) hx hb hts in_X5 hown hK hP 0 rfl rfl 24 (by decide) (hts _ (List.mem_cons_of_mem _ tf_X5_62)) (fun _ h9 => h9) rfl dX5_keeps_153 ?_
              refine lv_iload_n hx hb dX5_keeps_156 rfl (lv_at hl 1 rfl) ?_
              refine rz_as (y := (((ra r).toNat : Nat) : Int)) (by omega) ?_
              refine rn_aldM hx hb hK hP 3 0 rfl rfl (by omega) (by omega) dX5_keeps_157 ?_
              refine lv_aload_n hx hb dX5_keeps_158 rfl (lv_at hl 2 rfl) ?_
              refine va_get (D := D) (ci := 5) (v := .ref yH) (C := RX5) (T := TX5) (N := 34) hx hb hts in_X5 hown hK hP 0 rfl rfl 24 (by decide) (hts _ (List.mem_cons_of_mem _ tf_X5_62)) (fun _ h9 => h9) rfl dX5_keeps_159 ?_
              refine lv_iload hx hb dX5_keeps_162 (lv_at hl 0 rfl) ?_
              refine rz_as (y := (((rb r).toNat : Nat) : Int)) (by omega) ?_
              refine rn_aldM hx hb hK hP 3 0 rfl rfl (by omega) (by omega) dX5_keeps_164 ?_
              refine lv_aload_n hx hb dX5_keeps_165 rfl (lv_at hl 2 rfl) ?_
              refine va_get (D := D) (ci := 5) (v := .ref yL) (C := RX5) (T := TX5) (N := 34) hx hb hts in_X5 hown hK hP 0 rfl rfl 2 (by decide) (hts _ (List.mem_cons_of_mem _ tf_X5_7)) (fun _ h9 => h9) rfl dX5_keeps_166 ?_
              refine lv_iload hx hb dX5_keeps_169 (lv_at hl 0 rfl) ?_
              refine rz_as (y := (((rb r).toNat : Nat) : Int)) (by omega) ?_
              refine rn_aldM hx hb hK hP 1 0 rfl rfl (by omega) (by omega) dX5_keeps_171 ?_
              refine rn_add hx hb dX5_keeps_172 ?_
              refine lv_aload_n hx hb dX5_keeps_173 rfl (lv_at hl 2 rfl) ?_
              refine va_get (D := D) (ci := 5) (v := .ref yD) (C := RX5) (T := TX5) (N := 34) hx hb hts in_X5 hown hK hP 0 rfl rfl 11 (by decide) (hts _ (List.mem_cons_of_mem _ tf_X5_35)) (fun _ h9 => h9) rfl dX5_keeps_174 ?_
              refine lv_iload_n hx hb dX5_keeps_177 rfl (lv_at hl 3 rfl) ?_
              refine rn_ald hx hb hK hP 7 0 rfl rfl (by omega) (by omega) dX5_keeps_178 ?_
              refine rz_add hx hb dX5_keeps_179 ?_
              refine rz_clt (tgt := 187) hx hb dX5_keeps_180 (by decide) (by omega) (by omega) (fun c7 => ?_) (fun c7 => ?_)
              · refine lv_iconst (v := iI (((0 : Nat) : Int))) hx hb dX5_keeps_187 (by decide +kernel) ?_
                exact hret _ _ _ _ _ _ dX5_keeps_188 (Or.inl rfl) (by first | exact ⟨true, rfl, rfl, ⟨fun _ => by unfold KpP; omega, fun _ => rfl⟩⟩ | exact ⟨false, rfl, rfl, ⟨(fun h => nomatch h), fun h => by unfold KpP at h; omega⟩⟩) hP hD hS
              · refine lv_iconst (v := iI (((1 : Nat) : Int))) hx hb dX5_keeps_183 (by decide +kernel) ?_
                refine lv_goto (tgt := 188) hx hb dX5_keeps_184 (by decide) ?_
                exact hret _ _ _ _ _ _ dX5_keeps_188 (Or.inr rfl) (by first | exact ⟨true, rfl, rfl, ⟨fun _ => by unfold KpP; omega, fun _ => rfl⟩⟩ | exact ⟨false, rfl, rfl, ⟨(fun h => nomatch h), fun h => by unfold KpP at h; omega⟩⟩) hP hD hS
            · refine lv_aload_n hx hb dX5_keeps_128 rfl (lv_at hl 2 rfl) ?_
              refine va_get (D := D) (ci := 5) (v := .ref yG) (C := RX5) (T := TX5) (N := 34) hx hb hts in_X5 hown hK hP 0 rfl rfl 23 (by decide) (hts _ (List.mem_cons_of_mem _ tf_X5_59)) (fun _ h9 => h9) rfl dX5_keeps_129 ?_
              refine lv_iload_n hx hb dX5_keeps_132 rfl (lv_at hl 1 rfl) ?_
              refine rz_as (y := (((ra r).toNat : Nat) : Int)) (by omega) ?_
              refine rn_aldM hx hb hK hP 2 0 rfl rfl (by omega) (by omega) dX5_keeps_133 ?_
              refine lv_aload_n hx hb dX5_keeps_134 rfl (lv_at hl 2 rfl) ?_
              refine va_get (D := D) (ci := 5) (v := .ref yG) (C := RX5) (T := TX5) (N := 34) hx hb hts in_X5 hown hK hP 0 rfl rfl 23 (by decide) (hts _ (List.mem_cons_of_mem _ tf_X5_59)) (fun _ h9 => h9) rfl dX5_keeps_135 ?_
              refine lv_iload hx hb dX5_keeps_138 (lv_at hl 0 rfl) ?_
              refine rz_as (y := (((rb r).toNat : Nat) : Int)) (by omega) ?_
              refine rn_aldM hx hb hK hP 2 0 rfl rfl (by omega) (by omega) dX5_keeps_140 ?_
              refine rz_ceq (tgt := 148) hx hb dX5_keeps_141 (by decide) (by omega) (by omega) (fun c8 => ?_) (fun c8 => ?_)
              · refine lv_iconst (v := iI (((0 : Nat) : Int))) hx hb dX5_keeps_148 (by decide +kernel) ?_
                refine lv_goto (tgt := 188) hx hb dX5_keeps_149 (by decide) ?_
                exact hret _ _ _ _ _ _ dX5_keeps_188 (Or.inl rfl) (by first | exact ⟨true, rfl, rfl, ⟨fun _ => by unfold KpP; omega, fun _ => rfl⟩⟩ | exact ⟨false, rfl, rfl, ⟨(fun h => nomatch h), fun h => by unfold KpP at h; omega⟩⟩) hP hD hS
              · refine lv_iconst (v := iI (((1 : Nat) : Int))) hx hb dX5_keeps_144 (by decide +kernel) ?_
                refine lv_goto (tgt := 188) hx hb dX5_keeps_145 (by decide) ?_
                exact hret _ _ _ _ _ _ dX5_keeps_188 (Or.inr rfl) (by first | exact ⟨true, rfl, rfl, ⟨fun _ => by unfold KpP; omega, fun _ => rfl⟩⟩ | exact ⟨false, rfl, rfl, ⟨(fun h => nomatch h), fun h => by unfold KpP at h; omega⟩⟩) hP hD hS
          · refine lv_iload hx hb dX5_keeps_110 (lv_at hl 0 rfl) ?_
            refine lv_iload_n hx hb dX5_keeps_112 rfl (lv_at hl 4 rfl) ?_
            refine rz_ceq (tgt := 118) hx hb dX5_keeps_113 (by decide) (by omega) (by omega) (fun c9 => ?_) (fun c9 => ?_)
            · refine lv_aload_n hx hb dX5_keeps_118 rfl (lv_at hl 2 rfl) ?_
              refine va_get (D := D) (ci := 5) (v := .ref yK) (C := RX5) (T := TX5) (N := 34) hx hb hts in_X5 hown hK hP 0 rfl rfl 8 (by decide) (hts _ (List.mem_cons_of_mem _ tf_X5_26)) (fun _ h9 => h9) rfl dX5_keeps_119 ?_
              refine lv_iload_n hx hb dX5_keeps_122 rfl (lv_at hl 3 rfl) ?_
              refine rn_ald hx hb hK hP 4 0 rfl rfl (by omega) (by omega) dX5_keeps_123 ?_
              refine lv_iconst (v := iI (((1 : Nat) : Int))) hx hb dX5_keeps_124 (by decide +kernel) ?_
              refine rz_cne (tgt := 152) hx hb dX5_keeps_125 (by decide) (by omega) (by omega) (fun c10 => ?_) (fun c10 => ?_)
              · refine lv_aload_n hx hb dX5_keeps_152 rfl (lv_at hl 2 rfl) ?_
                refine va_get (D := D) (ci := 5) (v := .ref yH) (C := RX5) (T := TX5) (N := 34) hx hb hts in_X5 hown hK hP 0 rfl rfl 24 (by decide) (hts _ (List.mem_cons_of_mem _ tf_X5_62)) (fun _ h9 => h9) rfl dX5_keeps_153 ?_
                refine lv_iload_n hx hb dX5_keeps_156 rfl (lv_at hl 1 rfl) ?_
                refine rz_as (y := (((ra r).toNat : Nat) : Int)) (by omega) ?_
                refine rn_aldM hx hb hK hP 3 0 rfl rfl (by omega) (by omega) dX5_keeps_157 ?_
                refine lv_aload_n hx hb dX5_keeps_158 rfl (lv_at hl 2 rfl) ?_
                refine va_get (D := D) (ci := 5) (v := .ref yH) (C := RX5) (T := TX5) (N := 34) hx hb hts in_X5 hown hK hP 0 rfl rfl 24 (by decide) (hts _ (List.mem_cons_of_mem _ tf_X5_62)) (fun _ h9 => h9) rfl dX5_keeps_159 ?_
                refine lv_iload hx hb dX5_keeps_162 (lv_at hl 0 rfl) ?_
                refine rz_as (y := (((rb r).toNat : Nat) : Int)) (by omega) ?_
                refine rn_aldM hx hb hK hP 3 0 rfl rfl (by omega) (by omega) dX5_keeps_164 ?_
                refine lv_aload_n hx hb dX5_keeps_165 rfl (lv_at hl 2 rfl) ?_
                refine va_get (D := D) (ci := 5) (v := .ref yL) (C := RX5) (T := TX5) (N := 34) hx hb hts in_X5 hown hK hP 0 rfl rfl 2 (by decide) (hts _ (List.mem_cons_of_mem _ tf_X5_7)) (fun _ h9 => h9) rfl dX5_keeps_166 ?_
                refine lv_iload hx hb dX5_keeps_169 (lv_at hl 0 rfl) ?_
                refine rz_as (y := (((rb r).toNat : Nat) : Int)) (by omega) ?_
                refine rn_aldM hx hb hK hP 1 0 rfl rfl (by omega) (by omega) dX5_keeps_171 ?_
                refine rn_add hx hb dX5_keeps_172 ?_
                refine lv_aload_n hx hb dX5_keeps_173 rfl (lv_at hl 2 rfl) ?_
                refine va_get (D := D) (ci := 5) (v := .ref yD) (C := RX5) (T := TX5) (N := 34) hx hb hts in_X5 hown hK hP 0 rfl rfl 11 (by decide) (hts _ (List.mem_cons_of_mem _ tf_X5_35)) (fun _ h9 => h9) rfl dX5_keeps_174 ?_
                refine lv_iload_n hx hb dX5_keeps_177 rfl (lv_at hl 3 rfl) ?_
                refine rn_ald hx hb hK hP 7 0 rfl rfl (by omega) (by omega) dX5_keeps_178 ?_
                refine rz_add hx hb dX5_keeps_179 ?_
                refine rz_clt (tgt := 187) hx hb dX5_keeps_180 (by decide) (by omega) (by omega) (fun c11 => ?_) (fun c11 => ?_)
                · refine lv_iconst (v := iI (((0 : Nat) : Int))) hx hb dX5_keeps_187 (by decide +kernel) ?_
                  exact hret _ _ _ _ _ _ dX5_keeps_188 (Or.inl rfl) (by first | exact ⟨true, rfl, rfl, ⟨fun _ => by unfold KpP; omega, fun _ => rfl⟩⟩ | exact ⟨false, rfl, rfl, ⟨(fun h => nomatch h), fun h => by unfold KpP at h; omega⟩⟩) hP hD hS
                · refine lv_iconst (v := iI (((1 : Nat) : Int))) hx hb dX5_keeps_183 (by decide +kernel) ?_
                  refine lv_goto (tgt := 188) hx hb dX5_keeps_184 (by decide) ?_
                  exact hret _ _ _ _ _ _ dX5_keeps_188 (Or.inr rfl) (by first | exact ⟨true, rfl, rfl, ⟨fun _ => by unfold KpP; omega, fun _ => rfl⟩⟩ | exact ⟨false, rfl, rfl, ⟨(fun h => nomatch h), fun h => by unfold KpP at h; omega⟩⟩) hP hD hS
              · refine lv_aload_n hx hb dX5_keeps_128 rfl (lv_at hl 2 rfl) ?_
                refine va_get (D := D) (ci := 5) (v := .ref yG) (C := RX5) (T := TX5) (N := 34) hx hb hts in_X5 hown hK hP 0 rfl rfl 23 (by decide) (hts _ (List.mem_cons_of_mem _ tf_X5_59)) (fun _ h9 => h9) rfl dX5_keeps_129 ?_
                refine lv_iload_n hx hb dX5_keeps_132 rfl (lv_at hl 1 rfl) ?_
                refine rz_as (y := (((ra r).toNat : Nat) : Int)) (by omega) ?_
                refine rn_aldM hx hb hK hP 2 0 rfl rfl (by omega) (by omega) dX5_keeps_133 ?_
                refine lv_aload_n hx hb dX5_keeps_134 rfl (lv_at hl 2 rfl) ?_
                refine va_get (D := D) (ci := 5) (v := .ref yG) (C := RX5) (T := TX5) (N := 34) hx hb hts in_X5 hown hK hP 0 rfl rfl 23 (by decide) (hts _ (List.mem_cons_of_mem _ tf_X5_59)) (fun _ h9 => h9) rfl dX5_keeps_135 ?_
                refine lv_iload hx hb dX5_keeps_138 (lv_at hl 0 rfl) ?_
                refine rz_as (y := (((rb r).toNat : Nat) : Int)) (by omega) ?_
                refine rn_aldM hx hb hK hP 2 0 rfl rfl (by omega) (by omega) dX5_keeps_140 ?_
                refine rz_ceq (tgt := 148) hx hb dX5_keeps_141 (by decide) (by omega) (by omega) (fun c12 => ?_) (fun c12 => ?_)
                · refine lv_iconst (v := iI (((0 : Nat) : Int))) hx hb dX5_keeps_148 (by decide +kernel) ?_
                  refine lv_goto (tgt := 188) hx hb dX5_keeps_149 (by decide) ?_
                  exact hret _ _ _ _ _ _ dX5_keeps_188 (Or.inl rfl) (by first | exact ⟨true, rfl, rfl, ⟨fun _ => by unfold KpP; omega, fun _ => rfl⟩⟩ | exact ⟨false, rfl, rfl, ⟨(fun h => nomatch h), fun h => by unfold KpP at h; omega⟩⟩) hP hD hS
                · refine lv_iconst (v := iI (((1 : Nat) : Int))) hx hb dX5_keeps_144 (by decide +kernel) ?_
                  refine lv_goto (tgt := 188) hx hb dX5_keeps_145 (by decide) ?_
                  exact hret _ _ _ _ _ _ dX5_keeps_188 (Or.inr rfl) (by first | exact ⟨true, rfl, rfl, ⟨fun _ => by unfold KpP; omega, fun _ => rfl⟩⟩ | exact ⟨false, rfl, rfl, ⟨(fun h => nomatch h), fun h => by unfold KpP at h; omega⟩⟩) hP hD hS
            · refine lv_iconst (v := iI (((1 : Nat) : Int))) hx hb dX5_keeps_116 (by decide +kernel) ?_
              exact hret _ _ _ _ _ _ dX5_keeps_117 (Or.inr rfl) (by first | exact ⟨true, rfl, rfl, ⟨fun _ => by unfold KpP; omega, fun _ => rfl⟩⟩ | exact ⟨false, rfl, rfl, ⟨(fun h => nomatch h), fun h => by unfold KpP at h; omega⟩⟩) hP hD hS
    · refine lv_iload_n hx hb dX5_keeps_68 rfl (lv_at hl 1 rfl) ?_
      refine lv_iload_n hx hb dX5_keeps_69 rfl (lv_at hl 4 rfl) ?_
      refine rz_cne (tgt := 88) hx hb dX5_keeps_70 (by decide) (by omega) (by omega) (fun c13 => ?_) (fun c13 => ?_)
      · refine lv_iconst (v := iI (((1 : Nat) : Int))) hx hb dX5_keeps_88 (by decide +kernel) ?_
        refine lv_goto (tgt := 93) hx hb dX5_keeps_89 (by decide) ?_
        exact hret _ _ _ _ _ _ dX5_keeps_93 (Or.inr rfl) (by first | exact ⟨true, rfl, rfl, ⟨fun _ => by unfold KpP; omega, fun _ => rfl⟩⟩ | exact ⟨false, rfl, rfl, ⟨(fun h => nomatch h), fun h => by unfold KpP at h; omega⟩⟩) hP hD hS
      · refine lv_aload_n hx hb dX5_keeps_73 rfl (lv_at hl 2 rfl) ?_
        refine va_get (D := D) (ci := 5) (v := .ref yH) (C := RX5) (T := TX5) (N := 34) hx hb hts in_X5 hown hK hP 0 rfl rfl 24 (by decide) (hts _ (List.mem_cons_of_mem _ tf_X5_62)) (fun _ h9 => h9) rfl dX5_keeps_74 ?_
        refine lv_iload_n hx hb dX5_keeps_77 rfl (lv_at hl 1 rfl) ?_
        refine rz_as (y := (((ra r).toNat : Nat) : Int)) (by omega) ?_
        refine rn_aldM hx hb hK hP 3 0 rfl rfl (by omega) (by omega) dX5_keeps_78 ?_
        refine lv_aload_n hx hb dX5_keeps_79 rfl (lv_at hl 2 rfl) ?_
        refine va_get (D := D) (ci := 5) (v := .ref yD) (C := RX5) (T := TX5) (N := 34) hx hb hts in_X5 hown hK hP 0 rfl rfl 11 (by decide) (hts _ (List.mem_cons_of_mem _ tf_X5_35)) (fun _ h9 => h9) rfl dX5_keeps_80 ?_
        refine lv_iload_n hx hb dX5_keeps_83 rfl (lv_at hl 3 rfl) ?_
        refine rn_ald hx hb hK hP 7 0 rfl rfl (by omega) (by omega) dX5_keeps_84 ?_
        refine rz_clt (tgt := 92) hx hb dX5_keeps_85 (by decide) (by omega) (by omega) (fun c14 => ?_) (fun c14 => ?_)
        · refine lv_iconst (v := iI (((0 : Nat) : Int))) hx hb dX5_keeps_92 (by decide +kernel) ?_
          exact hret _ _ _ _ _ _ dX5_keeps_93 (Or.inl rfl) (by first | exact ⟨true, rfl, rfl, ⟨fun _ => by unfold KpP; omega, fun _ => rfl⟩⟩ | exact ⟨false, rfl, rfl, ⟨(fun h => nomatch h), fun h => by unfold KpP at h; omega⟩⟩) hP hD hS
        · refine lv_iconst (v := iI (((1 : Nat) : Int))) hx hb dX5_keeps_88 (by decide +kernel) ?_
          refine lv_goto (tgt := 93) hx hb dX5_keeps_89 (by decide) ?_
          exact hret _ _ _ _ _ _ dX5_keeps_93 (Or.inr rfl) (by first | exact ⟨true, rfl, rfl, ⟨fun _ => by unfold KpP; omega, fun _ => rfl⟩⟩ | exact ⟨false, rfl, rfl, ⟨(fun h => nomatch h), fun h => by unfold KpP at h; omega⟩⟩) hP hD hS
  · refine lv_iload_n hx hb dX5_keeps_25 rfl (lv_at hl 1 rfl) ?_
    refine lv_iload_n hx hb dX5_keeps_26 rfl (lv_at hl 4 rfl) ?_
    refine rz_cne (tgt := 52) hx hb dX5_keeps_27 (by decide) (by omega) (by omega) (fun c15 => ?_) (fun c15 => ?_)
    · refine lv_iconst (v := iI (((1 : Nat) : Int))) hx hb dX5_keeps_52 (by decide +kernel) ?_
      refine lv_goto (tgt := 57) hx hb dX5_keeps_53 (by decide) ?_
      exact hret _ _ _ _ _ _ dX5_keeps_57 (Or.inr rfl) (by first | exact ⟨true, rfl, rfl, ⟨fun _ => by unfold KpP; omega, fun _ => rfl⟩⟩ | exact ⟨false, rfl, rfl, ⟨(fun h => nomatch h), fun h => by unfold KpP at h; omega⟩⟩) hP hD hS
    · refine lv_aload_n hx hb dX5_keeps_30 rfl (lv_at hl 2 rfl) ?_
      refine va_get (D := D) (ci := 5) (v := .ref yH) (C := RX5) (T := TX5) (N := 34) hx hb hts in_X5 hown hK hP 0 rfl rfl 24 (by decide) (hts _ (List.mem_cons_of_mem _ tf_X5_62)) (fun _ h9 => h9) rfl dX5_keeps_31 ?_
      refine lv_iload_n hx hb dX5_keeps_34 rfl (lv_at hl 1 rfl) ?_
      refine rz_as (y := (((ra r).toNat : Nat) : Int)) (by omega) ?_
      refine rn_aldM hx hb hK hP 3 0 rfl rfl (by omega) (by omega) dX5_keeps_35 ?_
      refine lv_aload_n hx hb dX5_keeps_36 rfl (lv_at hl 2 rfl) ?_
      refine va_get (D := D) (ci := 5) (v := .ref yL) (C := RX5) (T := TX5) (N := 34) hx hb hts in_X5 hown hK hP 0 rfl rfl 2 (by decide) (hts _ (List.mem_cons_of_mem _ tf_X5_7)) (fun _ h9 => h9) rfl dX5_keeps_37 ?_
      refine lv_iload_n hx hb dX5_keeps_40 rfl (lv_at hl 1 rfl) ?_
      refine rz_as (y := (((ra r).toNat : Nat) : Int)) (by omega) ?_
      refine rn_aldM hx hb hK hP 1 0 rfl rfl (by omega) (by omega) dX5_keeps_41 ?_
      refine rn_add hx hb dX5_keeps_42 ?_
      refine lv_aload_n hx hb dX5_keeps_43 rfl (lv_at hl 2 rfl) ?_
      refine va_get (D := D) (ci := 5) (v := .ref yD) (C := RX5) (T := TX5) (N := 34) hx hb hts in_X5 hown hK hP 0 rfl rfl 11 (by decide) (hts _ (List.mem_cons_of_mem _ tf_X5_35)) (fun _ h9 => h9) rfl dX5_keeps_44 ?_
      refine lv_iload_n hx hb dX5_keeps_47 rfl (lv_at hl 3 rfl) ?_
      refine rn_ald hx hb hK hP 7 0 rfl rfl (by omega) (by omega) dX5_keeps_48 ?_
      refine rz_cgt (tgt := 56) hx hb dX5_keeps_49 (by decide) (by omega) (by omega) (fun c16 => ?_) (fun c16 => ?_)
      · refine lv_iconst (v := iI (((0 : Nat) : Int))) hx hb dX5_keeps_56 (by decide +kernel) ?_
        exact hret _ _ _ _ _ _ dX5_keeps_57 (Or.inl rfl) (by first | exact ⟨true, rfl, rfl, ⟨fun _ => by unfold KpP; omega, fun _ => rfl⟩⟩ | exact ⟨false, rfl, rfl, ⟨(fun h => nomatch h), fun h => by unfold KpP at h; omega⟩⟩) hP hD hS
      · refine lv_iconst (v := iI (((1 : Nat) : Int))) hx hb dX5_keeps_52 (by decide +kernel) ?_
        refine lv_goto (tgt := 57) hx hb dX5_keeps_53 (by decide) ?_
        exact hret _ _ _ _ _ _ dX5_keeps_57 (Or.inr rfl) (by first | exact ⟨true, rfl, rfl, ⟨fun _ => by unfold KpP; omega, fun _ => rfl⟩⟩ | exact ⟨false, rfl, rfl, ⟨(fun h => nomatch h), fun h => by unfold KpP at h; omega⟩⟩) hP hD hS

set_option maxHeartbeats 4000000 in
set_option maxRecDepth 100000 in
theorem k_X5_fits (l : Launch) (D : va_G) (cI cZ : ClassId) (sz : Nat) (hM : Nat) (T : Nat) (dd : Nat) (yL : Nat) (yT : Nat) (yS : Nat) (yE : Nat) (yF : Nat) (n : Nat) (yK : Nat) (yA : Nat) (yB : Nat) (yD : Nat) (nr : Nat) (yO : Nat) (yP : Nat) (yQ : Nat) (no : Nat) (yU : Nat) (yV : Nat) (un : Nat) (yC : Nat) (yW : Nat) (cp : Nat) (yG : Nat) (yH : Nat) (yI : Nat) (yJ : Nat) (bc : Nat) (bk : Nat) (th : Bool) (wo : Int) (yN : Nat) (bd : Nat) (co : Int64) (ln : Nat → Nat) (tk : Nat → Nat) (sd : Nat → Nat) (ea : Nat → Nat) (fz : Nat → Bool) (ot : Nat → Int) (of_ : Nat → Int) (oo : Nat → Int) (gt : Nat → Nat) (gs : Nat → Nat) (rk : Nat → Int) (ra : Nat → Int) (rb : Nat → Int) (rd : Nat → Int) (b : Nat) (hn : n ≤ 4) (hnr : nr ≤ 8) (hdd : 1 ≤ dd ∧ dd ≤ 10) (hno : no ≤ 12) (hb9 : b < n) (hln : ∀ j, ln j ≤ 10) (hgt10 : ∀ j, gt j < 10) (hgs10 : ∀ j, gs j < 10) (htk10 : ∀ j, tk j < 10) (hsd10 : ∀ j, sd j < 10) (hea : ∀ j, ea j ≤ 20) (hout : ∀ j, (-2147483648 ≤ ot j ∧ ot j < 2147483648) ∧ (-2147483648 ≤ of_ j ∧ of_ j < 2147483648) ∧ (-2147483648 ≤ oo j ∧ oo j < 2147483648)) (hv : RulesOK rk ra rb rd nr n) (hrr : ∀ j, (-2147483648 ≤ rb j ∧ rb j < 2147483648) ∧ (-2147483648 ≤ rd j ∧ rd j < 2147483648)) (hwo : -2147483648 ≤ wo ∧ wo < 2147483648) : Ci l yX5_fits wsX5_fits (rmD 1) D vwCl [(cI, .int), (cZ, .boolean)] [.ref hM, .int (iI (((b : Nat) : Int)))] [(hM, .inr (5, [.int (iI (((T : Nat) : Int))), .int (iI (((dd : Nat) : Int))), .ref yL, .ref yT, .ref yS, .ref yE, .ref yF, .int (iI (((n : Nat) : Int))), .ref yK, .ref yA, .ref yB, .ref yD, .int (iI (((nr : Nat) : Int))), .ref yO, .ref yP, .ref yQ, .int (iI (((no : Nat) : Int))), .ref yU, .ref yV, .int (iI (((un : Nat) : Int))), .ref yC, .ref yW, .int (iI (((cp : Nat) : Int))), .ref yG, .ref yH, .ref yI, .ref yJ, .int (iI (((bc : Nat) : Int))), .int (iI (((bk : Nat) : Int))), .int (iI (b2z (th))), .int (iI (wo)), .ref yN, .int (iI (((bd : Nat) : Int))), .long (co)])), ce_i yL cI 4 (nZ (ln)), ce_i yT cI 4 (nZ (tk)), ce_i yS cI 4 (nZ (sd)), ce_i yE cI 4 (nZ (ea)), ce_i yF cZ 4 (bZ (fz)), ce_i yO cI 12 (ot), ce_i yP cI 12 (of_), ce_i yQ cI 12 (oo), ce_i yG cI 4 (nZ (gt)), ce_i yH cI 4 (nZ (gs)), ce_i yK cI 8 (rk), ce_i yA cI 8 (ra), ce_i yB cI 8 (rb), ce_i yD cI 8 (rd)] sz (fun z w => ∃ rz : Bool, w = [(hM, .inr (5, [.int (iI (((T : Nat) : Int))), .int (iI (((dd : Nat) : Int))), .ref yL, .ref yT, .ref yS, .ref yE, .ref yF, .int (iI (((n : Nat) : Int))), .ref yK, .ref yA, .ref yB, .ref yD, .int (iI (((nr : Nat) : Int))), .ref yO, .ref yP, .ref yQ, .int (iI (((no : Nat) : Int))), .ref yU, .ref yV, .int (iI (((un : Nat) : Int))), .ref yC, .ref yW, .int (iI (((cp : Nat) : Int))), .ref yG, .ref yH, .ref yI, .ref yJ, .int (iI (((bc : Nat) : Int))), .int (iI (((bk : Nat) : Int))), .int (iI (b2z (th))), .int (iI (wo)), .ref yN, .int (iI (((bd : Nat) : Int))), .long (co)])), ce_i yL cI 4 (nZ (ln)), ce_i yT cI 4 (nZ (tk)), ce_i yS cI 4 (nZ (sd)), ce_i yE cI 4 (nZ (ea)), ce_i yF cZ 4 (bZ (fz)), ce_i yO cI 12 (ot), ce_i yP cI 12 (of_), ce_i yQ cI 12 (oo), ce_i yG cI 4 (nZ (gt)), ce_i yH cI 4 (nZ (gs)), ce_i yK cI 8 (rk), ce_i yA cI 8 (ra), ce_i yB cI 8 (rb), ce_i yD cI 8 (rd)] ∧ (z = b2z (rz)) ∧ (rz = true ↔ FitP dd ln tk sd ea fz ot of_ oo no rk ra rb rd nr wo gt gs b)) 0 0 := by
  refine Cz_of (cc := cX5_fits) (nL := 7) (by decide) rfl (Nat.le_of_ble_eq_true rfl) ?_
  intro p e s m below meth c A Q hsz C hK hN hA hP hD hS hret ls hl
  obtain ⟨hx, hb, hml, hown, hts⟩ := id C
  have hown : s.vm.findClass RX5 = some m.cls := hown
  have hl : lv_has ls 7 [(0, .ref hM), (1, .int (iI (((b : Nat) : Int))))] := hl
  have in_X5 : ∀ w ∈ u_ws RX5 TX5 34, w ∈ wsX5_fits := fun w h => List.mem_cons_of_mem _ (inX5 w h)
  have K215 : ∀ (fu : Nat) (i : Nat) (fb : Bool), nr - i < fu → (i ≤ nr) → (fb = true ↔ (((FitU dd ln tk sd ea fz gt gs b ∧ ∀ u, u < no → FitO ln ot of_ oo gt gs b u) ∧ ∀ u, u < b → FitC ln gt gs b u) ∧ ∀ u, u < i → FitR ln rk ra rb rd wo gt gs b u)) → ∀ (H : Heap) (locs : List Loc) (ls : Array Slot), va_P D vwCl [(hM, .inr (5, [.int (iI (((T : Nat) : Int))), .int (iI (((dd : Nat) : Int))), .ref yL, .ref yT, .ref yS, .ref yE, .ref yF, .int (iI (((n : Nat) : Int))), .ref yK, .ref yA, .ref yB, .ref yD, .int (iI (((nr : Nat) : Int))), .ref yO, .ref yP, .ref yQ, .int (iI (((no : Nat) : Int))), .ref yU, .ref yV, .int (iI (((un : Nat) : Int))), .ref yC, .ref yW, .int (iI (((cp : Nat) : Int))), .ref yG, .ref yH, .ref yI, .ref yJ, .int (iI (((bc : Nat) : Int))), .int (iI (((bk : Nat) : Int))), .int (iI (b2z (th))), .int (iI (wo)), .ref yN, .int (iI (((bd : Nat) : Int))), .long (co)])), ce_i yL cI 4 (nZ (ln)), ce_i yT cI 4 (nZ (tk)), ce_i yS cI 4 (nZ (sd)), ce_i yE cI 4 (nZ (ea)), ce_i yF cZ 4 (bZ (fz)), ce_i yO cI 12 (ot), ce_i yP cI 12 (of_), ce_i yQ cI 12 (oo), ce_i yG cI 4 (nZ (gt)), ce_i yH cI 4 (nZ (gs)), ce_i yK cI 8 (rk), ce_i yA cI 8 (ra), ce_i yB cI 8 (rb), ce_i yD cI 8 (rd)] H → va_D A [(hM, .inr (5, [.int (iI (((T : Nat) : Int))), .int (iI (((dd : Nat) : Int))), .ref yL, .ref yT, .ref yS, .ref yE, .ref yF, .int (iI (((n : Nat) : Int))), .ref yK, .ref yA, .ref yB, .ref yD, .int (iI (((nr : Nat) : Int))), .ref yO, .ref yP, .ref yQ, .int (iI (((no : Nat) : Int))), .ref yU, .ref yV, .int (iI (((un : Nat) : Int))), .ref yC, .ref yW, .int (iI (((cp : Nat) : Int))), .ref yG, .ref yH, .ref yI, .ref yJ, .int (iI (((bc : Nat) : Int))), .int (iI (((bk : Nat) : Int))), .int (iI (b2z (th))), .int (iI (wo)), .ref yN, .int (iI (((bd : Nat) : Int))), .long (co)])), ce_i yL cI 4 (nZ (ln)), ce_i yT cI 4 (nZ (tk)), ce_i yS cI 4 (nZ (sd)), ce_i yE cI 4 (nZ (ea)), ce_i yF cZ 4 (bZ (fz)), ce_i yO cI 12 (ot), ce_i yP cI 12 (of_), ce_i yQ cI 12 (oo), ce_i yG cI 4 (nZ (gt)), ce_i yH cI 4 (nZ (gs)), ce_i yK cI 8 (rk), ce_i yA cI 8 (ra), ce_i yB cI 8 (rb), ce_i yD cI 8 (rd)] → va_S A s.heap H locs → lv_has ls 7 [(0, .ref hM), (1, .int (iI (((b : Nat) : Int)))), (2, .int (iI (((gt b : Nat) : Int)))), (3, .int (iI (((gs b : Nat) : Int)))), (4, .int (iI (((gs b + ln b : Nat) : Int)))), (5, .int (iI (b2z (fb)))), (6, .int (iI (((i : Nat) : Int))))] → W p l e (rmD 1) s m ([.ref hM, .int (iI (((b : Nat) : Int)))] : List Value).toArray below meth c H locs 0 0 Q (F0 m 215 ls []) := by
    intro fu
    induction fu with
    | zero => intro i fb hmu; exact absurd hmu (Nat.not_lt_zero _)
    | succ fu ih =>
      intro i fb hmu hi hf H locs ls hP hD hS hl
      refine lv_iload hx hb dX5_fits_215 (lv_at hl 6 rfl) ?_
      refine lv_aload_n hx hb dX5_fits_217 rfl (lv_at hl 0 rfl) ?_
      refine va_get (D := D) (ci := 5) (v := .int (iI (((nr : Nat) : Int)))) (C := RX5) (T := TX5) (N := 34) hx hb hts in_X5 hown hK hP 0 rfl rfl 12 (by decide) (hts _ (List.mem_cons_of_mem _ tf_X5_88)) (fun _ h9 => h9) rfl dX5_fits_218 ?_
      refine rz_cge (tgt := 261) hx hb dX5_fits_221 (by decide) (by omega) (by omega) (fun c1 => ?_) (fun c1 => ?_)
      · refine lv_iload hx hb dX5_fits_261 (lv_at hl 5 rfl) ?_
        exact hret _ _ _ _ _ _ dX5_fits_263 (b2z_01 _) ⟨fb, rfl, rfl, bl_end hf (by omega) (by first | exact Or.inr (by assumption) | exact Or.inl (by omega))⟩ hP hD hS
      · refine lv_iload hx hb dX5_fits_224 (lv_at hl 5 rfl) ?_
        refine rz_beq (z := fb) (tgt := 261) hx hb dX5_fits_226 (by decide) (fun c2 => ?_) (fun c2 => ?_)
        · refine lv_iload hx hb dX5_fits_261 (lv_at hl 5 rfl) ?_
          exact hret _ _ _ _ _ _ dX5_fits_263 (b2z_01 _) ⟨fb, rfl, rfl, bl_end hf (by omega) (by first | exact Or.inr (by assumption) | exact Or.inl (by omega))⟩ hP hD hS
        · refine lv_iload hx hb dX5_fits_229 (lv_at hl 6 rfl) ?_
          refine lv_aload_n hx hb dX5_fits_231 rfl (lv_at hl 0 rfl) ?_
          refine va_get (D := D) (ci := 5) (v := .int (iI (wo))) (C := RX5) (T := TX5) (N := 34) hx hb hts in_X5 hown hK hP 0 rfl rfl 30 (by decide) (hts _ (List.mem_cons_of_mem _ tf_X5_94)) (fun _ h9 => h9) rfl dX5_fits_232 ?_
          refine rz_ceq (tgt := 248) hx hb dX5_fits_235 (by decide) (by omega) (by omega) (fun c3 => ?_) (fun c3 => ?_)
          · refine lv_iconst (v := iI (((1 : Nat) : Int))) hx hb dX5_fits_248 (by decide +kernel) ?_
            refine lv_goto (tgt := 253) hx hb dX5_fits_249 (by decide) ?_
            refine lv_istore (lv' := [(5, .int (iI (((1 : Nat) : Int)))), (0, .ref hM), (1, .int (iI (((b : Nat) : Int)))), (2, .int (iI (((gt b : Nat) : Int)))), (3, .int (iI (((gs b : Nat) : Int)))), (4, .int (iI (((gs b + ln b : Nat) : Int)))), (6, .int (iI (((i : Nat) : Int))))]) hx hb dX5_fits_253 hl (by decide) rfl (fun ls hl => ?_)
            refine lv_iinc (v := iI (((i + 1 : Nat) : Int))) (lv' := [(6, .int (iI (((i + 1 : Nat) : Int)))), (5, .int (iI (((1 : Nat) : Int)))), (0, .ref hM), (1, .int (iI (((b : Nat) : Int)))), (2, .int (iI (((gt b : Nat) : Int)))), (3, .int (iI (((gs b : Nat) : Int)))), (4, .int (iI (((gs b + ln b : Nat) : Int))))]) hx hb dX5_fits_255 hl (k := 6) rfl (iI_inc _) (by decide) rfl (fun ls hl => ?_)
            refine lv_goto (tgt := 215) hx hb dX5_fits_258 (by decide) ?_
            exact ih (i + 1) (true) (by omega) (by omega) (by first | exact bl_t hf (by assumption) (Or.inl (by assumption)) | exact bl_t hf (by assumption) (Or.inr (hkp.mp (by assumption))) | exact bl_f (fun q => by rcases q with q | q; exact absurd q (by assumption); have := hkp.mpr q; simp_all)) _ _ _ hP hD hS (lv_sub hl [2, 3, 4, 5, 6, 1, 0] rfl)
          · refine lv_aload_n hx hb dX5_fits_238 rfl (lv_at hl 0 rfl) ?_
            refine lv_iload hx hb dX5_fits_239 (lv_at hl 6 rfl) ?_
            refine lv_iload_n hx hb dX5_fits_241 rfl (lv_at hl 1 rfl) ?_
            have hPc := hP.sub (ws' := [(hM, .inr (5, [.int (iI (((T : Nat) : Int))), .int (iI (((dd : Nat) : Int))), .ref yL, .ref yT, .ref yS, .ref yE, .ref yF, .int (iI (((n : Nat) : Int))), .ref yK, .ref yA, .ref yB, .ref yD, .int (iI (((nr : Nat) : Int))), .ref yO, .ref yP, .ref yQ, .int (iI (((no : Nat) : Int))), .ref yU, .ref yV, .int (iI (((un : Nat) : Int))), .ref yC, .ref yW, .int (iI (((cp : Nat) : Int))), .ref yG, .ref yH, .ref yI, .ref yJ, .int (iI (((bc : Nat) : Int))), .int (iI (((bk : Nat) : Int))), .int (iI (b2z (th))), .int (iI (wo)), .ref yN, .int (iI (((bd : Nat) : Int))), .long (co)])), ce_i yL cI 4 (nZ (ln)), ce_i yG cI 4 (nZ (gt)), ce_i yH cI 4 (nZ (gs)), ce_i yK cI 8 (rk), ce_i yA cI 8 (ra), ce_i yB cI 8 (rb), ce_i yD cI 8 (rd)]) [0, 1, 9, 10, 11, 12, 13, 14] rfl
            have hDc := hD.sub (ws' := [(hM, .inr (5, [.int (iI (((T : Nat) : Int))), .int (iI (((dd : Nat) : Int))), .ref yL, .ref yT, .ref yS, .ref yE, .ref yF, .int (iI (((n : Nat) : Int))), .ref yK, .ref yA, .ref yB, .ref yD, .int (iI (((nr : Nat) : Int))), .ref yO, .ref yP, .ref yQ, .int (iI (((no : Nat) : Int))), .ref yU, .ref yV, .int (iI (((un : Nat) : Int))), .ref yC, .ref yW, .int (iI (((cp : Nat) : Int))), .ref yG, .ref yH, .ref yI, .ref yJ, .int (iI (((bc : Nat) : Int))), .int (iI (((bk : Nat) : Int))), .int (iI (b2z (th))), .int (iI (wo)), .ref yN, .int (iI (((bd : Nat) : Int))), .long (co)])), ce_i yL cI 4 (nZ (ln)), ce_i yG cI 4 (nZ (gt)), ce_i yH cI 4 (nZ (gs)), ce_i yK cI 8 (rk), ce_i yA cI 8 (ra), ce_i yB cI 8 (rb), ce_i yD cI 8 (rd)]) [0, 1, 9, 10, 11, 12, 13, 14] (by decide) rfl
            refine rz_calli (va_runV (As := [.int (iI (((i : Nat) : Int))), .int (iI (((b : Nat) : Int)))]) (rest := []) ⟨hx, hb, hml, hown, hts⟩ (k_X5_keeps l D cI cZ H.size hM T dd yL yT yS yE yF n yK yA yB yD nr yO yP yQ no yU yV un yC yW cp yG yH yI yJ bc bk th wo yN bd co ln gt gs rk ra rb rd i b (by omega) (by omega) (by omega) (by omega) hln hgt10 hgs10 hv hrr) (cwV 2 hts (gG (g_V tm_X5_97 ti_X5_keeps tse_X5_keeps tin_X5 cmX5_keeps)) rfl rfl rfl (by decide +kernel) ⟨Nat.le_of_ble_eq_true rfl, Nat.le_of_ble_eq_true rfl⟩) ⟨cP_blind, va_recv hK hPc (ci := 5) (q0 := 0) rfl rfl, cP_pre hPc hK hN hDc⟩ rfl rfl hl.1 rfl (lv_room (Nat.le_of_ble_eq_true rfl)) dX5_fits_242 ⟨Nat.le_refl _, Nat.le_refl _⟩) hP hD hS hA [0, 1, 9, 10, 11, 12, 13, 14] [2, 3, 4, 5, 6, 7, 8] rfl (wr := [ce_i yT cI 4 (nZ (tk)), ce_i yS cI 4 (nZ (sd)), ce_i yE cI 4 (nZ (ea)), ce_i yF cZ 4 (bZ (fz)), ce_i yO cI 12 (ot), ce_i yP cI 12 (of_), ce_i yQ cI 12 (oo)]) rfl (by decide) (by decide) (fun z4 w H locs hp hP hD hS => ?_)
            obtain ⟨r1, rfl, rfl, hkp⟩ := hp
            have hP : va_P D vwCl [(hM, .inr (5, [.int (iI (((T : Nat) : Int))), .int (iI (((dd : Nat) : Int))), .ref yL, .ref yT, .ref yS, .ref yE, .ref yF, .int (iI (((n : Nat) : Int))), .ref yK, .ref yA, .ref yB, .ref yD, .int (iI (((nr : Nat) : Int))), .ref yO, .ref yP, .ref yQ, .int (iI (((no : Nat) : Int))), .ref yU, .ref yV, .int (iI (((un : Nat) : Int))), .ref yC, .ref yW, .int (iI (((cp : Nat) : Int))), .ref yG, .ref yH, .ref yI, .ref yJ, .int (iI (((bc : Nat) : Int))), .int (iI (((bk : Nat) : Int))), .int (iI (b2z (th))), .int (iI (wo)), .ref yN, .int (iI (((bd : Nat) : Int))), .long (co)])), ce_i yL cI 4 (nZ (ln)), ce_i yT cI 4 (nZ (tk)), ce_i yS cI 4 (nZ (sd)), ce_i yE cI 4 (nZ (ea)), ce_i yF cZ 4 (bZ (fz)), ce_i yO cI 12 (ot), ce_i yP cI 12 (of_), ce_i yQ cI 12 (oo), ce_i yG cI 4 (nZ (gt)), ce_i yH cI 4 (nZ (gs)), ce_i yK cI 8 (rk), ce_i yA cI 8 (ra), ce_i yB cI 8 (rb), ce_i yD cI 8 (rd)] H := hP.sub (ws' := [(hM, .inr (5, [.int (iI (((T : Nat) : Int))), .int (iI (((dd : Nat) : Int))), .ref yL, .ref yT, .ref yS, .ref yE, .ref yF, .int (iI (((n : Nat) : Int))), .ref yK, .ref yA, .ref yB, .ref yD, .int (iI (((nr : Nat) : Int))), .ref yO, .ref yP, .ref yQ, .int (iI (((no : Nat) : Int))), .ref yU, .ref yV, .int (iI (((un : Nat) : Int))), .ref yC, .ref yW, .int (iI (((cp : Nat) : Int))), .ref yG, .ref yH, .ref yI, .ref yJ, .int (iI (((bc : Nat) : Int))), .int (iI (((bk : Nat) : Int))), .int (iI (b2z (th))), .int (iI (wo)), .ref yN, .int (iI (((bd : Nat) : Int))), .long (co)])), ce_i yL cI 4 (nZ (ln)), ce_i yT cI 4 (nZ (tk)), ce_i yS cI 4 (nZ (sd)), ce_i yE cI 4 (nZ (ea)), ce_i yF cZ 4 (bZ (fz)), ce_i yO cI 12 (ot), ce_i yP cI 12 (of_), ce_i yQ cI 12 (oo), ce_i yG cI 4 (nZ (gt)), ce_i yH cI 4 (nZ (gs)), ce_i yK cI 8 (rk), ce_i yA cI 8 (ra), ce_i yB cI 8 (rb), ce_i yD cI 8 (rd)]) [7, 8, 0, 1, 2, 3, 4, 5, 6, 9, 10, 11, 12, 13, 14] rfl
            have hD : va_D A [(hM, .inr (5, [.int (iI (((T : Nat) : Int))), .int (iI (((dd : Nat) : Int))), .ref yL, .ref yT, .ref yS, .ref yE, .ref yF, .int (iI (((n : Nat) : Int))), .ref yK, .ref yA, .ref yB, .ref yD, .int (iI (((nr : Nat) : Int))), .ref yO, .ref yP, .ref yQ, .int (iI (((no : Nat) : Int))), .ref yU, .ref yV, .int (iI (((un : Nat) : Int))), .ref yC, .ref yW, .int (iI (((cp : Nat) : Int))), .ref yG, .ref yH, .ref yI, .ref yJ, .int (iI (((bc : Nat) : Int))), .int (iI (((bk : Nat) : Int))), .int (iI (b2z (th))), .int (iI (wo)), .ref yN, .int (iI (((bd : Nat) : Int))), .long (co)])), ce_i yL cI 4 (nZ (ln)), ce_i yT cI 4 (nZ (tk)), ce_i yS cI 4 (nZ (sd)), ce_i yE cI 4 (nZ (ea)), ce_i yF cZ 4 (bZ (fz)), ce_i yO cI 12 (ot), ce_i yP cI 12 (of_), ce_i yQ cI 12 (oo), ce_i yG cI 4 (nZ (gt)), ce_i yH cI 4 (nZ (gs)), ce_i yK cI 8 (rk), ce_i yA cI 8 (ra), ce_i yB cI 8 (rb), ce_i yD cI 8 (rd)] := hD.sub (ws' := [(hM, .inr (5, [.int (iI (((T : Nat) : Int))), .int (iI (((dd : Nat) : Int))), .ref yL, .ref yT, .ref yS, .ref yE, .ref yF, .int (iI (((n : Nat) : Int))), .ref yK, .ref yA, .ref yB, .ref yD, .int (iI (((nr : Nat) : Int))), .ref yO, .ref yP, .ref yQ, .int (iI (((no : Nat) : Int))), .ref yU, .ref yV, .int (iI (((un : Nat) : Int))), .ref yC, .ref yW, .int (iI (((cp : Nat) : Int))), .ref yG, .ref yH, .ref yI, .ref yJ, .int (iI (((bc : Nat) : Int))), .int (iI (((bk : Nat) : Int))), .int (iI (b2z (th))), .int (iI (wo)), .ref yN, .int (iI (((bd : Nat) : Int))), .long (co)])), ce_i yL cI 4 (nZ (ln)), ce_i yT cI 4 (nZ (tk)), ce_i yS cI 4 (nZ (sd)), ce_i yE cI 4 (nZ (ea)), ce_i yF cZ 4 (bZ (fz)), ce_i yO cI 12 (ot), ce_i yP cI 12 (of_), ce_i yQ cI 12 (oo), ce_i yG cI 4 (nZ (gt)), ce_i yH cI 4 (nZ (gs)), ce_i yK cI 8 (rk), ce_i yA cI 8 (ra), ce_i yB cI 8 (rb), ce_i yD cI 8 (rd)]) [7, 8, 0, 1, 2, 3, 4, 5, 6, 9, 10, 11, 12, 13, 14] (by decide) rfl
            refine rz_beq (z := r1) (tgt := 252) hx hb dX5_fits_245 (by decide) (fun c5 => ?_) (fun c5 => ?_)
            · refine lv_iconst (v := iI (((0 : Nat) : Int))) hx hb dX5_fits_252 (by decide +kernel) ?_
              refine lv_istore (lv' := [(5, .int (iI (((0 : Nat) : Int)))), (0, .ref hM), (1, .int (iI (((b : Nat) : Int)))), (2, .int (iI (((gt b : Nat) : Int)))), (3, .int (iI (((gs b : Nat) : Int)))), (4, .int (iI (((gs b + ln b : Nat) : Int)))), (6, .int (iI (((i : Nat) : Int))))]) hx hb dX5_fits_253 hl (by decide) rfl (fun ls hl => ?_)
              refine lv_iinc (v := iI (((i + 1 : Nat) : Int))) (lv' := [(6, .int (iI (((i + 1 : Nat) : Int)))), (5, .int (iI (((0 : Nat) : Int)))), (0, .ref hM), (1, .int (iI (((b : Nat) : Int)))), (2, .int (iI (((gt b : Nat) : Int)))), (3, .int (iI (((gs b : Nat) : Int)))), (4, .int (iI (((gs b + ln b : Nat) : Int))))]) hx hb dX5_fits_255 hl (k := 6) rfl (iI_inc _) (by decide) rfl (fun ls hl => ?_)
              refine lv_goto (tgt := 215) hx hb dX5_fits_258 (by decide) ?_
              exact ih (i + 1) (false) (by omega) (by omega) (by first | exact bl_t hf (by assumption) (Or.inl (by assumption)) | exact bl_t hf (by assumption) (Or.inr (hkp.mp (by assumption))) | exact bl_f (fun q => by rcases q with q | q; exact absurd q (by assumption); have := hkp.mpr q; simp_all)) _ _ _ hP hD hS (lv_sub hl [2, 3, 4, 5, 6, 1, 0] rfl)
            · refine lv_iconst (v := iI (((1 : Nat) : Int))) hx hb dX5_fits_248 (by decide +kernel) ?_
              refine lv_goto (tgt := 253) hx hb dX5_fits_249 (by decide) ?_
              refine lv_istore (lv' := [(5, .int (iI (((1 : Nat) : Int)))), (0, .ref hM), (1, .int (iI (((b : Nat) : Int)))), (2, .int (iI (((gt b : Nat) : Int)))), (3, .int (iI (((gs b : Nat) : Int)))), (4, .int (iI (((gs b + ln b : Nat) : Int)))), (6, .int (iI (((i : Nat) : Int))))]) hx hb dX5_fits_253 hl (by decide) rfl (fun ls hl => ?_)
              refine lv_iinc (v := iI (((i + 1 : Nat) : Int))) (lv' := [(6, .int (iI (((i + 1 : Nat) : Int)))), (5, .int (iI (((1 : Nat) : Int)))), (0, .ref hM), (1, .int (iI (((b : Nat) : Int)))), (2, .int (iI (((gt b : Nat) : Int)))), (3, .int (iI (((gs b : Nat) : Int)))), (4, .int (iI (((gs b + ln b : Nat) : Int))))]) hx hb dX5_fits_255 hl (k := 6) rfl (iI_inc _) (by decide) rfl (fun ls hl => ?_)
              refine lv_goto (tgt := 215) hx hb dX5_fits_258 (by decide) ?_
              exact ih (i + 1) (true) (by omega) (by omega) (by first | exact bl_t hf (by assumption) (Or.inl (by assumption)) | exact bl_t hf (by assumption) (Or.inr (hkp.mp (by assumption))) | exact bl_f (fun q => by rcases q with q | q; exact absurd q (by assumption); have := hkp.mpr q; simp_all)) _ _ _ hP hD hS (lv_sub hl [2, 3, 4, 5, 6, 1, 0] rfl)
  have K146 : ∀ (fu : Nat) (i : Nat) (fb : Bool), b - i < fu → (i ≤ b) → (fb = true ↔ ((FitU dd ln tk sd ea fz gt gs b ∧ ∀ u, u < no → FitO ln ot of_ oo gt gs b u) ∧ ∀ u, u < i → FitC ln gt gs b u)) → ∀ (H : Heap) (locs : List Loc) (ls : Array Slot), va_P D vwCl [(hM, .inr (5, [.int (iI (((T : Nat) : Int))), .int (iI (((dd : Nat) : Int))), .ref yL, .ref yT, .ref yS, .ref yE, .ref yF, .int (iI (((n : Nat) : Int))), .ref yK, .ref yA, .ref yB, .ref yD, .int (iI (((nr : Nat) : Int))), .ref yO, .ref yP, .ref yQ, .int (iI (((no : Nat) : Int))), .ref yU, .ref yV, .int (iI (((un : Nat) : Int))), .ref yC, .ref yW, .int (iI (((cp : Nat) : Int))), .ref yG, .ref yH, .ref yI, .ref yJ, .int (iI (((bc : Nat) : Int))), .int (iI (((bk : Nat) : Int))), .int (iI (b2z (th))), .int (iI (wo)), .ref yN, .int (iI (((bd : Nat) : Int))), .long (co)])), ce_i yL cI 4 (nZ (ln)), ce_i yT cI 4 (nZ (tk)), ce_i yS cI 4 (nZ (sd)), ce_i yE cI 4 (nZ (ea)), ce_i yF cZ 4 (bZ (fz)), ce_i yO cI 12 (ot), ce_i yP cI 12 (of_), ce_i yQ cI 12 (oo), ce_i yG cI 4 (nZ (gt)), ce_i yH cI 4 (nZ (gs)), ce_i yK cI 8 (rk), ce_i yA cI 8 (ra), ce_i yB cI 8 (rb), ce_i yD cI 8 (rd)] H → va_D A [(hM, .inr (5, [.int (iI (((T : Nat) : Int))), .int (iI (((dd : Nat) : Int))), .ref yL, .ref yT, .ref yS, .ref yE, .ref yF, .int (iI (((n : Nat) : Int))), .ref yK, .ref yA, .ref yB, .ref yD, .int (iI (((nr : Nat) : Int))), .ref yO, .ref yP, .ref yQ, .int (iI (((no : Nat) : Int))), .ref yU, .ref yV, .int (iI (((un : Nat) : Int))), .ref yC, .ref yW, .int (iI (((cp : Nat) : Int))), .ref yG, .ref yH, .ref yI, .ref yJ, .int (iI (((bc : Nat) : Int))), .int (iI (((bk : Nat) : Int))), .int (iI (b2z (th))), .int (iI (wo)), .ref yN, .int (iI (((bd : Nat) : Int))), .long (co)])), ce_i yL cI 4 (nZ (ln)), ce_i yT cI 4 (nZ (tk)), ce_i yS cI 4 (nZ (sd)), ce_i yE cI 4 (nZ (ea)), ce_i yF cZ 4 (bZ (fz)), ce_i yO cI 12 (ot), ce_i yP cI 12 (of_), ce_i yQ cI 12 (oo), ce_i yG cI 4 (nZ (gt)), ce_i yH cI 4 (nZ (gs)), ce_i yK cI 8 (rk), ce_i yA cI 8 (ra), ce_i yB cI 8 (rb), ce_i yD cI 8 (rd)] → va_S A s.heap H locs → lv_has ls 7 [(0, .ref hM), (1, .int (iI (((b : Nat) : Int)))), (2, .int (iI (((gt b : Nat) : Int)))), (3, .int (iI (((gs b : Nat) : Int)))), (4, .int (iI (((gs b + ln b : Nat) : Int)))), (5, .int (iI (b2z (fb)))), (6, .int (iI (((i : Nat) : Int))))] → W p l e (rmD 1) s m ([.ref hM, .int (iI (((b : Nat) : Int)))] : List Value).toArray below meth c H locs 0 0 Q (F0 m 146 ls []) := by
    intro fu
    induction fu with
    | zero => intro i fb hmu; exact absurd hmu (Nat.not_lt_zero _)
    | succ fu ih =>
      intro i fb hmu hi hf H locs ls hP hD hS hl
      have g1 := hgs10 b
      have g2 := hgt10 b
      have l1 := hln b
      have g3 := hgs10 i
      have g4 := hgt10 i
      have l3 := hln i
      refine lv_iload hx hb dX5_fits_146 (lv_at hl 6 rfl) ?_
      refine lv_iload_n hx hb dX5_fits_148 rfl (lv_at hl 1 rfl) ?_
      refine rz_cge (tgt := 212) hx hb dX5_fits_149 (by decide) (by omega) (by omega) (fun c6 => ?_) (fun c6 => ?_)
      · refine lv_iconst (v := iI (((0 : Nat) : Int))) hx hb dX5_fits_212 (by decide +kernel) ?_
        refine lv_istore (lv' := [(6, .int (iI (((0 : Nat) : Int)))), (0, .ref hM), (1, .int (iI (((b : Nat) : Int)))), (2, .int (iI (((gt b : Nat) : Int)))), (3, .int (iI (((gs b : Nat) : Int)))), (4, .int (iI (((gs b + ln b : Nat) : Int)))), (5, .int (iI (b2z (fb))))]) hx hb dX5_fits_213 hl (by decide) rfl (fun ls hl => ?_)
        exact K215 (nr - (0) + 1) (0) (fb) (Nat.lt_succ_self _) (by omega) (bl_0 (bl_end hf (by omega) (by first | exact Or.inr (by assumption) | exact Or.inl (by omega)))) _ _ _ hP hD hS (lv_sub hl [1, 2, 3, 4, 5, 6, 0] rfl)
      · refine lv_iload hx hb dX5_fits_152 (lv_at hl 5 rfl) ?_
        refine rz_beq (z := fb) (tgt := 212) hx hb dX5_fits_154 (by decide) (fun c7 => ?_) (fun c7 => ?_)
        · refine lv_iconst (v := iI (((0 : Nat) : Int))) hx hb dX5_fits_212 (by decide +kernel) ?_
          refine lv_istore (lv' := [(6, .int (iI (((0 : Nat) : Int)))), (0, .ref hM), (1, .int (iI (((b : Nat) : Int)))), (2, .int (iI (((gt b : Nat) : Int)))), (3, .int (iI (((gs b : Nat) : Int)))), (4, .int (iI (((gs b + ln b : Nat) : Int)))), (5, .int (iI (b2z (fb))))]) hx hb dX5_fits_213 hl (by decide) rfl (fun ls hl => ?_)
          exact K215 (nr - (0) + 1) (0) (fb) (Nat.lt_succ_self _) (by omega) (bl_0 (bl_end hf (by omega) (by first | exact Or.inr (by assumption) | exact Or.inl (by omega)))) _ _ _ hP hD hS (lv_sub hl [1, 2, 3, 4, 5, 6, 0] rfl)
        · refine lv_aload_n hx hb dX5_fits_157 rfl (lv_at hl 0 rfl) ?_
          refine va_get (D := D) (ci := 5) (v := .ref yG) (C := RX5) (T := TX5) (N := 34) hx hb hts in_X5 hown hK hP 0 rfl rfl 23 (by decide) (hts _ (List.mem_cons_of_mem _ tf_X5_59)) (fun _ h9 => h9) rfl dX5_fits_158 ?_
          refine lv_iload hx hb dX5_fits_161 (lv_at hl 6 rfl) ?_
          refine rn_aldM hx hb hK hP 9 0 rfl rfl (by omega) (by omega) dX5_fits_163 ?_
          refine lv_iload_n hx hb dX5_fits_164 rfl (lv_at hl 2 rfl) ?_
          refine rz_cne (tgt := 199) hx hb dX5_fits_165 (by decide) (by omega) (by omega) (fun c8 => ?_) (fun c8 => ?_)
          · refine lv_iconst (v := iI (((1 : Nat) : Int))) hx hb dX5_fits_199 (by decide +kernel) ?_
            refine lv_goto (tgt := 204) hx hb dX5_fits_200 (by decide) ?_
            refine lv_istore (lv' := [(5, .int (iI (((1 : Nat) : Int)))), (0, .ref hM), (1, .int (iI (((b : Nat) : Int)))), (2, .int (iI (((gt b : Nat) : Int)))), (3, .int (iI (((gs b : Nat) : Int)))), (4, .int (iI (((gs b + ln b : Nat) : Int)))), (6, .int (iI (((i : Nat) : Int))))]) hx hb dX5_fits_204 hl (by decide) rfl (fun ls hl => ?_)
            refine lv_iinc (v := iI (((i + 1 : Nat) : Int))) (lv' := [(6, .int (iI (((i + 1 : Nat) : Int)))), (5, .int (iI (((1 : Nat) : Int)))), (0, .ref hM), (1, .int (iI (((b : Nat) : Int)))), (2, .int (iI (((gt b : Nat) : Int)))), (3, .int (iI (((gs b : Nat) : Int)))), (4, .int (iI (((gs b + ln b : Nat) : Int))))]) hx hb dX5_fits_206 hl (k := 6) rfl (iI_inc _) (by decide) rfl (fun ls hl => ?_)
            refine lv_goto (tgt := 146) hx hb dX5_fits_209 (by decide) ?_
            exact ih (i + 1) (true) (by omega) (by omega) (by first | exact bl_t hf (by assumption) (by unfold FitC; omega) | exact bl_f (fun q => by unfold FitC at q; omega)) _ _ _ hP hD hS (lv_sub hl [2, 3, 4, 5, 6, 1, 0] rfl)
          · refine lv_iload hx hb dX5_fits_168 (lv_at hl 4 rfl) ?_
            refine lv_aload_n hx hb dX5_fits_170 rfl (lv_at hl 0 rfl) ?_
            refine va_get (D := D) (ci := 5) (v := .ref yH) (C := RX5) (T := TX5) (N := 34) hx hb hts in_X5 hown hK hP 0 rfl rfl 24 (by decide) (hts _ (List.mem_cons_of_mem _ tf_X5_62)) (fun _ h9 => h9) rfl dX5_fits_171 ?_
            refine lv_iload hx hb dX5_fits_174 (lv_at hl 6 rfl) ?_
            refine rn_aldM hx hb hK hP 10 0 rfl rfl (by omega) (by omega) dX5_fits_176 ?_
            refine rz_cle (tgt := 199) hx hb dX5_fits_177 (by decide) (by omega) (by omega) (fun c9 => ?_) (fun c9 => ?_)
            · refine lv_iconst (v := iI (((1 : Nat) : Int))) hx hb dX5_fits_199 (by decide +kernel) ?_
              refine lv_goto (tgt := 204) hx hb dX5_fits_200 (by decide) ?_
              refine lv_istore (lv' := [(5, .int (iI (((1 : Nat) : Int)))), (0, .ref hM), (1, .int (iI (((b : Nat) : Int)))), (2, .int (iI (((gt b : Nat) : Int)))), (3, .int (iI (((gs b : Nat) : Int)))), (4, .int (iI (((gs b + ln b : Nat) : Int)))), (6, .int (iI (((i : Nat) : Int))))]) hx hb dX5_fits_204 hl (by decide) rfl (fun ls hl => ?_)
              refine lv_iinc (v := iI (((i + 1 : Nat) : Int))) (lv' := [(6, .int (iI (((i + 1 : Nat) : Int)))), (5, .int (iI (((1 : Nat) : Int)))), (0, .ref hM), (1, .int (iI (((b : Nat) : Int)))), (2, .int (iI (((gt b : Nat) : Int)))), (3, .int (iI (((gs b : Nat) : Int)))), (4, .int (iI (((gs b + ln b : Nat) : Int))))]) hx hb dX5_fits_206 hl (k := 6) rfl (iI_inc _) (by decide) rfl (fun ls hl => ?_)
              refine lv_goto (tgt := 146) hx hb dX5_fits_209 (by decide) ?_
              exact ih (i + 1) (true) (by omega) (by omega) (by first | exact bl_t hf (by assumption) (by unfold FitC; omega) | exact bl_f (fun q => by unfold FitC at q; omega)) _ _ _ hP hD hS (lv_sub hl [2, 3, 4, 5, 6, 1, 0] rfl)
            · refine lv_iload_n hx hb dX5_fits_180 rfl (lv_at hl 3 rfl) ?_
              refine lv_aload_n hx hb dX5_fits_181 rfl (lv_at hl 0 rfl) ?_
              refine va_get (D := D) (ci := 5) (v := .ref yH) (C := RX5) (T := TX5) (N := 34) hx hb hts in_X5 hown hK hP 0 rfl rfl 24 (by decide) (hts _ (List.mem_cons_of_mem _ tf_X5_62)) (fun _ h9 => h9) rfl dX5_fits_182 ?_
              refine lv_iload hx hb dX5_fits_185 (lv_at hl 6 rfl) ?_
              refine rn_aldM hx hb hK hP 10 0 rfl rfl (by omega) (by omega) dX5_fits_187 ?_
              refine lv_aload_n hx hb dX5_fits_188 rfl (lv_at hl 0 rfl) ?_
              refine va_get (D := D) (ci := 5) (v := .ref yL) (C := RX5) (T := TX5) (N := 34) hx hb hts in_X5 hown hK hP 0 rfl rfl 2 (by decide) (hts _ (List.mem_cons_of_mem _ tf_X5_7)) (fun _ h9 => h9) rfl dX5_fits_189 ?_
              refine lv_iload hx hb dX5_fits_192 (lv_at hl 6 rfl) ?_
              refine rn_aldM hx hb hK hP 1 0 rfl rfl (by omega) (by omega) dX5_fits_194 ?_
              refine rn_add hx hb dX5_fits_195 ?_
              refine rz_clt (tgt := 203) hx hb dX5_fits_196 (by decide) (by omega) (by omega) (fun c10 => ?_) (fun c10 => ?_)
              · refine lv_iconst (v := iI (((0 : Nat) : Int))) hx hb dX5_fits_203 (by decide +kernel) ?_
                refine lv_istore (lv' := [(5, .int (iI (((0 : Nat) : Int)))), (0, .ref hM), (1, .int (iI (((b : Nat) : Int)))), (2, .int (iI (((gt b : Nat) : Int)))), (3, .int (iI (((gs b : Nat) : Int)))), (4, .int (iI (((gs b + ln b : Nat) : Int)))), (6, .int (iI (((i : Nat) : Int))))]) hx hb dX5_fits_204 hl (by decide) rfl (fun ls hl => ?_)
                refine lv_iinc (v := iI (((i + 1 : Nat) : Int))) (lv' := [(6, .int (iI (((i + 1 : Nat) : Int)))), (5, .int (iI (((0 : Nat) : Int)))), (0, .ref hM), (1, .int (iI (((b : Nat) : Int)))), (2, .int (iI (((gt b : Nat) : Int)))), (3, .int (iI (((gs b : Nat) : Int)))), (4, .int (iI (((gs b + ln b : Nat) : Int))))]) hx hb dX5_fits_206 hl (k := 6) rfl (iI_inc _) (by decide) rfl (fun ls hl => ?_)
                refine lv_goto (tgt := 146) hx hb dX5_fits_209 (by decide) ?_
                exact ih (i + 1) (false) (by omega) (by omega) (by first | exact bl_t hf (by assumption) (by unfold FitC; omega) | exact bl_f (fun q => by unfold FitC at q; omega)) _ _ _ hP hD hS (lv_sub hl [2, 3, 4, 5, 6, 1, 0] rfl)
              · refine lv_iconst (v := iI (((1 : Nat) : Int))) hx hb dX5_fits_199 (by decide +kernel) ?_
                refine lv_goto (tgt := 204) hx hb dX5_fits_200 (by decide) ?_
                refine lv_istore (lv' := [(5, .int (iI (((1 : Nat) : Int)))), (0, .ref hM), (1, .int (iI (((b : Nat) : Int)))), (2, .int (iI (((gt b : Nat) : Int)))), (3, .int (iI (((gs b : Nat) : Int)))), (4, .int (iI (((gs b + ln b : Nat) : Int)))), (6, .int (iI (((i : Nat) : Int))))]) hx hb dX5_fits_204 hl (by decide) rfl (fun ls hl => ?_)
                refine lv_iinc (v := iI (((i + 1 : Nat) : Int))) (lv' := [(6, .int (iI (((i + 1 : Nat) : Int)))), (5, .int (iI (((1 : Nat) : Int)))), (0, .ref hM), (1, .int (iI (((b : Nat) : Int)))), (2, .int (iI (((gt b : Nat) : Int)))), (3, .int (iI (((gs b : Nat) : Int)))), (4, .int (iI (((gs b + ln b : Nat) : Int))))]) hx hb dX5_fits_206 hl (k := 6) rfl (iI_inc _) (by decide) rfl (fun ls hl => ?_)
                refine lv_goto (tgt := 146) hx hb dX5_fits_209 (by decide) ?_
                exact ih (i + 1) (true) (by omega) (by omega) (by first | exact bl_t hf (by assumption) (by unfold FitC; omega) | exact bl_f (fun q => by unfold FitC at q; omega)) _ _ _ hP hD hS (lv_sub hl [2, 3, 4, 5, 6, 1, 0] rfl)
  have K82 : ∀ (fu : Nat) (i : Nat) (fb : Bool), no - i < fu → (i ≤ no) → (fb = true ↔ (FitU dd ln tk sd ea fz gt gs b ∧ ∀ u, u < i → FitO ln ot of_ oo gt gs b u)) → ∀ (H : Heap) (locs : List Loc) (ls : Array Slot), va_P D vwCl [(hM, .inr (5, [.int (iI (((T : Nat) : Int))), .int (iI (((dd : Nat) : Int))), .ref yL, .ref yT, .ref yS, .ref yE, .ref yF, .int (iI (((n : Nat) : Int))), .ref yK, .ref yA, .ref yB, .ref yD, .int (iI (((nr : Nat) : Int))), .ref yO, .ref yP, .ref yQ, .int (iI (((no : Nat) : Int))), .ref yU, .ref yV, .int (iI (((un : Nat) : Int))), .ref yC, .ref yW, .int (iI (((cp : Nat) : Int))), .ref yG, .ref yH, .ref yI, .ref yJ, .int (iI (((bc : Nat) : Int))), .int (iI (((bk : Nat) : Int))), .int (iI (b2z (th))), .int (iI (wo)), .ref yN, .int (iI (((bd : Nat) : Int))), .long (co)])), ce_i yL cI 4 (nZ (ln)), ce_i yT cI 4 (nZ (tk)), ce_i yS cI 4 (nZ (sd)), ce_i yE cI 4 (nZ (ea)), ce_i yF cZ 4 (bZ (fz)), ce_i yO cI 12 (ot), ce_i yP cI 12 (of_), ce_i yQ cI 12 (oo), ce_i yG cI 4 (nZ (gt)), ce_i yH cI 4 (nZ (gs)), ce_i yK cI 8 (rk), ce_i yA cI 8 (ra), ce_i yB cI 8 (rb), ce_i yD cI 8 (rd)] H → va_D A [(hM, .inr (5, [.int (iI (((T : Nat) : Int))), .int (iI (((dd : Nat) : Int))), .ref yL, .ref yT, .ref yS, .ref yE, .ref yF, .int (iI (((n : Nat) : Int))), .ref yK, .ref yA, .ref yB, .ref yD, .int (iI (((nr : Nat) : Int))), .ref yO, .ref yP, .ref yQ, .int (iI (((no : Nat) : Int))), .ref yU, .ref yV, .int (iI (((un : Nat) : Int))), .ref yC, .ref yW, .int (iI (((cp : Nat) : Int))), .ref yG, .ref yH, .ref yI, .ref yJ, .int (iI (((bc : Nat) : Int))), .int (iI (((bk : Nat) : Int))), .int (iI (b2z (th))), .int (iI (wo)), .ref yN, .int (iI (((bd : Nat) : Int))), .long (co)])), ce_i yL cI 4 (nZ (ln)), ce_i yT cI 4 (nZ (tk)), ce_i yS cI 4 (nZ (sd)), ce_i yE cI 4 (nZ (ea)), ce_i yF cZ 4 (bZ (fz)), ce_i yO cI 12 (ot), ce_i yP cI 12 (of_), ce_i yQ cI 12 (oo), ce_i yG cI 4 (nZ (gt)), ce_i yH cI 4 (nZ (gs)), ce_i yK cI 8 (rk), ce_i yA cI 8 (ra), ce_i yB cI 8 (rb), ce_i yD cI 8 (rd)] → va_S A s.heap H locs → lv_has ls 7 [(0, .ref hM), (1, .int (iI (((b : Nat) : Int)))), (2, .int (iI (((gt b : Nat) : Int)))), (3, .int (iI (((gs b : Nat) : Int)))), (4, .int (iI (((gs b + ln b : Nat) : Int)))), (5, .int (iI (b2z (fb)))), (6, .int (iI (((i : Nat) : Int))))] → W p l e (rmD 1) s m ([.ref hM, .int (iI (((b : Nat) : Int)))] : List Value).toArray below meth c H locs 0 0 Q (F0 m 82 ls []) := by
    intro fu
    induction fu with
    | zero => intro i fb hmu; exact absurd hmu (Nat.not_lt_zero _)
    | succ fu ih =>
      intro i fb hmu hi hf H locs ls hP hD hS hl
      have g1 := hgs10 b
      have g2 := hgt10 b
      have l1 := hln b
      have o1 := hout i
      refine lv_iload hx hb dX5_fits_82 (lv_at hl 6 rfl) ?_
      refine lv_aload_n hx hb dX5_fits_84 rfl (lv_at hl 0 rfl) ?_
      refine va_get (D := D) (ci := 5) (v := .int (iI (((no : Nat) : Int)))) (C := RX5) (T := TX5) (N := 34) hx hb hts in_X5 hown hK hP 0 rfl rfl 16 (by decide) (hts _ (List.mem_cons_of_mem _ tf_X5_91)) (fun _ h9 => h9) rfl dX5_fits_85 ?_
      refine rz_cge (tgt := 143) hx hb dX5_fits_88 (by decide) (by omega) (by omega) (fun c11 => ?_) (fun c11 => ?_)
      · refine lv_iconst (v := iI (((0 : Nat) : Int))) hx hb dX5_fits_143 (by decide +kernel) ?_
        refine lv_istore (lv' := [(6, .int (iI (((0 : Nat) : Int)))), (0, .ref hM), (1, .int (iI (((b : Nat) : Int)))), (2, .int (iI (((gt b : Nat) : Int)))), (3, .int (iI (((gs b : Nat) : Int)))), (4, .int (iI (((gs b + ln b : Nat) : Int)))), (5, .int (iI (b2z (fb))))]) hx hb dX5_fits_144 hl (by decide) rfl (fun ls hl => ?_)
        exact K146 (b - (0) + 1) (0) (fb) (Nat.lt_succ_self _) (by omega) (bl_0 (bl_end hf (by omega) (by first | exact Or.inr (by assumption) | exact Or.inl (by omega)))) _ _ _ hP hD hS (lv_sub hl [1, 2, 3, 4, 5, 6, 0] rfl)
      · refine lv_iload hx hb dX5_fits_91 (lv_at hl 5 rfl) ?_
        refine rz_beq (z := fb) (tgt := 143) hx hb dX5_fits_93 (by decide) (fun c12 => ?_) (fun c12 => ?_)
        · refine lv_iconst (v := iI (((0 : Nat) : Int))) hx hb dX5_fits_143 (by decide +kernel) ?_
          refine lv_istore (lv' := [(6, .int (iI (((0 : Nat) : Int)))), (0, .ref hM), (1, .int (iI (((b : Nat) : Int)))), (2, .int (iI (((gt b : Nat) : Int)))), (3, .int (iI (((gs b : Nat) : Int)))), (4, .int (iI (((gs b + ln b : Nat) : Int)))), (5, .int (iI (b2z (fb))))]) hx hb dX5_fits_144 hl (by decide) rfl (fun ls hl => ?_)
          exact K146 (b - (0) + 1) (0) (fb) (Nat.lt_succ_self _) (by omega) (bl_0 (bl_end hf (by omega) (by first | exact Or.inr (by assumption) | exact Or.inl (by omega)))) _ _ _ hP hD hS (lv_sub hl [1, 2, 3, 4, 5, 6, 0] rfl)
        · refine lv_aload_n hx hb dX5_fits_96 rfl (lv_at hl 0 rfl) ?_
          refine va_get (D := D) (ci := 5) (v := .ref yO) (C := RX5) (T := TX5) (N := 34) hx hb hts in_X5 hown hK hP 0 rfl rfl 13 (by decide) (hts _ (List.mem_cons_of_mem _ tf_X5_38)) (fun _ h9 => h9) rfl dX5_fits_97 ?_
          refine lv_iload hx hb dX5_fits_100 (lv_at hl 6 rfl) ?_
          refine rn_ald hx hb hK hP 6 0 rfl rfl (by omega) (by omega) dX5_fits_102 ?_
          refine lv_iload_n hx hb dX5_fits_103 rfl (lv_at hl 2 rfl) ?_
          refine rz_cne (tgt := 130) hx hb dX5_fits_104 (by decide) (by omega) (by omega) (fun c13 => ?_) (fun c13 => ?_)
          · refine lv_iconst (v := iI (((1 : Nat) : Int))) hx hb dX5_fits_130 (by decide +kernel) ?_
            refine lv_goto (tgt := 135) hx hb dX5_fits_131 (by decide) ?_
            refine lv_istore (lv' := [(5, .int (iI (((1 : Nat) : Int)))), (0, .ref hM), (1, .int (iI (((b : Nat) : Int)))), (2, .int (iI (((gt b : Nat) : Int)))), (3, .int (iI (((gs b : Nat) : Int)))), (4, .int (iI (((gs b + ln b : Nat) : Int)))), (6, .int (iI (((i : Nat) : Int))))]) hx hb dX5_fits_135 hl (by decide) rfl (fun ls hl => ?_)
            refine lv_iinc (v := iI (((i + 1 : Nat) : Int))) (lv' := [(6, .int (iI (((i + 1 : Nat) : Int)))), (5, .int (iI (((1 : Nat) : Int)))), (0, .ref hM), (1, .int (iI (((b : Nat) : Int)))), (2, .int (iI (((gt b : Nat) : Int)))), (3, .int (iI (((gs b : Nat) : Int)))), (4, .int (iI (((gs b + ln b : Nat) : Int))))]) hx hb dX5_fits_137 hl (k := 6) rfl (iI_inc _) (by decide) rfl (fun ls hl => ?_)
            refine lv_goto (tgt := 82) hx hb dX5_fits_140 (by decide) ?_
            exact ih (i + 1) (true) (by omega) (by omega) (by first | exact bl_t hf (by assumption) (by unfold FitO; omega) | exact bl_f (fun q => by unfold FitO at q; omega)) _ _ _ hP hD hS (lv_sub hl [2, 3, 4, 5, 6, 1, 0] rfl)
          · refine lv_iload hx hb dX5_fits_107 (lv_at hl 4 rfl) ?_
            refine lv_aload_n hx hb dX5_fits_109 rfl (lv_at hl 0 rfl) ?_
            refine va_get (D := D) (ci := 5) (v := .ref yP) (C := RX5) (T := TX5) (N := 34) hx hb hts in_X5 hown hK hP 0 rfl rfl 14 (by decide) (hts _ (List.mem_cons_of_mem _ tf_X5_41)) (fun _ h9 => h9) rfl dX5_fits_110 ?_
            refine lv_iload hx hb dX5_fits_113 (lv_at hl 6 rfl) ?_
            refine rn_ald hx hb hK hP 7 0 rfl rfl (by omega) (by omega) dX5_fits_115 ?_
            refine rz_cle (tgt := 130) hx hb dX5_fits_116 (by decide) (by omega) (by omega) (fun c14 => ?_) (fun c14 => ?_)
            · refine lv_iconst (v := iI (((1 : Nat) : Int))) hx hb dX5_fits_130 (by decide +kernel) ?_
              refine lv_goto (tgt := 135) hx hb dX5_fits_131 (by decide) ?_
              refine lv_istore (lv' := [(5, .int (iI (((1 : Nat) : Int)))), (0, .ref hM), (1, .int (iI (((b : Nat) : Int)))), (2, .int (iI (((gt b : Nat) : Int)))), (3, .int (iI (((gs b : Nat) : Int)))), (4, .int (iI (((gs b + ln b : Nat) : Int)))), (6, .int (iI (((i : Nat) : Int))))]) hx hb dX5_fits_135 hl (by decide) rfl (fun ls hl => ?_)
              refine lv_iinc (v := iI (((i + 1 : Nat) : Int))) (lv' := [(6, .int (iI (((i + 1 : Nat) : Int)))), (5, .int (iI (((1 : Nat) : Int)))), (0, .ref hM), (1, .int (iI (((b : Nat) : Int)))), (2, .int (iI (((gt b : Nat) : Int)))), (3, .int (iI (((gs b : Nat) : Int)))), (4, .int (iI (((gs b + ln b : Nat) : Int))))]) hx hb dX5_fits_137 hl (k := 6) rfl (iI_inc _) (by decide) rfl (fun ls hl => ?_)
              refine lv_goto (tgt := 82) hx hb dX5_fits_140 (by decide) ?_
              exact ih (i + 1) (true) (by omega) (by omega) (by first | exact bl_t hf (by assumption) (by unfold FitO; omega) | exact bl_f (fun q => by unfold FitO at q; omega)) _ _ _ hP hD hS (lv_sub hl [2, 3, 4, 5, 6, 1, 0] rfl)
            · refine lv_iload_n hx hb dX5_fits_119 rfl (lv_at hl 3 rfl) ?_
              refine lv_aload_n hx hb dX5_fits_120 rfl (lv_at hl 0 rfl) ?_
              refine va_get (D := D) (ci := 5) (v := .ref yQ) (C := RX5) (T := TX5) (N := 34) hx hb hts in_X5 hown hK hP 0 rfl rfl 15 (by decide) (hts _ (List.mem_cons_of_mem _ tf_X5_44)) (fun _ h9 => h9) rfl dX5_fits_121 ?_
              refine lv_iload hx hb dX5_fits_124 (lv_at hl 6 rfl) ?_
              refine rn_ald hx hb hK hP 8 0 rfl rfl (by omega) (by omega) dX5_fits_126 ?_
              refine rz_clt (tgt := 134) hx hb dX5_fits_127 (by decide) (by omega) (by omega) (fun c15 => ?_) (fun c15 => ?_)
              · refine lv_iconst (v := iI (((0 : Nat) : Int))) hx hb dX5_fits_134 (by decide +kernel) ?_
                refine lv_istore (lv' := [(5, .int (iI (((0 : Nat) : Int)))), (0, .ref hM), (1, .int (iI (((b : Nat) : Int)))), (2, .int (iI (((gt b : Nat) : Int)))), (3, .int (iI (((gs b : Nat) : Int)))), (4, .int (iI (((gs b + ln b : Nat) : Int)))), (6, .int (iI (((i : Nat) : Int))))]) hx hb dX5_fits_135 hl (by decide) rfl (fun ls hl => ?_)
                refine lv_iinc (v := iI (((i + 1 : Nat) : Int))) (lv' := [(6, .int (iI (((i + 1 : Nat) : Int)))), (5, .int (iI (((0 : Nat) : Int)))), (0, .ref hM), (1, .int (iI (((b : Nat) : Int)))), (2, .int (iI (((gt b : Nat) : Int)))), (3, .int (iI (((gs b : Nat) : Int)))), (4, .int (iI (((gs b + ln b : Nat) : Int))))]) hx hb dX5_fits_137 hl (k := 6) rfl (iI_inc _) (by decide) rfl (fun ls hl => ?_)
                refine lv_goto (tgt := 82) hx hb dX5_fits_140 (by decide) ?_
                exact ih (i + 1) (false) (by omega) (by omega) (by first | exact bl_t hf (by assumption) (by unfold FitO; omega) | exact bl_f (fun q => by unfold FitO at q; omega)) _ _ _ hP hD hS (lv_sub hl [2, 3, 4, 5, 6, 1, 0] rfl)
              · refine lv_iconst (v := iI (((1 : Nat) : Int))) hx hb dX5_fits_130 (by decide +kernel) ?_
                refine lv_goto (tgt := 135) hx hb dX5_fits_131 (by decide) ?_
                refine lv_istore (lv' := [(5, .int (iI (((1 : Nat) : Int)))), (0, .ref hM), (1, .int (iI (((b : Nat) : Int)))), (2, .int (iI (((gt b : Nat) : Int)))), (3, .int (iI (((gs b : Nat) : Int)))), (4, .int (iI (((gs b + ln b : Nat) : Int)))), (6, .int (iI (((i : Nat) : Int))))]) hx hb dX5_fits_135 hl (by decide) rfl (fun ls hl => ?_)
                refine lv_iinc (v := iI (((i + 1 : Nat) : Int))) (lv' := [(6, .int (iI (((i + 1 : Nat) : Int)))), (5, .int (iI (((1 : Nat) : Int)))), (0, .ref hM), (1, .int (iI (((b : Nat) : Int)))), (2, .int (iI (((gt b : Nat) : Int)))), (3, .int (iI (((gs b : Nat) : Int)))), (4, .int (iI (((gs b + ln b : Nat) : Int))))]) hx hb dX5_fits_137 hl (k := 6) rfl (iI_inc _) (by decide) rfl (fun ls hl => ?_)
                refine lv_goto (tgt := 82) hx hb dX5_fits_140 (by decide) ?_
                exact ih (i + 1) (true) (by omega) (by omega) (by first | exact bl_t hf (by assumption) (by unfold FitO; omega) | exact bl_f (fun q => by unfold FitO at q; omega)) _ _ _ hP hD hS (lv_sub hl [2, 3, 4, 5, 6, 1, 0] rfl)
  have g1 := hgs10 b
  have g2 := hgt10 b
  have l1 := hln b
  have e1 := hea b
  have k1 := htk10 b
  have k2 := hsd10 b
  refine lv_aload_n hx hb dX5_fits_0 rfl (lv_at hl 0 rfl) ?_
  refine va_get (D := D) (ci := 5) (v := .ref yG) (C := RX5) (T := TX5) (N := 34) hx hb hts in_X5 hown hK hP 0 rfl rfl 23 (by decide) (hts _ (List.mem_cons_of_mem _ tf_X5_59)) (fun _ h9 => h9) rfl dX5_fits_1 ?_
  refine lv_iload_n hx hb dX5_fits_4 rfl (lv_at hl 1 rfl) ?_
  refine rn_aldM hx hb hK hP 9 0 rfl rfl (by omega) (by omega) dX5_fits_5 ?_
  refine lv_istore_n (lv' := [(2, .int (iI (((gt b : Nat) : Int)))), (0, .ref hM), (1, .int (iI (((b : Nat) : Int))))]) hx hb dX5_fits_6 rfl hl (by decide) rfl (fun ls hl => ?_)
  refine lv_aload_n hx hb dX5_fits_7 rfl (lv_at hl 1 rfl) ?_
  refine va_get (D := D) (ci := 5) (v := .ref yH) (C := RX5) (T := TX5) (N := 34) hx hb hts in_X5 hown hK hP 0 rfl rfl 24 (by decide) (hts _ (List.mem_cons_of_mem _ tf_X5_62)) (fun _ h9 => h9) rfl dX5_fits_8 ?_
  refine lv_iload_n hx hb dX5_fits_11 rfl (lv_at hl 2 rfl) ?_
  refine rn_aldM hx hb hK hP 10 0 rfl rfl (by omega) (by omega) dX5_fits_12 ?_
  refine lv_istore_n (lv' := [(3, .int (iI (((gs b : Nat) : Int)))), (2, .int (iI (((gt b : Nat) : Int)))), (0, .ref hM), (1, .int (iI (((b : Nat) : Int))))]) hx hb dX5_fits_13 rfl hl (by decide) rfl (fun ls hl => ?_)
  refine lv_iload_n hx hb dX5_fits_14 rfl (lv_at hl 0 rfl) ?_
  refine lv_aload_n hx hb dX5_fits_15 rfl (lv_at hl 2 rfl) ?_
  refine va_get (D := D) (ci := 5) (v := .ref yL) (C := RX5) (T := TX5) (N := 34) hx hb hts in_X5 hown hK hP 0 rfl rfl 2 (by decide) (hts _ (List.mem_cons_of_mem _ tf_X5_7)) (fun _ h9 => h9) rfl dX5_fits_16 ?_
  refine lv_iload_n hx hb dX5_fits_19 rfl (lv_at hl 3 rfl) ?_
  refine rn_aldM hx hb hK hP 1 0 rfl rfl (by omega) (by omega) dX5_fits_20 ?_
  refine rn_add hx hb dX5_fits_21 ?_
  refine lv_istore (lv' := [(4, .int (iI ((((gs b) + (ln b) : Nat) : Int)))), (3, .int (iI (((gs b : Nat) : Int)))), (2, .int (iI (((gt b : Nat) : Int)))), (0, .ref hM), (1, .int (iI (((b : Nat) : Int))))]) hx hb dX5_fits_22 hl (by decide) rfl (fun ls hl => ?_)
  refine lv_iload hx hb dX5_fits_24 (lv_at hl 0 rfl) ?_
  refine lv_aload_n hx hb dX5_fits_26 rfl (lv_at hl 3 rfl) ?_
  refine va_get (D := D) (ci := 5) (v := .int (iI (((dd : Nat) : Int)))) (C := RX5) (T := TX5) (N := 34) hx hb hts in_X5 hown hK hP 0 rfl rfl 1 (by decide) (hts _ (List.mem_cons_of_mem _ tf_X5_78)) (fun _ h9 => h9) rfl dX5_fits_27 ?_
  refine rz_cgt (tgt := 76) hx hb dX5_fits_30 (by decide) (by omega) (by omega) (fun c16 => ?_) (fun c16 => ?_)
  · refine lv_iconst (v := iI (((0 : Nat) : Int))) hx hb dX5_fits_76 (by decide +kernel) ?_
    refine lv_istore (lv' := [(5, .int (iI (((0 : Nat) : Int)))), (4, .int (iI ((((gs b) + (ln b) : Nat) : Int)))), (3, .int (iI (((gs b : Nat) : Int)))), (2, .int (iI (((gt b : Nat) : Int)))), (0, .ref hM), (1, .int (iI (((b : Nat) : Int))))]) hx hb dX5_fits_77 hl (by decide) rfl (fun ls hl => ?_)
    refine lv_iconst (v := iI (((0 : Nat) : Int))) hx hb dX5_fits_79 (by decide +kernel) ?_
    refine lv_istore (lv' := [(6, .int (iI (((0 : Nat) : Int)))), (5, .int (iI (((0 : Nat) : Int)))), (4, .int (iI ((((gs b) + (ln b) : Nat) : Int)))), (3, .int (iI (((gs b : Nat) : Int)))), (2, .int (iI (((gt b : Nat) : Int)))), (0, .ref hM), (1, .int (iI (((b : Nat) : Int))))]) hx hb dX5_fits_80 hl (by decide) rfl (fun ls hl => ?_)
    exact K82 (no - (0) + 1) (0) (false) (Nat.lt_succ_self _) (by omega) (by first | exact ⟨fun _ => ⟨⟨by omega, by omega, (by first | exact (fun _ => ⟨by omega, by omega⟩) | exact (fun h => by simp_all))⟩, fun i h => absurd h (Nat.not_lt_zero _)⟩, fun _ => rfl⟩ | exact ⟨(fun h => nomatch h), fun h => by obtain ⟨⟨h1, h2, h3⟩, -⟩ := h; exfalso; first | omega | (have := h3 (by assumption); omega)⟩) _ _ _ hP hD hS (lv_sub hl [5, 6, 4, 3, 2, 1, 0] rfl)
  · refine lv_iload_n hx hb dX5_fits_33 rfl (lv_at hl 1 rfl) ?_
    refine lv_aload_n hx hb dX5_fits_34 rfl (lv_at hl 3 rfl) ?_
    refine va_get (D := D) (ci := 5) (v := .ref yE) (C := RX5) (T := TX5) (N := 34) hx hb hts in_X5 hown hK hP 0 rfl rfl 5 (by decide) (hts _ (List.mem_cons_of_mem _ tf_X5_19)) (fun _ h9 => h9) rfl dX5_fits_35 ?_
    refine lv_iload_n hx hb dX5_fits_38 rfl (lv_at hl 4 rfl) ?_
    refine rn_aldM hx hb hK hP 4 0 rfl rfl (by omega) (by omega) dX5_fits_39 ?_
    refine rz_clt (tgt := 76) hx hb dX5_fits_40 (by decide) (by omega) (by omega) (fun c17 => ?_) (fun c17 => ?_)
    · refine lv_iconst (v := iI (((0 : Nat) : Int))) hx hb dX5_fits_76 (by decide +kernel) ?_
      refine lv_istore (lv' := [(5, .int (iI (((0 : Nat) : Int)))), (4, .int (iI ((((gs b) + (ln b) : Nat) : Int)))), (3, .int (iI (((gs b : Nat) : Int)))), (2, .int (iI (((gt b : Nat) : Int)))), (0, .ref hM), (1, .int (iI (((b : Nat) : Int))))]) hx hb dX5_fits_77 hl (by decide) rfl (fun ls hl => ?_)
      refine lv_iconst (v := iI (((0 : Nat) : Int))) hx hb dX5_fits_79 (by decide +kernel) ?_
      refine lv_istore (lv' := [(6, .int (iI (((0 : Nat) : Int)))), (5, .int (iI (((0 : Nat) : Int)))), (4, .int (iI ((((gs b) + (ln b) : Nat) : Int)))), (3, .int (iI (((gs b : Nat) : Int)))), (2, .int (iI (((gt b : Nat) : Int)))), (0, .ref hM), (1, .int (iI (((b : Nat) : Int))))]) hx hb dX5_fits_80 hl (by decide) rfl (fun ls hl => ?_)
      exact K82 (no - (0) + 1) (0) (false) (Nat.lt_succ_self _) (by omega) (by first | exact ⟨fun _ => ⟨⟨by omega, by omega, (by first | exact (fun _ => ⟨by omega, by omega⟩) | exact (fun h => by simp_all))⟩, fun i h => absurd h (Nat.not_lt_zero _)⟩, fun _ => rfl⟩ | exact ⟨(fun h => nomatch h), fun h => by obtain ⟨⟨h1, h2, h3⟩, -⟩ := h; exfalso; first | omega | (have := h3 (by assumption); omega)⟩) _ _ _ hP hD hS (lv_sub hl [5, 6, 4, 3, 2, 1, 0] rfl)
    · refine lv_aload_n hx hb dX5_fits_43 rfl (lv_at hl 3 rfl) ?_
      refine va_get (D := D) (ci := 5) (v := .ref yF) (C := RX5) (T := TX5) (N := 34) hx hb hts in_X5 hown hK hP 0 rfl rfl 6 (by decide) (hts _ (List.mem_cons_of_mem _ tf_X5_22)) (fun _ h9 => h9) rfl dX5_fits_44 ?_
      refine lv_iload_n hx hb dX5_fits_47 rfl (lv_at hl 4 rfl) ?_
      refine rn_zld hx hb hK hP 5 1 rfl rfl (by omega) (by omega) dX5_fits_48 ?_
      refine rz_beq (z := fz b) (tgt := 72) hx hb dX5_fits_49 (by decide) (fun c18 => ?_) (fun c18 => ?_)
      · refine lv_iconst (v := iI (((1 : Nat) : Int))) hx hb dX5_fits_72 (by decide +kernel) ?_
        refine lv_goto (tgt := 77) hx hb dX5_fits_73 (by decide) ?_
        refine lv_istore (lv' := [(5, .int (iI (((1 : Nat) : Int)))), (4, .int (iI ((((gs b) + (ln b) : Nat) : Int)))), (3, .int (iI (((gs b : Nat) : Int)))), (2, .int (iI (((gt b : Nat) : Int)))), (0, .ref hM), (1, .int (iI (((b : Nat) : Int))))]) hx hb dX5_fits_77 hl (by decide) rfl (fun ls hl => ?_)
        refine lv_iconst (v := iI (((0 : Nat) : Int))) hx hb dX5_fits_79 (by decide +kernel) ?_
        refine lv_istore (lv' := [(6, .int (iI (((0 : Nat) : Int)))), (5, .int (iI (((1 : Nat) : Int)))), (4, .int (iI ((((gs b) + (ln b) : Nat) : Int)))), (3, .int (iI (((gs b : Nat) : Int)))), (2, .int (iI (((gt b : Nat) : Int)))), (0, .ref hM), (1, .int (iI (((b : Nat) : Int))))]) hx hb dX5_fits_80 hl (by decide) rfl (fun ls hl => ?_)
        exact K82 (no - (0) + 1) (0) (true) (Nat.lt_succ_self _) (by omega) (by first | exact ⟨fun _ => ⟨⟨by omega, by omega, (by first | exact (fun _ => ⟨by omega, by omega⟩) | exact (fun h => by simp_all))⟩, fun i h => absurd h (Nat.not_lt_zero _)⟩, fun _ => rfl⟩ | exact ⟨(fun h => nomatch h), fun h => by obtain ⟨⟨h1, h2, h3⟩, -⟩ := h; exfalso; first | omega | (have := h3 (by assumption); omega)⟩) _ _ _ hP hD hS (lv_sub hl [5, 6, 4, 3, 2, 1, 0] rfl)
      · refine lv_iload_n hx hb dX5_fits_52 rfl (lv_at hl 2 rfl) ?_
        refine lv_aload_n hx hb dX5_fits_53 rfl (lv_at hl 3 rfl) ?_
        refine va_get (D := D) (ci := 5) (v := .ref yT) (C := RX5) (T := TX5) (N := 34) hx hb hts in_X5 hown hK hP 0 rfl rfl 3 (by decide) (hts _ (List.mem_cons_of_mem _ tf_X5_13)) (fun _ h9 => h9) rfl dX5_fits_54 ?_
        refine lv_iload_n hx hb dX5_fits_57 rfl (lv_at hl 4 rfl) ?_
        refine rn_aldM hx hb hK hP 2 0 rfl rfl (by omega) (by omega) dX5_fits_58 ?_
        refine rz_cne (tgt := 76) hx hb dX5_fits_59 (by decide) (by omega) (by omega) (fun c19 => ?_) (fun c19 => ?_)
        · refine lv_iconst (v := iI (((0 : Nat) : Int))) hx hb dX5_fits_76 (by decide +kernel) ?_
          refine lv_istore (lv' := [(5, .int (iI (((0 : Nat) : Int)))), (4, .int (iI ((((gs b) + (ln b) : Nat) : Int)))), (3, .int (iI (((gs b : Nat) : Int)))), (2, .int (iI (((gt b : Nat) : Int)))), (0, .ref hM), (1, .int (iI (((b : Nat) : Int))))]) hx hb dX5_fits_77 hl (by decide) rfl (fun ls hl => ?_)
          refine lv_iconst (v := iI (((0 : Nat) : Int))) hx hb dX5_fits_79 (by decide +kernel) ?_
          refine lv_istore (lv' := [(6, .int (iI (((0 : Nat) : Int)))), (5, .int (iI (((0 : Nat) : Int)))), (4, .int (iI ((((gs b) + (ln b) : Nat) : Int)))), (3, .int (iI (((gs b : Nat) : Int)))), (2, .int (iI (((gt b : Nat) : Int)))), (0, .ref hM), (1, .int (iI (((b : Nat) : Int))))]) hx hb dX5_fits_80 hl (by decide) rfl (fun ls hl => ?_)
          exact K82 (no - (0) + 1) (0) (false) (Nat.lt_succ_self _) (by omega) (by first | exact ⟨fun _ => ⟨⟨by omega, by omega, (by first | exact (fun _ => ⟨by omega, by omega⟩) | exact (fun h => by simp_all))⟩, fun i h => absurd h (Nat.not_lt_zero _)⟩, fun _ => rfl⟩ | exact ⟨(fun h => nomatch h), fun h => by obtain ⟨⟨h1, h2, h3⟩, -⟩ := h; exfalso; first | omega | (have := h3 (by assumption); omega)⟩) _ _ _ hP hD hS (lv_sub hl [5, 6, 4, 3, 2, 1, 0] rfl)
        · refine lv_iload_n hx hb dX5_fits_62 rfl (lv_at hl 1 rfl) ?_
          refine lv_aload_n hx hb dX5_fits_63 rfl (lv_at hl 3 rfl) ?_
          refine va_get (D := D) (ci := 5) (v := .ref yS) (C := RX5) (T := TX5) (N := 34) hx hb hts in_X5 hown hK hP 0 rfl rfl 4 (by decide) (hts _ (List.mem_cons_of_mem _ tf_X5_16)) (fun _ h9 => h9) rfl dX5_fits_64 ?_
          refine lv_iload_n hx hb dX5_fits_67 rfl (lv_at hl 4 rfl) ?_
          refine rn_aldM hx hb hK hP 3 0 rfl rfl (by omega) (by omega) dX5_fits_68 ?_
          refine rz_cne (tgt := 76) hx hb dX5_fits_69 (by decide) (by omega) (by omega) (fun c20 => ?_) (fun c20 => ?_)
          · refine lv_iconst (v := iI (((0 : Nat) : Int))) hx hb dX5_fits_76 (by decide +kernel) ?_
            refine lv_istore (lv' := [(5, .int (iI (((0 : Nat) : Int)))), (4, .int (iI ((((gs b) + (ln b) : Nat) : Int)))), (3, .int (iI (((gs b : Nat) : Int)))), (2, .int (iI (((gt b : Nat) : Int)))), (0, .ref hM), (1, .int (iI (((b : Nat) : Int))))]) hx hb dX5_fits_77 hl (by decide) rfl (fun ls hl => ?_)
            refine lv_iconst (v := iI (((0 : Nat) : Int))) hx hb dX5_fits_79 (by decide +kernel) ?_
            refine lv_istore (lv' := [(6, .int (iI (((0 : Nat) : Int)))), (5, .int (iI (((0 : Nat) : Int)))), (4, .int (iI ((((gs b) + (ln b) : Nat) : Int)))), (3, .int (iI (((gs b : Nat) : Int)))), (2, .int (iI (((gt b : Nat) : Int)))), (0, .ref hM), (1, .int (iI (((b : Nat) : Int))))]) hx hb dX5_fits_80 hl (by decide) rfl (fun ls hl => ?_)
            exact K82 (no - (0) + 1) (0) (false) (Nat.lt_succ_self _) (by omega) (by first | exact ⟨fun _ => ⟨⟨by omega, by omega, (by first | exact (fun _ => ⟨by omega, by omega⟩) | exact (fun h => by simp_all))⟩, fun i h => absurd h (Nat.not_lt_zero _)⟩, fun _ => rfl⟩ | exact ⟨(fun h => nomatch h), fun h => by obtain ⟨⟨h1, h2, h3⟩, -⟩ := h; exfalso; first | omega | (have := h3 (by assumption); omega)⟩) _ _ _ hP hD hS (lv_sub hl [5, 6, 4, 3, 2, 1, 0] rfl)
          · refine lv_iconst (v := iI (((1 : Nat) : Int))) hx hb dX5_fits_72 (by decide +kernel) ?_
            refine lv_goto (tgt := 77) hx hb dX5_fits_73 (by decide) ?_
            refine lv_istore (lv' := [(5, .int (iI (((1 : Nat) : Int)))), (4, .int (iI ((((gs b) + (ln b) : Nat) : Int)))), (3, .int (iI (((gs b : Nat) : Int)))), (2, .int (iI (((gt b : Nat) : Int)))), (0, .ref hM), (1, .int (iI (((b : Nat) : Int))))]) hx hb dX5_fits_77 hl (by decide) rfl (fun ls hl => ?_)
            refine lv_iconst (v := iI (((0 : Nat) : Int))) hx hb dX5_fits_79 (by decide +kernel) ?_
            refine lv_istore (lv' := [(6, .int (iI (((0 : Nat) : Int)))), (5, .int (iI (((1 : Nat) : Int)))), (4, .int (iI ((((gs b) + (ln b) : Nat) : Int)))), (3, .int (iI (((gs b : Nat) : Int)))), (2, .int (iI (((gt b : Nat) : Int)))), (0, .ref hM), (1, .int (iI (((b : Nat) : Int))))]) hx hb dX5_fits_80 hl (by decide) rfl (fun ls hl => ?_)
            exact K82 (no - (0) + 1) (0) (true) (Nat.lt_succ_self _) (by omega) (by first | exact ⟨fun _ => ⟨⟨by omega, by omega, (by first | exact (fun _ => ⟨by omega, by omega⟩) | exact (fun h => by simp_all))⟩, fun i h => absurd h (Nat.not_lt_zero _)⟩, fun _ => rfl⟩ | exact ⟨(fun h => nomatch h), fun h => by obtain ⟨⟨h1, h2, h3⟩, -⟩ := h; exfalso; first | omega | (have := h3 (by assumption); omega)⟩) _ _ _ hP hD hS (lv_sub hl [5, 6, 4, 3, 2, 1, 0] rfl)

set_option maxHeartbeats 4000000 in
set_option maxRecDepth 100000 in
theorem k_X5_judge (l : Launch) (D : va_G) (cI cZ : ClassId) (sz : Nat) (hM : Nat) (T : Nat) (dd : Nat) (yL : Nat) (yT : Nat) (yS : Nat) (yE : Nat) (yF : Nat) (n : Nat) (yK : Nat) (yA : Nat) (yB : Nat) (yD : Nat) (nr : Nat) (yO : Nat) (yP : Nat) (yQ : Nat) (no : Nat) (yU : Nat) (yV : Nat) (un : Nat) (yC : Nat) (yW : Nat) (cp : Nat) (yG : Nat) (yH : Nat) (yI : Nat) (yJ : Nat) (bc : Nat) (bk : Nat) (th : Bool) (wo : Int) (yN : Nat) (bd : Nat) (co : Int64) (tk : Nat → Nat) (sd : Nat → Nat) (gt : Nat → Nat) (gs : Nat → Nat) (bt : Nat → Nat) (bs : Nat → Nat) (hn : n ≤ 4) (htk10 : ∀ j, tk j < 10) (hsd10 : ∀ j, sd j < 10) (hgt10 : ∀ j, gt j < 10) (hgs10 : ∀ j, gs j < 10) (hbb : bc ≤ 4 ∧ bk ≤ 48) (hbt10 : ∀ j, bt j < 10) (hbs10 : ∀ j, bs j < 10) : Cv l yX5_judge wsX5_judge (rmD 0) D vwCl [(cI, .int), (cZ, .boolean)] [.ref hM] [(hM, .inr (5, [.int (iI (((T : Nat) : Int))), .int (iI (((dd : Nat) : Int))), .ref yL, .ref yT, .ref yS, .ref yE, .ref yF, .int (iI (((n : Nat) : Int))), .ref yK, .ref yA, .ref yB, .ref yD, .int (iI (((nr : Nat) : Int))), .ref yO, .ref yP, .ref yQ, .int (iI (((no : Nat) : Int))), .ref yU, .ref yV, .int (iI (((un : Nat) : Int))), .ref yC, .ref yW, .int (iI (((cp : Nat) : Int))), .ref yG, .ref yH, .ref yI, .ref yJ, .int (iI (((bc : Nat) : Int))), .int (iI (((bk : Nat) : Int))), .int (iI (b2z (th))), .int (iI (wo)), .ref yN, .int (iI (((bd : Nat) : Int))), .long (co)])), ce_i yT cI 4 (nZ (tk)), ce_i yS cI 4 (nZ (sd)), ce_i yG cI 4 (nZ (gt)), ce_i yH cI 4 (nZ (gs)), ce_i yI cI 4 (nZ (bt)), ce_i yJ cI 4 (nZ (bs))] sz (fun w => ∃ th2 : Bool, ∃ bc2 : Nat, ∃ bk2 : Nat, ∃ bt2 : Nat → Nat, ∃ bs2 : Nat → Nat, w = [(hM, .inr (5, [.int (iI (((T : Nat) : Int))), .int (iI (((dd : Nat) : Int))), .ref yL, .ref yT, .ref yS, .ref yE, .ref yF, .int (iI (((n : Nat) : Int))), .ref yK, .ref yA, .ref yB, .ref yD, .int (iI (((nr : Nat) : Int))), .ref yO, .ref yP, .ref yQ, .int (iI (((no : Nat) : Int))), .ref yU, .ref yV, .int (iI (((un : Nat) : Int))), .ref yC, .ref yW, .int (iI (((cp : Nat) : Int))), .ref yG, .ref yH, .ref yI, .ref yJ, .int (iI (((bc2 : Nat) : Int))), .int (iI (((bk2 : Nat) : Int))), .int (iI (b2z (th2))), .int (iI (wo)), .ref yN, .int (iI (((bd : Nat) : Int))), .long (co)])), ce_i yT cI 4 (nZ (tk)), ce_i yS cI 4 (nZ (sd)), ce_i yG cI 4 (nZ (gt)), ce_i yH cI 4 (nZ (gs)), ce_i yI cI 4 (nZ (bt2)), ce_i yJ cI 4 (nZ (bs2))] ∧ (Imp (plF tk sd) n (fun P => ∀ j, j < n → P j = gt j * 10 + gs j) (thW th bc bk) (plF bt bs) (thW th2 bc2 bk2) (plF bt2 bs2)) ∧ (bc2 ≤ 4 ∧ bk2 ≤ 48) ∧ (∀ j, bt2 j < 10) ∧ (∀ j, bs2 j < 10)) 0 0 := by
  refine Cv_of (cc := cX5_judge) (nL := 5) (by decide) rfl (Nat.le_of_ble_eq_true rfl) ?_
  intro p e s m below meth c A Q hsz C hK hN hA hP hD hS hin hret ls hl
  obtain ⟨hx, hb, hml, hown, hts⟩ := id C
  have hown : s.vm.findClass RX5 = some m.cls := hown
  have hl : lv_has ls 5 [(0, .ref hM)] := hl
  have in_X5 : ∀ w ∈ u_ws RX5 TX5 34, w ∈ wsX5_judge := fun w h => List.mem_cons_of_mem _ (inX5 w h)
  have K177 : ∀ (fu : Nat) (b : Nat), n - b < fu → (b ≤ n) → (64 * chF tk sd gt gs n + coF tk sd gt gs n < thW th bc bk) → ∀ (H : Heap) (locs : List Loc) (ls : Array Slot), va_P D vwCl [(hM, .inr (5, [.int (iI (((T : Nat) : Int))), .int (iI (((dd : Nat) : Int))), .ref yL, .ref yT, .ref yS, .ref yE, .ref yF, .int (iI (((n : Nat) : Int))), .ref yK, .ref yA, .ref yB, .ref yD, .int (iI (((nr : Nat) : Int))), .ref yO, .ref yP, .ref yQ, .int (iI (((no : Nat) : Int))), .ref yU, .ref yV, .int (iI (((un : Nat) : Int))), .ref yC, .ref yW, .int (iI (((cp : Nat) : Int))), .ref yG, .ref yH, .ref yI, .ref yJ, .int (iI (((chF tk sd gt gs n : Nat) : Int))), .int (iI (((coF tk sd gt gs n : Nat) : Int))), .int (iI (b2z (true))), .int (iI (wo)), .ref yN, .int (iI (((bd : Nat) : Int))), .long (co)])), ce_i yT cI 4 (nZ (tk)), ce_i yS cI 4 (nZ (sd)), ce_i yG cI 4 (nZ (gt)), ce_i yH cI 4 (nZ (gs)), ce_i yI cI 4 (nZ (mixN b gt bt)), ce_i yJ cI 4 (nZ (mixN b gs bs))] H → va_D A [(hM, .inr (5, [.int (iI (((T : Nat) : Int))), .int (iI (((dd : Nat) : Int))), .ref yL, .ref yT, .ref yS, .ref yE, .ref yF, .int (iI (((n : Nat) : Int))), .ref yK, .ref yA, .ref yB, .ref yD, .int (iI (((nr : Nat) : Int))), .ref yO, .ref yP, .ref yQ, .int (iI (((no : Nat) : Int))), .ref yU, .ref yV, .int (iI (((un : Nat) : Int))), .ref yC, .ref yW, .int (iI (((cp : Nat) : Int))), .ref yG, .ref yH, .ref yI, .ref yJ, .int (iI (((chF tk sd gt gs n : Nat) : Int))), .int (iI (((coF tk sd gt gs n : Nat) : Int))), .int (iI (b2z (true))), .int (iI (wo)), .ref yN, .int (iI (((bd : Nat) : Int))), .long (co)])), ce_i yT cI 4 (nZ (tk)), ce_i yS cI 4 (nZ (sd)), ce_i yG cI 4 (nZ (gt)), ce_i yH cI 4 (nZ (gs)), ce_i yI cI 4 (nZ (mixN b gt bt)), ce_i yJ cI 4 (nZ (mixN b gs bs))] → va_S A s.heap H locs → lv_has ls 5 [(0, .ref hM), (3, .int (iI (((b : Nat) : Int))))] → W p l e (rmD 0) s m ([.ref hM] : List Value).toArray below meth c H locs 0 0 Q (F0 m 177 ls []) := by
    intro fu
    induction fu with
    | zero => intro b hmu; exact absurd hmu (Nat.not_lt_zero _)
    | succ fu ih =>
      intro b hmu hb4 hlt H locs ls hP hD hS hl
      refine lv_iload_n hx hb dX5_judge_177 rfl (lv_at hl 1 rfl) ?_
      refine lv_aload_n hx hb dX5_judge_178 rfl (lv_at hl 0 rfl) ?_
      refine va_get (D := D) (ci := 5) (v := .int (iI (((n : Nat) : Int)))) (C := RX5) (T := TX5) (N := 34) hx hb hts in_X5 hown hK hP 0 rfl rfl 7 (by decide) (hts _ (List.mem_cons_of_mem _ tf_X5_81)) (fun _ h9 => h9) rfl dX5_judge_179 ?_
      refine rz_cge (tgt := 215) hx hb dX5_judge_182 (by decide) (by omega) (by omega) (fun c1 => ?_) (fun c1 => ?_)
      · exact hret _ _ _ _ _ dX5_judge_215 ⟨true, chF tk sd gt gs n, coF tk sd gt gs n, _, _, rfl, Or.inr ⟨plF gt gs, (fun _ _ => rfl), (by rw [wt_ref hgs10 hsd10]; rfl), (by rw [show thW true (chF tk sd gt gs n) (coF tk sd gt gs n) = 64 * chF tk sd gt gs n + coF tk sd gt gs n from rfl]; exact hlt), (fun j hj => by rw [show b = n by omega]; show mixN n gt bt j * 10 + mixN n gs bs j = _; rw [mixN_lt hj, mixN_lt hj]), (fun P h => ⟨by rw [WtF_congr n h]; exact Nat.le_of_eq (wt_ref hgs10 hsd10 n).symm, fun ⟨i, hi, hl9, _⟩ => by rw [h i hi] at hl9; exact absurd hl9 (Nat.lt_irrefl _)⟩)⟩, (by have x1 := chF_le (tk := tk) (sd := sd) (gt := gt) (gs := gs) n; have x2 := coF_le (tk := tk) (gt := gt) hgs10 hsd10 n; omega), mixN_all (Q := fun x => x < 10) hgt10 hbt10, mixN_all (Q := fun x => x < 10) hgs10 hbs10⟩ hP hD hS
      · refine lv_aload_n hx hb dX5_judge_185 rfl (lv_at hl 0 rfl) ?_
        refine va_get (D := D) (ci := 5) (v := .ref yI) (C := RX5) (T := TX5) (N := 34) hx hb hts in_X5 hown hK hP 0 rfl rfl 25 (by decide) (hts _ (List.mem_cons_of_mem _ tf_X5_65)) (fun _ h9 => h9) rfl dX5_judge_186 ?_
        refine lv_iload_n hx hb dX5_judge_189 rfl (lv_at hl 1 rfl) ?_
        refine lv_aload_n hx hb dX5_judge_190 rfl (lv_at hl 0 rfl) ?_
        refine va_get (D := D) (ci := 5) (v := .ref yG) (C := RX5) (T := TX5) (N := 34) hx hb hts in_X5 hown hK hP 0 rfl rfl 23 (by decide) (hts _ (List.mem_cons_of_mem _ tf_X5_59)) (fun _ h9 => h9) rfl dX5_judge_191 ?_
        refine lv_iload_n hx hb dX5_judge_194 rfl (lv_at hl 1 rfl) ?_
        refine rn_aldM hx hb hK hP 3 0 rfl rfl (by omega) (by omega) dX5_judge_195 ?_
        refine rn_astM hx hb hK hP hD hS 5 0 rfl rfl (by omega) (by omega) dX5_judge_196 (fun H locs hP hD hS => ?_)
        have hP : va_P D vwCl [(hM, .inr (5, [.int (iI (((T : Nat) : Int))), .int (iI (((dd : Nat) : Int))), .ref yL, .ref yT, .ref yS, .ref yE, .ref yF, .int (iI (((n : Nat) : Int))), .ref yK, .ref yA, .ref yB, .ref yD, .int (iI (((nr : Nat) : Int))), .ref yO, .ref yP, .ref yQ, .int (iI (((no : Nat) : Int))), .ref yU, .ref yV, .int (iI (((un : Nat) : Int))), .ref yC, .ref yW, .int (iI (((cp : Nat) : Int))), .ref yG, .ref yH, .ref yI, .ref yJ, .int (iI (((chF tk sd gt gs n : Nat) : Int))), .int (iI (((coF tk sd gt gs n : Nat) : Int))), .int (iI (b2z (true))), .int (iI (wo)), .ref yN, .int (iI (((bd : Nat) : Int))), .long (co)])), ce_i yT cI 4 (nZ (tk)), ce_i yS cI 4 (nZ (sd)), ce_i yG cI 4 (nZ (gt)), ce_i yH cI 4 (nZ (gs)), ce_i yI cI 4 (nZ (uN (mixN b gt bt) b (gt b))), ce_i yJ cI 4 (nZ (mixN b gs bs))] H := hP
        have hD : va_D A [(hM, .inr (5, [.int (iI (((T : Nat) : Int))), .int (iI (((dd : Nat) : Int))), .ref yL, .ref yT, .ref yS, .ref yE, .ref yF, .int (iI (((n : Nat) : Int))), .ref yK, .ref yA, .ref yB, .ref yD, .int (iI (((nr : Nat) : Int))), .ref yO, .ref yP, .ref yQ, .int (iI (((no : Nat) : Int))), .ref yU, .ref yV, .int (iI (((un : Nat) : Int))), .ref yC, .ref yW, .int (iI (((cp : Nat) : Int))), .ref yG, .ref yH, .ref yI, .ref yJ, .int (iI (((chF tk sd gt gs n : Nat) : Int))), .int (iI (((coF tk sd gt gs n : Nat) : Int))), .int (iI (b2z (true))), .int (iI (wo)), .ref yN, .int (iI (((bd : Nat) : Int))), .long (co)])), ce_i yT cI 4 (nZ (tk)), ce_i yS cI 4 (nZ (sd)), ce_i yG cI 4 (nZ (gt)), ce_i yH cI 4 (nZ (gs)), ce_i yI cI 4 (nZ (uN (mixN b gt bt) b (gt b))), ce_i yJ cI 4 (nZ (mixN b gs bs))] := hD
        have e_g : uN (mixN b gt bt) b (gt b) = mixN (b + 1) gt bt := (mixN_u _ _ _)
        rw [e_g] at hP hD
        have hP : va_P D vwCl [(hM, .inr (5, [.int (iI (((T : Nat) : Int))), .int (iI (((dd : Nat) : Int))), .ref yL, .ref yT, .ref yS, .ref yE, .ref yF, .int (iI (((n : Nat) : Int))), .ref yK, .ref yA, .ref yB, .ref yD, .int (iI (((nr : Nat) : Int))), .ref yO, .ref yP, .ref yQ, .int (iI (((no : Nat) : Int))), .ref yU, .ref yV, .int (iI (((un : Nat) : Int))), .ref yC, .ref yW, .int (iI (((cp : Nat) : Int))), .ref yG, .ref yH, .ref yI, .ref yJ, .int (iI (((chF tk sd gt gs n : Nat) : Int))), .int (iI (((coF tk sd gt gs n : Nat) : Int))), .int (iI (b2z (true))), .int (iI (wo)), .ref yN, .int (iI (((bd : Nat) : Int))), .long (co)])), ce_i yT cI 4 (nZ (tk)), ce_i yS cI 4 (nZ (sd)), ce_i yG cI 4 (nZ (gt)), ce_i yH cI 4 (nZ (gs)), ce_i yI cI 4 (nZ (mixN (b + 1) gt bt)), ce_i yJ cI 4 (nZ (mixN b gs bs))] H := hP
        have hD : va_D A [(hM, .inr (5, [.int (iI (((T : Nat) : Int))), .int (iI (((dd : Nat) : Int))), .ref yL, .ref yT, .ref yS, .ref yE, .ref yF, .int (iI (((n : Nat) : Int))), .ref yK, .ref yA, .ref yB, .ref yD, .int (iI (((nr : Nat) : Int))), .ref yO, .ref yP, .ref yQ, .int (iI (((no : Nat) : Int))), .ref yU, .ref yV, .int (iI (((un : Nat) : Int))), .ref yC, .ref yW, .int (iI (((cp : Nat) : Int))), .ref yG, .ref yH, .ref yI, .ref yJ, .int (iI (((chF tk sd gt gs n : Nat) : Int))), .int (iI (((coF tk sd gt gs n : Nat) : Int))), .int (iI (b2z (true))), .int (iI (wo)), .ref yN, .int (iI (((bd : Nat) : Int))), .long (co)])), ce_i yT cI 4 (nZ (tk)), ce_i yS cI 4 (nZ (sd)), ce_i yG cI 4 (nZ (gt)), ce_i yH cI 4 (nZ (gs)), ce_i yI cI 4 (nZ (mixN (b + 1) gt bt)), ce_i yJ cI 4 (nZ (mixN b gs bs))] := hD
        refine lv_aload_n hx hb dX5_judge_197 rfl (lv_at hl 0 rfl) ?_
        refine va_get (D := D) (ci := 5) (v := .ref yJ) (C := RX5) (T := TX5) (N := 34) hx hb hts in_X5 hown hK hP 0 rfl rfl 26 (by decide) (hts _ (List.mem_cons_of_mem _ tf_X5_68)) (fun _ h9 => h9) rfl dX5_judge_198 ?_
        refine lv_iload_n hx hb dX5_judge_201 rfl (lv_at hl 1 rfl) ?_
        refine lv_aload_n hx hb dX5_judge_202 rfl (lv_at hl 0 rfl) ?_
        refine va_get (D := D) (ci := 5) (v := .ref yH) (C := RX5) (T := TX5) (N := 34) hx hb hts in_X5 hown hK hP 0 rfl rfl 24 (by decide) (hts _ (List.mem_cons_of_mem _ tf_X5_62)) (fun _ h9 => h9) rfl dX5_judge_203 ?_
        refine lv_iload_n hx hb dX5_judge_206 rfl (lv_at hl 1 rfl) ?_
        refine rn_aldM hx hb hK hP 4 0 rfl rfl (by omega) (by omega) dX5_judge_207 ?_
        refine rn_astM hx hb hK hP hD hS 6 0 rfl rfl (by omega) (by omega) dX5_judge_208 (fun H locs hP hD hS => ?_)
        have hP : va_P D vwCl [(hM, .inr (5, [.int (iI (((T : Nat) : Int))), .int (iI (((dd : Nat) : Int))), .ref yL, .ref yT, .ref yS, .ref yE, .ref yF, .int (iI (((n : Nat) : Int))), .ref yK, .ref yA, .ref yB, .ref yD, .int (iI (((nr : Nat) : Int))), .ref yO, .ref yP, .ref yQ, .int (iI (((no : Nat) : Int))), .ref yU, .ref yV, .int (iI (((un : Nat) : Int))), .ref yC, .ref yW, .int (iI (((cp : Nat) : Int))), .ref yG, .ref yH, .ref yI, .ref yJ, .int (iI (((chF tk sd gt gs n : Nat) : Int))), .int (iI (((coF tk sd gt gs n : Nat) : Int))), .int (iI (b2z (true))), .int (iI (wo)), .ref yN, .int (iI (((bd : Nat) : Int))), .long (co)])), ce_i yT cI 4 (nZ (tk)), ce_i yS cI 4 (nZ (sd)), ce_i yG cI 4 (nZ (gt)), ce_i yH cI 4 (nZ (gs)), ce_i yI cI 4 (nZ (mixN (b + 1) gt bt)), ce_i yJ cI 4 (nZ (uN (mixN b gs bs) b (gs b)))] H := hP
        have hD : va_D A [(hM, .inr (5, [.int (iI (((T : Nat) : Int))), .int (iI (((dd : Nat) : Int))), .ref yL, .ref yT, .ref yS, .ref yE, .ref yF, .int (iI (((n : Nat) : Int))), .ref yK, .ref yA, .ref yB, .ref yD, .int (iI (((nr : Nat) : Int))), .ref yO, .ref yP, .ref yQ, .int (iI (((no : Nat) : Int))), .ref yU, .ref yV, .int (iI (((un : Nat) : Int))), .ref yC, .ref yW, .int (iI (((cp : Nat) : Int))), .ref yG, .ref yH, .ref yI, .ref yJ, .int (iI (((chF tk sd gt gs n : Nat) : Int))), .int (iI (((coF tk sd gt gs n : Nat) : Int))), .int (iI (b2z (true))), .int (iI (wo)), .ref yN, .int (iI (((bd : Nat) : Int))), .long (co)])), ce_i yT cI 4 (nZ (tk)), ce_i yS cI 4 (nZ (sd)), ce_i yG cI 4 (nZ (gt)), ce_i yH cI 4 (nZ (gs)), ce_i yI cI 4 (nZ (mixN (b + 1) gt bt)), ce_i yJ cI 4 (nZ (uN (mixN b gs bs) b (gs b)))] := hD
        have e_g : uN (mixN b gs bs) b (gs b) = mixN (b + 1) gs bs := (mixN_u _ _ _)
        rw [e_g] at hP hD
        have hP : va_P D vwCl [(hM, .inr (5, [.int (iI (((T : Nat) : Int))), .int (iI (((dd : Nat) : Int))), .ref yL, .ref yT, .ref yS, .ref yE, .ref yF, .int (iI (((n : Nat) : Int))), .ref yK, .ref yA, .ref yB, .ref yD, .int (iI (((nr : Nat) : Int))), .ref yO, .ref yP, .ref yQ, .int (iI (((no : Nat) : Int))), .ref yU, .ref yV, .int (iI (((un : Nat) : Int))), .ref yC, .ref yW, .int (iI (((cp : Nat) : Int))), .ref yG, .ref yH, .ref yI, .ref yJ, .int (iI (((chF tk sd gt gs n : Nat) : Int))), .int (iI (((coF tk sd gt gs n : Nat) : Int))), .int (iI (b2z (true))), .int (iI (wo)), .ref yN, .int (iI (((bd : Nat) : Int))), .long (co)])), ce_i yT cI 4 (nZ (tk)), ce_i yS cI 4 (nZ (sd)), ce_i yG cI 4 (nZ (gt)), ce_i yH cI 4 (nZ (gs)), ce_i yI cI 4 (nZ (mixN (b + 1) gt bt)), ce_i yJ cI 4 (nZ (mixN (b + 1) gs bs))] H := hP
        have hD : va_D A [(hM, .inr (5, [.int (iI (((T : Nat) : Int))), .int (iI (((dd : Nat) : Int))), .ref yL, .ref yT, .ref yS, .ref yE, .ref yF, .int (iI (((n : Nat) : Int))), .ref yK, .ref yA, .ref yB, .ref yD, .int (iI (((nr : Nat) : Int))), .ref yO, .ref yP, .ref yQ, .int (iI (((no : Nat) : Int))), .ref yU, .ref yV, .int (iI (((un : Nat) : Int))), .ref yC, .ref yW, .int (iI (((cp : Nat) : Int))), .ref yG, .ref yH, .ref yI, .ref yJ, .int (iI (((chF tk sd gt gs n : Nat) : Int))), .int (iI (((coF tk sd gt gs n : Nat) : Int))), .int (iI (b2z (true))), .int (iI (wo)), .ref yN, .int (iI (((bd : Nat) : Int))), .long (co)])), ce_i yT cI 4 (nZ (tk)), ce_i yS cI 4 (nZ (sd)), ce_i yG cI 4 (nZ (gt)), ce_i yH cI 4 (nZ (gs)), ce_i yI cI 4 (nZ (mixN (b + 1) gt bt)), ce_i yJ cI 4 (nZ (mixN (b + 1) gs bs))] := hD
        refine lv_iinc (v := iI (((b + 1 : Nat) : Int))) (lv' := [(3, .int (iI (((b + 1 : Nat) : Int)))), (0, .ref hM)]) hx hb dX5_judge_209 hl (k := 1) rfl (iI_inc _) (by decide) rfl (fun ls hl => ?_)
        refine lv_goto (tgt := 177) hx hb dX5_judge_212 (by decide) ?_
        exact ih (b + 1) (by omega) (by omega) hlt _ _ _ hP hD hS (lv_sub hl [1, 0] rfl)
  have K160 : (64 * chF tk sd gt gs n + coF tk sd gt gs n < thW th bc bk) → ∀ (H : Heap) (locs : List Loc) (ls : Array Slot), va_P D vwCl [(hM, .inr (5, [.int (iI (((T : Nat) : Int))), .int (iI (((dd : Nat) : Int))), .ref yL, .ref yT, .ref yS, .ref yE, .ref yF, .int (iI (((n : Nat) : Int))), .ref yK, .ref yA, .ref yB, .ref yD, .int (iI (((nr : Nat) : Int))), .ref yO, .ref yP, .ref yQ, .int (iI (((no : Nat) : Int))), .ref yU, .ref yV, .int (iI (((un : Nat) : Int))), .ref yC, .ref yW, .int (iI (((cp : Nat) : Int))), .ref yG, .ref yH, .ref yI, .ref yJ, .int (iI (((bc : Nat) : Int))), .int (iI (((bk : Nat) : Int))), .int (iI (b2z (th))), .int (iI (wo)), .ref yN, .int (iI (((bd : Nat) : Int))), .long (co)])), ce_i yT cI 4 (nZ (tk)), ce_i yS cI 4 (nZ (sd)), ce_i yG cI 4 (nZ (gt)), ce_i yH cI 4 (nZ (gs)), ce_i yI cI 4 (nZ (bt)), ce_i yJ cI 4 (nZ (bs))] H → va_D A [(hM, .inr (5, [.int (iI (((T : Nat) : Int))), .int (iI (((dd : Nat) : Int))), .ref yL, .ref yT, .ref yS, .ref yE, .ref yF, .int (iI (((n : Nat) : Int))), .ref yK, .ref yA, .ref yB, .ref yD, .int (iI (((nr : Nat) : Int))), .ref yO, .ref yP, .ref yQ, .int (iI (((no : Nat) : Int))), .ref yU, .ref yV, .int (iI (((un : Nat) : Int))), .ref yC, .ref yW, .int (iI (((cp : Nat) : Int))), .ref yG, .ref yH, .ref yI, .ref yJ, .int (iI (((bc : Nat) : Int))), .int (iI (((bk : Nat) : Int))), .int (iI (b2z (th))), .int (iI (wo)), .ref yN, .int (iI (((bd : Nat) : Int))), .long (co)])), ce_i yT cI 4 (nZ (tk)), ce_i yS cI 4 (nZ (sd)), ce_i yG cI 4 (nZ (gt)), ce_i yH cI 4 (nZ (gs)), ce_i yI cI 4 (nZ (bt)), ce_i yJ cI 4 (nZ (bs))] → va_S A s.heap H locs → lv_has ls 5 [(0, .ref hM), (1, .int (iI (((chF tk sd gt gs n : Nat) : Int)))), (2, .int (iI (((coF tk sd gt gs n : Nat) : Int))))] → W p l e (rmD 0) s m ([.ref hM] : List Value).toArray below meth c H locs 0 0 Q (F0 m 160 ls []) := by
    intro  hlt H locs ls hP hD hS hl
    refine lv_aload_n hx hb dX5_judge_160 rfl (lv_at hl 0 rfl) ?_
    refine lv_iconst (v := iI (((1 : Nat) : Int))) hx hb dX5_judge_161 (by decide +kernel) ?_
    refine rz_as (y := b2z (true)) rfl ?_
    refine va_put (D := D) (ci := 5) (v := .int (iI (b2z (true)))) (ty := .boolean) (C := RX5) (T := TX5) (N := 34) hx hb hts in_X5 tyX5 tyX5_ok nmX5 hown hK hP hD hS 0 rfl rfl 29 (by decide) (hts _ (List.mem_cons_of_mem _ tf_X5_101)) (fun _ h9 => h9) rfl (by decide +kernel) (b2z_nar _) (b2z_fit _) (Nat.le_of_ble_eq_true rfl) dX5_judge_162 (fun H locs hP hD hS => ?_)
    have hP : va_P D vwCl [(hM, .inr (5, [.int (iI (((T : Nat) : Int))), .int (iI (((dd : Nat) : Int))), .ref yL, .ref yT, .ref yS, .ref yE, .ref yF, .int (iI (((n : Nat) : Int))), .ref yK, .ref yA, .ref yB, .ref yD, .int (iI (((nr : Nat) : Int))), .ref yO, .ref yP, .ref yQ, .int (iI (((no : Nat) : Int))), .ref yU, .ref yV, .int (iI (((un : Nat) : Int))), .ref yC, .ref yW, .int (iI (((cp : Nat) : Int))), .ref yG, .ref yH, .ref yI, .ref yJ, .int (iI (((bc : Nat) : Int))), .int (iI (((bk : Nat) : Int))), .int (iI (b2z (true))), .int (iI (wo)), .ref yN, .int (iI (((bd : Nat) : Int))), .long (co)])), ce_i yT cI 4 (nZ (tk)), ce_i yS cI 4 (nZ (sd)), ce_i yG cI 4 (nZ (gt)), ce_i yH cI 4 (nZ (gs)), ce_i yI cI 4 (nZ (bt)), ce_i yJ cI 4 (nZ (bs))] H := hP
    have hD : va_D A [(hM, .inr (5, [.int (iI (((T : Nat) : Int))), .int (iI (((dd : Nat) : Int))), .ref yL, .ref yT, .ref yS, .ref yE, .ref yF, .int (iI (((n : Nat) : Int))), .ref yK, .ref yA, .ref yB, .ref yD, .int (iI (((nr : Nat) : Int))), .ref yO, .ref yP, .ref yQ, .int (iI (((no : Nat) : Int))), .ref yU, .ref yV, .int (iI (((un : Nat) : Int))), .ref yC, .ref yW, .int (iI (((cp : Nat) : Int))), .ref yG, .ref yH, .ref yI, .ref yJ, .int (iI (((bc : Nat) : Int))), .int (iI (((bk : Nat) : Int))), .int (iI (b2z (true))), .int (iI (wo)), .ref yN, .int (iI (((bd : Nat) : Int))), .long (co)])), ce_i yT cI 4 (nZ (tk)), ce_i yS cI 4 (nZ (sd)), ce_i yG cI 4 (nZ (gt)), ce_i yH cI 4 (nZ (gs)), ce_i yI cI 4 (nZ (bt)), ce_i yJ cI 4 (nZ (bs))] := hD
    refine lv_aload_n hx hb dX5_judge_165 rfl (lv_at hl 0 rfl) ?_
    refine lv_iload_n hx hb dX5_judge_166 rfl (lv_at hl 1 rfl) ?_
    refine va_put (D := D) (ci := 5) (v := .int (iI (((chF tk sd gt gs n : Nat) : Int)))) (ty := .int) (C := RX5) (T := TX5) (N := 34) hx hb hts in_X5 tyX5 tyX5_ok nmX5 hown hK hP hD hS 0 rfl rfl 27 (by decide) (hts _ (List.mem_cons_of_mem _ tf_X5_105)) (fun _ h9 => h9) rfl (by decide +kernel) rfl rfl (Nat.le_of_ble_eq_true rfl) dX5_judge_167 (fun H locs hP hD hS => ?_)
    have hP : va_P D vwCl [(hM, .inr (5, [.int (iI (((T : Nat) : Int))), .int (iI (((dd : Nat) : Int))), .ref yL, .ref yT, .ref yS, .ref yE, .ref yF, .int (iI (((n : Nat) : Int))), .ref yK, .ref yA, .ref yB, .ref yD, .int (iI (((nr : Nat) : Int))), .ref yO, .ref yP, .ref yQ, .int (iI (((no : Nat) : Int))), .ref yU, .ref yV, .int (iI (((un : Nat) : Int))), .ref yC, .ref yW, .int (iI (((cp : Nat) : Int))), .ref yG, .ref yH, .ref yI, .ref yJ, .int (iI (((chF tk sd gt gs n : Nat) : Int))), .int (iI (((bk : Nat) : Int))), .int (iI (b2z (true))), .int (iI (wo)), .ref yN, .int (iI (((bd : Nat) : Int))), .long (co)])), ce_i yT cI 4 (nZ (tk)), ce_i yS cI 4 (nZ (sd)), ce_i yG cI 4 (nZ (gt)), ce_i yH cI 4 (nZ (gs)), ce_i yI cI 4 (nZ (bt)), ce_i yJ cI 4 (nZ (bs))] H := hP
    have hD : va_D A [(hM, .inr (5, [.int (iI (((T : Nat) : Int))), .int (iI (((dd : Nat) : Int))), .ref yL, .ref yT, .ref yS, .ref yE, .ref yF, .int (iI (((n : Nat) : Int))), .ref yK, .ref yA, .ref yB, .ref yD, .int (iI (((nr : Nat) : Int))), .ref yO, .ref yP, .ref yQ, .int (iI (((no : Nat) : Int))), .ref yU, .ref yV, .int (iI (((un : Nat) : Int))), .ref yC, .ref yW, .int (iI (((cp : Nat) : Int))), .ref yG, .ref yH, .ref yI, .ref yJ, .int (iI (((chF tk sd gt gs n : Nat) : Int))), .int (iI (((bk : Nat) : Int))), .int (iI (b2z (true))), .int (iI (wo)), .ref yN, .int (iI (((bd : Nat) : Int))), .long (co)])), ce_i yT cI 4 (nZ (tk)), ce_i yS cI 4 (nZ (sd)), ce_i yG cI 4 (nZ (gt)), ce_i yH cI 4 (nZ (gs)), ce_i yI cI 4 (nZ (bt)), ce_i yJ cI 4 (nZ (bs))] := hD
    refine lv_aload_n hx hb dX5_judge_170 rfl (lv_at hl 0 rfl) ?_
    refine lv_iload_n hx hb dX5_judge_171 rfl (lv_at hl 2 rfl) ?_
    refine va_put (D := D) (ci := 5) (v := .int (iI (((coF tk sd gt gs n : Nat) : Int)))) (ty := .int) (C := RX5) (T := TX5) (N := 34) hx hb hts in_X5 tyX5 tyX5_ok nmX5 hown hK hP hD hS 0 rfl rfl 28 (by decide) (hts _ (List.mem_cons_of_mem _ tf_X5_108)) (fun _ h9 => h9) rfl (by decide +kernel) rfl rfl (Nat.le_of_ble_eq_true rfl) dX5_judge_172 (fun H locs hP hD hS => ?_)
    have hP : va_P D vwCl [(hM, .inr (5, [.int (iI (((T : Nat) : Int))), .int (iI (((dd : Nat) : Int))), .ref yL, .ref yT, .ref yS, .ref yE, .ref yF, .int (iI (((n : Nat) : Int))), .ref yK, .ref yA, .ref yB, .ref yD, .int (iI (((nr : Nat) : Int))), .ref yO, .ref yP, .ref yQ, .int (iI (((no : Nat) : Int))), .ref yU, .ref yV, .int (iI (((un : Nat) : Int))), .ref yC, .ref yW, .int (iI (((cp : Nat) : Int))), .ref yG, .ref yH, .ref yI, .ref yJ, .int (iI (((chF tk sd gt gs n : Nat) : Int))), .int (iI (((coF tk sd gt gs n : Nat) : Int))), .int (iI (b2z (true))), .int (iI (wo)), .ref yN, .int (iI (((bd : Nat) : Int))), .long (co)])), ce_i yT cI 4 (nZ (tk)), ce_i yS cI 4 (nZ (sd)), ce_i yG cI 4 (nZ (gt)), ce_i yH cI 4 (nZ (gs)), ce_i yI cI 4 (nZ (bt)), ce_i yJ cI 4 (nZ (bs))] H := hP
    have hD : va_D A [(hM, .inr (5, [.int (iI (((T : Nat) : Int))), .int (iI (((dd : Nat) : Int))), .ref yL, .ref yT, .ref yS, .ref yE, .ref yF, .int (iI (((n : Nat) : Int))), .ref yK, .ref yA, .ref yB, .ref yD, .int (iI (((nr : Nat) : Int))), .ref yO, .ref yP, .ref yQ, .int (iI (((no : Nat) : Int))), .ref yU, .ref yV, .int (iI (((un : Nat) : Int))), .ref yC, .ref yW, .int (iI (((cp : Nat) : Int))), .ref yG, .ref yH, .ref yI, .ref yJ, .int (iI (((chF tk sd gt gs n : Nat) : Int))), .int (iI (((coF tk sd gt gs n : Nat) : Int))), .int (iI (b2z (true))), .int (iI (wo)), .ref yN, .int (iI (((bd : Nat) : Int))), .long (co)])), ce_i yT cI 4 (nZ (tk)), ce_i yS cI 4 (nZ (sd)), ce_i yG cI 4 (nZ (gt)), ce_i yH cI 4 (nZ (gs)), ce_i yI cI 4 (nZ (bt)), ce_i yJ cI 4 (nZ (bs))] := hD
    refine lv_iconst (v := iI (((0 : Nat) : Int))) hx hb dX5_judge_175 (by decide +kernel) ?_
    refine lv_istore_n (lv' := [(3, .int (iI (((0 : Nat) : Int)))), (0, .ref hM), (1, .int (iI (((chF tk sd gt gs n : Nat) : Int)))), (2, .int (iI (((coF tk sd gt gs n : Nat) : Int))))]) hx hb dX5_judge_176 rfl hl (by decide) rfl (fun ls hl => ?_)
    rw [← mixN_0 gt bt, ← mixN_0 gs bs] at hP hD
    exact K177 (n - (0) + 1) (0) (Nat.lt_succ_self _) (by omega) hlt _ _ _ hP hD hS (lv_sub hl [1, 0] rfl)
  have K6 : ∀ (fu : Nat) (b : Nat) (ch : Nat) (cc : Nat), n - b < fu → (b ≤ n) → (ch = chF tk sd gt gs b) → (cc = coF tk sd gt gs b) → ∀ (H : Heap) (locs : List Loc) (ls : Array Slot), va_P D vwCl [(hM, .inr (5, [.int (iI (((T : Nat) : Int))), .int (iI (((dd : Nat) : Int))), .ref yL, .ref yT, .ref yS, .ref yE, .ref yF, .int (iI (((n : Nat) : Int))), .ref yK, .ref yA, .ref yB, .ref yD, .int (iI (((nr : Nat) : Int))), .ref yO, .ref yP, .ref yQ, .int (iI (((no : Nat) : Int))), .ref yU, .ref yV, .int (iI (((un : Nat) : Int))), .ref yC, .ref yW, .int (iI (((cp : Nat) : Int))), .ref yG, .ref yH, .ref yI, .ref yJ, .int (iI (((bc : Nat) : Int))), .int (iI (((bk : Nat) : Int))), .int (iI (b2z (th))), .int (iI (wo)), .ref yN, .int (iI (((bd : Nat) : Int))), .long (co)])), ce_i yT cI 4 (nZ (tk)), ce_i yS cI 4 (nZ (sd)), ce_i yG cI 4 (nZ (gt)), ce_i yH cI 4 (nZ (gs)), ce_i yI cI 4 (nZ (bt)), ce_i yJ cI 4 (nZ (bs))] H → va_D A [(hM, .inr (5, [.int (iI (((T : Nat) : Int))), .int (iI (((dd : Nat) : Int))), .ref yL, .ref yT, .ref yS, .ref yE, .ref yF, .int (iI (((n : Nat) : Int))), .ref yK, .ref yA, .ref yB, .ref yD, .int (iI (((nr : Nat) : Int))), .ref yO, .ref yP, .ref yQ, .int (iI (((no : Nat) : Int))), .ref yU, .ref yV, .int (iI (((un : Nat) : Int))), .ref yC, .ref yW, .int (iI (((cp : Nat) : Int))), .ref yG, .ref yH, .ref yI, .ref yJ, .int (iI (((bc : Nat) : Int))), .int (iI (((bk : Nat) : Int))), .int (iI (b2z (th))), .int (iI (wo)), .ref yN, .int (iI (((bd : Nat) : Int))), .long (co)])), ce_i yT cI 4 (nZ (tk)), ce_i yS cI 4 (nZ (sd)), ce_i yG cI 4 (nZ (gt)), ce_i yH cI 4 (nZ (gs)), ce_i yI cI 4 (nZ (bt)), ce_i yJ cI 4 (nZ (bs))] → va_S A s.heap H locs → lv_has ls 5 [(0, .ref hM), (1, .int (iI (((ch : Nat) : Int)))), (2, .int (iI (((cc : Nat) : Int)))), (3, .int (iI (((b : Nat) : Int))))] → W p l e (rmD 0) s m ([.ref hM] : List Value).toArray below meth c H locs 0 0 Q (F0 m 6 ls []) := by
    intro fu
    induction fu with
    | zero => intro b ch cc hmu; exact absurd hmu (Nat.not_lt_zero _)
    | succ fu ih =>
      intro b ch cc hmu hb4 hc hd H locs ls hP hD hS hl
      have a1 := hgs10 b
      have a2 := hsd10 b
      have a3 := hgt10 b
      have a4 := htk10 b
      have a5 : ch ≤ b := hc ▸ chF_le b
      have a6 : cc ≤ 12 * b := hd ▸ coF_le hgs10 hsd10 b
      refine lv_iload_n hx hb dX5_judge_6 rfl (lv_at hl 3 rfl) ?_
      refine lv_aload_n hx hb dX5_judge_7 rfl (lv_at hl 0 rfl) ?_
      refine va_get (D := D) (ci := 5) (v := .int (iI (((n : Nat) : Int)))) (C := RX5) (T := TX5) (N := 34) hx hb hts in_X5 hown hK hP 0 rfl rfl 7 (by decide) (hts _ (List.mem_cons_of_mem _ tf_X5_81)) (fun _ h9 => h9) rfl dX5_judge_8 ?_
      refine rz_cge (tgt := 128) hx hb dX5_judge_11 (by decide) (by omega) (by omega) (fun c2 => ?_) (fun c2 => ?_)
      · have e0 : b = n := by omega
        subst hc
        subst hd
        rw [e0] at hl
        have x1 := chF_le (tk := tk) (sd := sd) (gt := gt) (gs := gs) n
        have x2 := coF_le (tk := tk) (gt := gt) hgs10 hsd10 n
        refine lv_aload_n hx hb dX5_judge_128 rfl (lv_at hl 0 rfl) ?_
        refine va_get (D := D) (ci := 5) (v := .int (iI (b2z (th)))) (C := RX5) (T := TX5) (N := 34) hx hb hts in_X5 hown hK hP 0 rfl rfl 29 (by decide) (hts _ (List.mem_cons_of_mem _ tf_X5_101)) (fun _ h9 => h9) rfl dX5_judge_129 ?_
        refine rz_beq (z := th) (tgt := 160) hx hb dX5_judge_132 (by decide) (fun c3 => ?_) (fun c3 => ?_)
        · exact K160  (by unfold thW; first | (rw [if_pos (by assumption)]; omega) | (rw [if_neg (by simp_all)]; omega)) _ _ _ hP hD hS (lv_sub hl [0, 1, 2] rfl)
        · refine lv_iload_n hx hb dX5_judge_135 rfl (lv_at hl 1 rfl) ?_
          refine lv_aload_n hx hb dX5_judge_136 rfl (lv_at hl 0 rfl) ?_
          refine va_get (D := D) (ci := 5) (v := .int (iI (((bc : Nat) : Int)))) (C := RX5) (T := TX5) (N := 34) hx hb hts in_X5 hown hK hP 0 rfl rfl 27 (by decide) (hts _ (List.mem_cons_of_mem _ tf_X5_105)) (fun _ h9 => h9) rfl dX5_judge_137 ?_
          refine rz_cgt (tgt := 159) hx hb dX5_judge_140 (by decide) (by omega) (by omega) (fun c4 => ?_) (fun c4 => ?_)
          · exact hret _ _ _ _ _ dX5_judge_159 ⟨_, _, _, _, _, rfl, imp_none (fun P h => by rw [WtF_congr n h, wt_ref hgs10 hsd10, thW, if_pos (by assumption)]; omega), hbb, hbt10, hbs10⟩ hP hD hS
          · refine lv_iload_n hx hb dX5_judge_143 rfl (lv_at hl 1 rfl) ?_
            refine lv_aload_n hx hb dX5_judge_144 rfl (lv_at hl 0 rfl) ?_
            refine va_get (D := D) (ci := 5) (v := .int (iI (((bc : Nat) : Int)))) (C := RX5) (T := TX5) (N := 34) hx hb hts in_X5 hown hK hP 0 rfl rfl 27 (by decide) (hts _ (List.mem_cons_of_mem _ tf_X5_105)) (fun _ h9 => h9) rfl dX5_judge_145 ?_
            refine rz_cne (tgt := 160) hx hb dX5_judge_148 (by decide) (by omega) (by omega) (fun c5 => ?_) (fun c5 => ?_)
            · exact K160  (by unfold thW; first | (rw [if_pos (by assumption)]; omega) | (rw [if_neg (by simp_all)]; omega)) _ _ _ hP hD hS (lv_sub hl [0, 1, 2] rfl)
            · refine lv_iload_n hx hb dX5_judge_151 rfl (lv_at hl 2 rfl) ?_
              refine lv_aload_n hx hb dX5_judge_152 rfl (lv_at hl 0 rfl) ?_
              refine va_get (D := D) (ci := 5) (v := .int (iI (((bk : Nat) : Int)))) (C := RX5) (T := TX5) (N := 34) hx hb hts in_X5 hown hK hP 0 rfl rfl 28 (by decide) (hts _ (List.mem_cons_of_mem _ tf_X5_108)) (fun _ h9 => h9) rfl dX5_judge_153 ?_
              refine rz_clt (tgt := 160) hx hb dX5_judge_156 (by decide) (by omega) (by omega) (fun c6 => ?_) (fun c6 => ?_)
              · exact K160  (by unfold thW; first | (rw [if_pos (by assumption)]; omega) | (rw [if_neg (by simp_all)]; omega)) _ _ _ hP hD hS (lv_sub hl [0, 1, 2] rfl)
              · exact hret _ _ _ _ _ dX5_judge_159 ⟨_, _, _, _, _, rfl, imp_none (fun P h => by rw [WtF_congr n h, wt_ref hgs10 hsd10, thW, if_pos (by assumption)]; omega), hbb, hbt10, hbs10⟩ hP hD hS
      · refine lv_aload_n hx hb dX5_judge_14 rfl (lv_at hl 0 rfl) ?_
        refine va_get (D := D) (ci := 5) (v := .ref yG) (C := RX5) (T := TX5) (N := 34) hx hb hts in_X5 hown hK hP 0 rfl rfl 23 (by decide) (hts _ (List.mem_cons_of_mem _ tf_X5_59)) (fun _ h9 => h9) rfl dX5_judge_15 ?_
        refine lv_iload_n hx hb dX5_judge_18 rfl (lv_at hl 3 rfl) ?_
        refine rn_aldM hx hb hK hP 3 0 rfl rfl (by omega) (by omega) dX5_judge_19 ?_
        refine lv_aload_n hx hb dX5_judge_20 rfl (lv_at hl 0 rfl) ?_
        refine va_get (D := D) (ci := 5) (v := .ref yT) (C := RX5) (T := TX5) (N := 34) hx hb hts in_X5 hown hK hP 0 rfl rfl 3 (by decide) (hts _ (List.mem_cons_of_mem _ tf_X5_13)) (fun _ h9 => h9) rfl dX5_judge_21 ?_
        refine lv_iload_n hx hb dX5_judge_24 rfl (lv_at hl 3 rfl) ?_
        refine rn_aldM hx hb hK hP 1 0 rfl rfl (by omega) (by omega) dX5_judge_25 ?_
        refine rz_ceq (tgt := 33) hx hb dX5_judge_26 (by decide) (by omega) (by omega) (fun c7 => ?_) (fun c7 => ?_)
        · refine lv_iconst (v := iI (((0 : Nat) : Int))) hx hb dX5_judge_33 (by decide +kernel) ?_
          refine lv_istore (lv' := [(4, .int (iI (((0 : Nat) : Int)))), (0, .ref hM), (1, .int (iI (((ch : Nat) : Int)))), (2, .int (iI (((cc : Nat) : Int)))), (3, .int (iI (((b : Nat) : Int))))]) hx hb dX5_judge_34 hl (by decide) rfl (fun ls hl => ?_)
          refine lv_iload_n hx hb dX5_judge_36 rfl (lv_at hl 2 rfl) ?_
          refine lv_iload hx hb dX5_judge_37 (lv_at hl 0 rfl) ?_
          refine rz_ine (tgt := 57) hx hb dX5_judge_39 (by decide) (by omega) (fun c8 => ?_) (fun c8 => ?_)
          · exfalso; omega
          · refine lv_aload_n hx hb dX5_judge_42 rfl (lv_at hl 1 rfl) ?_
            refine va_get (D := D) (ci := 5) (v := .ref yH) (C := RX5) (T := TX5) (N := 34) hx hb hts in_X5 hown hK hP 0 rfl rfl 24 (by decide) (hts _ (List.mem_cons_of_mem _ tf_X5_62)) (fun _ h9 => h9) rfl dX5_judge_43 ?_
            refine lv_iload_n hx hb dX5_judge_46 rfl (lv_at hl 4 rfl) ?_
            refine rn_aldM hx hb hK hP 4 0 rfl rfl (by omega) (by omega) dX5_judge_47 ?_
            refine lv_aload_n hx hb dX5_judge_48 rfl (lv_at hl 1 rfl) ?_
            refine va_get (D := D) (ci := 5) (v := .ref yS) (C := RX5) (T := TX5) (N := 34) hx hb hts in_X5 hown hK hP 0 rfl rfl 4 (by decide) (hts _ (List.mem_cons_of_mem _ tf_X5_16)) (fun _ h9 => h9) rfl dX5_judge_49 ?_
            refine lv_iload_n hx hb dX5_judge_52 rfl (lv_at hl 4 rfl) ?_
            refine rn_aldM hx hb hK hP 2 0 rfl rfl (by omega) (by omega) dX5_judge_53 ?_
            refine rz_ceq (tgt := 61) hx hb dX5_judge_54 (by decide) (by omega) (by omega) (fun c9 => ?_) (fun c9 => ?_)
            · refine lv_iconst (v := iI (((0 : Nat) : Int))) hx hb dX5_judge_61 (by decide +kernel) ?_
              refine rn_add hx hb dX5_judge_62 ?_
              refine lv_istore_n (lv' := [(1, .int (iI (((ch + 0 : Nat) : Int)))), (4, .int (iI (((0 : Nat) : Int)))), (0, .ref hM), (2, .int (iI (((cc : Nat) : Int)))), (3, .int (iI (((b : Nat) : Int))))]) hx hb dX5_judge_63 rfl hl (by decide) rfl (fun ls hl => ?_)
              refine lv_iload_n hx hb dX5_judge_64 rfl (lv_at hl 3 rfl) ?_
              refine lv_iload hx hb dX5_judge_65 (lv_at hl 1 rfl) ?_
              refine rz_ieq (tgt := 74) hx hb dX5_judge_67 (by decide) (by omega) (fun c10 => ?_) (fun c10 => ?_)
              · refine lv_iconst (v := iI (((0 : Nat) : Int))) hx hb dX5_judge_74 (by decide +kernel) ?_
                refine lv_aload_n hx hb dX5_judge_75 rfl (lv_at hl 2 rfl) ?_
                refine va_get (D := D) (ci := 5) (v := .ref yH) (C := RX5) (T := TX5) (N := 34) hx hb hts in_X5 hown hK hP 0 rfl rfl 24 (by decide) (hts _ (List.mem_cons_of_mem _ tf_X5_62)) (fun _ h9 => h9) rfl dX5_judge_76 ?_
                refine lv_iload_n hx hb dX5_judge_79 rfl (lv_at hl 4 rfl) ?_
                refine rn_aldM hx hb hK hP 4 0 rfl rfl (by omega) (by omega) dX5_judge_80 ?_
                refine lv_aload_n hx hb dX5_judge_81 rfl (lv_at hl 2 rfl) ?_
                refine va_get (D := D) (ci := 5) (v := .ref yS) (C := RX5) (T := TX5) (N := 34) hx hb hts in_X5 hown hK hP 0 rfl rfl 4 (by decide) (hts _ (List.mem_cons_of_mem _ tf_X5_16)) (fun _ h9 => h9) rfl dX5_judge_82 ?_
                refine lv_iload_n hx hb dX5_judge_85 rfl (lv_at hl 4 rfl) ?_
                refine rn_aldM hx hb hK hP 2 0 rfl rfl (by omega) (by omega) dX5_judge_86 ?_
                refine rz_cle (tgt := 106) hx hb dX5_judge_87 (by decide) (by omega) (by omega) (fun c11 => ?_) (fun c11 => ?_)
                · refine lv_aload_n hx hb dX5_judge_106 rfl (lv_at hl 2 rfl) ?_
                  refine va_get (D := D) (ci := 5) (v := .ref yS) (C := RX5) (T := TX5) (N := 34) hx hb hts in_X5 hown hK hP 0 rfl rfl 4 (by decide) (hts _ (List.mem_cons_of_mem _ tf_X5_16)) (fun _ h9 => h9) rfl dX5_judge_107 ?_
                  refine lv_iload_n hx hb dX5_judge_110 rfl (lv_at hl 4 rfl) ?_
                  refine rn_aldM hx hb hK hP 2 0 rfl rfl (by omega) (by omega) dX5_judge_111 ?_
                  refine lv_aload_n hx hb dX5_judge_112 rfl (lv_at hl 2 rfl) ?_
                  refine va_get (D := D) (ci := 5) (v := .ref yH) (C := RX5) (T := TX5) (N := 34) hx hb hts in_X5 hown hK hP 0 rfl rfl 24 (by decide) (hts _ (List.mem_cons_of_mem _ tf_X5_62)) (fun _ h9 => h9) rfl dX5_judge_113 ?_
                  refine lv_iload_n hx hb dX5_judge_116 rfl (lv_at hl 4 rfl) ?_
                  refine rn_aldM hx hb hK hP 4 0 rfl rfl (by omega) (by omega) dX5_judge_117 ?_
                  refine rn_sub hx hb dX5_judge_118 (by omega) ?_
                  refine rn_add hx hb dX5_judge_119 ?_
                  refine rn_add hx hb dX5_judge_120 ?_
                  refine lv_istore_n (lv' := [(2, .int (iI (((cc + (0 + ((sd b) - (gs b))) : Nat) : Int)))), (1, .int (iI (((ch + 0 : Nat) : Int)))), (4, .int (iI (((0 : Nat) : Int)))), (0, .ref hM), (3, .int (iI (((b : Nat) : Int))))]) hx hb dX5_judge_121 rfl hl (by decide) rfl (fun ls hl => ?_)
                  refine lv_iinc (v := iI (((b + 1 : Nat) : Int))) (lv' := [(3, .int (iI (((b + 1 : Nat) : Int)))), (2, .int (iI (((cc + (0 + ((sd b) - (gs b))) : Nat) : Int)))), (1, .int (iI (((ch + 0 : Nat) : Int)))), (4, .int (iI (((0 : Nat) : Int)))), (0, .ref hM)]) hx hb dX5_judge_122 hl (k := 4) rfl (iI_inc _) (by decide) rfl (fun ls hl => ?_)
                  refine lv_goto (tgt := 6) hx hb dX5_judge_125 (by decide) ?_
                  exact ih (b + 1) (ch + 0) (cc + (0 + ((sd b) - (gs b)))) (by omega) (by omega) (by rw [chF, ← hc]; first | (rw [if_pos (by omega)]) | (rw [if_neg (by omega)])) (by rw [coF, ← hd]; first | (rw [if_pos (by omega)]; omega) | (rw [if_neg (by omega)]; omega)) _ _ _ hP hD hS (lv_sub hl [4, 2, 1, 0] rfl)
                · refine lv_aload_n hx hb dX5_judge_90 rfl (lv_at hl 2 rfl) ?_
                  refine va_get (D := D) (ci := 5) (v := .ref yH) (C := RX5) (T := TX5) (N := 34) hx hb hts in_X5 hown hK hP 0 rfl rfl 24 (by decide) (hts _ (List.mem_cons_of_mem _ tf_X5_62)) (fun _ h9 => h9) rfl dX5_judge_91 ?_
                  refine lv_iload_n hx hb dX5_judge_94 rfl (lv_at hl 4 rfl) ?_
                  refine rn_aldM hx hb hK hP 4 0 rfl rfl (by omega) (by omega) dX5_judge_95 ?_
                  refine lv_aload_n hx hb dX5_judge_96 rfl (lv_at hl 2 rfl) ?_
                  refine va_get (D := D) (ci := 5) (v := .ref yS) (C := RX5) (T := TX5) (N := 34) hx hb hts in_X5 hown hK hP 0 rfl rfl 4 (by decide) (hts _ (List.mem_cons_of_mem _ tf_X5_16)) (fun _ h9 => h9) rfl dX5_judge_97 ?_
                  refine lv_iload_n hx hb dX5_judge_100 rfl (lv_at hl 4 rfl) ?_
                  refine rn_aldM hx hb hK hP 2 0 rfl rfl (by omega) (by omega) dX5_judge_101 ?_
                  refine rn_sub hx hb dX5_judge_102 (by omega) ?_
                  refine lv_goto (tgt := 119) hx hb dX5_judge_103 (by decide) ?_
                  refine rn_add hx hb dX5_judge_119 ?_
                  refine rn_add hx hb dX5_judge_120 ?_
                  refine lv_istore_n (lv' := [(2, .int (iI (((cc + (0 + ((gs b) - (sd b))) : Nat) : Int)))), (1, .int (iI (((ch + 0 : Nat) : Int)))), (4, .int (iI (((0 : Nat) : Int)))), (0, .ref hM), (3, .int (iI (((b : Nat) : Int))))]) hx hb dX5_judge_121 rfl hl (by decide) rfl (fun ls hl => ?_)
                  refine lv_iinc (v := iI (((b + 1 : Nat) : Int))) (lv' := [(3, .int (iI (((b + 1 : Nat) : Int)))), (2, .int (iI (((cc + (0 + ((gs b) - (sd b))) : Nat) : Int)))), (1, .int (iI (((ch + 0 : Nat) : Int)))), (4, .int (iI (((0 : Nat) : Int)))), (0, .ref hM)]) hx hb dX5_judge_122 hl (k := 4) rfl (iI_inc _) (by decide) rfl (fun ls hl => ?_)
                  refine lv_goto (tgt := 6) hx hb dX5_judge_125 (by decide) ?_
                  exact ih (b + 1) (ch + 0) (cc + (0 + ((gs b) - (sd b)))) (by omega) (by omega) (by rw [chF, ← hc]; first | (rw [if_pos (by omega)]) | (rw [if_neg (by omega)])) (by rw [coF, ← hd]; first | (rw [if_pos (by omega)]; omega) | (rw [if_neg (by omega)]; omega)) _ _ _ hP hD hS (lv_sub hl [4, 2, 1, 0] rfl)
              · exfalso; omega
            · refine lv_iconst (v := iI (((1 : Nat) : Int))) hx hb dX5_judge_57 (by decide +kernel) ?_
              refine lv_goto (tgt := 62) hx hb dX5_judge_58 (by decide) ?_
              refine rn_add hx hb dX5_judge_62 ?_
              refine lv_istore_n (lv' := [(1, .int (iI (((ch + 1 : Nat) : Int)))), (4, .int (iI (((0 : Nat) : Int)))), (0, .ref hM), (2, .int (iI (((cc : Nat) : Int)))), (3, .int (iI (((b : Nat) : Int))))]) hx hb dX5_judge_63 rfl hl (by decide) rfl (fun ls hl => ?_)
              refine lv_iload_n hx hb dX5_judge_64 rfl (lv_at hl 3 rfl) ?_
              refine lv_iload hx hb dX5_judge_65 (lv_at hl 1 rfl) ?_
              refine rz_ieq (tgt := 74) hx hb dX5_judge_67 (by decide) (by omega) (fun c12 => ?_) (fun c12 => ?_)
              · refine lv_iconst (v := iI (((0 : Nat) : Int))) hx hb dX5_judge_74 (by decide +kernel) ?_
                refine lv_aload_n hx hb dX5_judge_75 rfl (lv_at hl 2 rfl) ?_
                refine va_get (D := D) (ci := 5) (v := .ref yH) (C := RX5) (T := TX5) (N := 34) hx hb hts in_X5 hown hK hP 0 rfl rfl 24 (by decide) (hts _ (List.mem_cons_of_mem _ tf_X5_62)) (fun _ h9 => h9) rfl dX5_judge_76 ?_
                refine lv_iload_n hx hb dX5_judge_79 rfl (lv_at hl 4 rfl) ?_
                refine rn_aldM hx hb hK hP 4 0 rfl rfl (by omega) (by omega) dX5_judge_80 ?_
                refine lv_aload_n hx hb dX5_judge_81 rfl (lv_at hl 2 rfl) ?_
                refine va_get (D := D) (ci := 5) (v := .ref yS) (C := RX5) (T := TX5) (N := 34) hx hb hts in_X5 hown hK hP 0 rfl rfl 4 (by decide) (hts _ (List.mem_cons_of_mem _ tf_X5_16)) (fun _ h9 => h9) rfl dX5_judge_82 ?_
                refine lv_iload_n hx hb dX5_judge_85 rfl (lv_at hl 4 rfl) ?_
                refine rn_aldM hx hb hK hP 2 0 rfl rfl (by omega) (by omega) dX5_judge_86 ?_
                refine rz_cle (tgt := 106) hx hb dX5_judge_87 (by decide) (by omega) (by omega) (fun c13 => ?_) (fun c13 => ?_)
                · refine lv_aload_n hx hb dX5_judge_106 rfl (lv_at hl 2 rfl) ?_
                  refine va_get (D := D) (ci := 5) (v := .ref yS) (C := RX5) (T := TX5) (N := 34) hx hb hts in_X5 hown hK hP 0 rfl rfl 4 (by decide) (hts _ (List.mem_cons_of_mem _ tf_X5_16)) (fun _ h9 => h9) rfl dX5_judge_107 ?_
                  refine lv_iload_n hx hb dX5_judge_110 rfl (lv_at hl 4 rfl) ?_
                  refine rn_aldM hx hb hK hP 2 0 rfl rfl (by omega) (by omega) dX5_judge_111 ?_
                  refine lv_aload_n hx hb dX5_judge_112 rfl (lv_at hl 2 rfl) ?_
                  refine va_get (D := D) (ci := 5) (v := .ref yH) (C := RX5) (T := TX5) (N := 34) hx hb hts in_X5 hown hK hP 0 rfl rfl 24 (by decide) (hts _ (List.mem_cons_of_mem _ tf_X5_62)) (fun _ h9 => h9) rfl dX5_judge_113 ?_
                  refine lv_iload_n hx hb dX5_judge_116 rfl (lv_at hl 4 rfl) ?_
                  refine rn_aldM hx hb hK hP 4 0 rfl rfl (by omega) (by omega) dX5_judge_117 ?_
                  refine rn_sub hx hb dX5_judge_118 (by omega) ?_
                  refine rn_add hx hb dX5_judge_119 ?_
                  refine rn_add hx hb dX5_judge_120 ?_
                  refine lv_istore_n (lv' := [(2, .int (iI (((cc + (0 + ((sd b) - (gs b))) : Nat) : Int)))), (1, .int (iI (((ch + 1 : Nat) : Int)))), (4, .int (iI (((0 : Nat) : Int)))), (0, .ref hM), (3, .int (iI (((b : Nat) : Int))))]) hx hb dX5_judge_121 rfl hl (by decide) rfl (fun ls hl => ?_)
                  refine lv_iinc (v := iI (((b + 1 : Nat) : Int))) (lv' := [(3, .int (iI (((b + 1 : Nat) : Int)))), (2, .int (iI (((cc + (0 + ((sd b) - (gs b))) : Nat) : Int)))), (1, .int (iI (((ch + 1 : Nat) : Int)))), (4, .int (iI (((0 : Nat) : Int)))), (0, .ref hM)]) hx hb dX5_judge_122 hl (k := 4) rfl (iI_inc _) (by decide) rfl (fun ls hl => ?_)
                  refine lv_goto (tgt := 6) hx hb dX5_judge_125 (by decide) ?_
                  exact ih (b + 1) (ch + 1) (cc + (0 + ((sd b) - (gs b)))) (by omega) (by omega) (by rw [chF, ← hc]; first | (rw [if_pos (by omega)]) | (rw [if_neg (by omega)])) (by rw [coF, ← hd]; first | (rw [if_pos (by omega)]; omega) | (rw [if_neg (by omega)]; omega)) _ _ _ hP hD hS (lv_sub hl [4, 2, 1, 0] rfl)
                · refine lv_aload_n hx hb dX5_judge_90 rfl (lv_at hl 2 rfl) ?_
                  refine va_get (D := D) (ci := 5) (v := .ref yH) (C := RX5) (T := TX5) (N := 34) hx hb hts in_X5 hown hK hP 0 rfl rfl 24 (by decide) (hts _ (List.mem_cons_of_mem _ tf_X5_62)) (fun _ h9 => h9) rfl dX5_judge_91 ?_
                  refine lv_iload_n hx hb dX5_judge_94 rfl (lv_at hl 4 rfl) ?_
                  refine rn_aldM hx hb hK hP 4 0 rfl rfl (by omega) (by omega) dX5_judge_95 ?_
                  refine lv_aload_n hx hb dX5_judge_96 rfl (lv_at hl 2 rfl) ?_
                  refine va_get (D := D) (ci := 5) (v := .ref yS) (C := RX5) (T := TX5) (N := 34) hx hb hts in_X5 hown hK hP 0 rfl rfl 4 (by decide) (hts _ (List.mem_cons_of_mem _ tf_X5_16)) (fun _ h9 => h9) rfl dX5_judge_97 ?_
                  refine lv_iload_n hx hb dX5_judge_100 rfl (lv_at hl 4 rfl) ?_
                  refine rn_aldM hx hb hK hP 2 0 rfl rfl (by omega) (by omega) dX5_judge_101 ?_
                  refine rn_sub hx hb dX5_judge_102 (by omega) ?_
                  refine lv_goto (tgt := 119) hx hb dX5_judge_103 (by decide) ?_
                  refine rn_add hx hb dX5_judge_119 ?_
                  refine rn_add hx hb dX5_judge_120 ?_
                  refine lv_istore_n (lv' := [(2, .int (iI (((cc + (0 + ((gs b) - (sd b))) : Nat) : Int)))), (1, .int (iI (((ch + 1 : Nat) : Int)))), (4, .int (iI (((0 : Nat) : Int)))), (0, .ref hM), (3, .int (iI (((b : Nat) : Int))))]) hx hb dX5_judge_121 rfl hl (by decide) rfl (fun ls hl => ?_)
                  refine lv_iinc (v := iI (((b + 1 : Nat) : Int))) (lv' := [(3, .int (iI (((b + 1 : Nat) : Int)))), (2, .int (iI (((cc + (0 + ((gs b) - (sd b))) : Nat) : Int)))), (1, .int (iI (((ch + 1 : Nat) : Int)))), (4, .int (iI (((0 : Nat) : Int)))), (0, .ref hM)]) hx hb dX5_judge_122 hl (k := 4) rfl (iI_inc _) (by decide) rfl (fun ls hl => ?_)
                  refine lv_goto (tgt := 6) hx hb dX5_judge_125 (by decide) ?_
                  exact ih (b + 1) (ch + 1) (cc + (0 + ((gs b) - (sd b)))) (by omega) (by omega) (by rw [chF, ← hc]; first | (rw [if_pos (by omega)]) | (rw [if_neg (by omega)])) (by rw [coF, ← hd]; first | (rw [if_pos (by omega)]; omega) | (rw [if_neg (by omega)]; omega)) _ _ _ hP hD hS (lv_sub hl [4, 2, 1, 0] rfl)
              · exfalso; omega
        · refine lv_iconst (v := iI (((1 : Nat) : Int))) hx hb dX5_judge_29 (by decide +kernel) ?_
          refine lv_goto (tgt := 34) hx hb dX5_judge_30 (by decide) ?_
          refine lv_istore (lv' := [(4, .int (iI (((1 : Nat) : Int)))), (0, .ref hM), (1, .int (iI (((ch : Nat) : Int)))), (2, .int (iI (((cc : Nat) : Int)))), (3, .int (iI (((b : Nat) : Int))))]) hx hb dX5_judge_34 hl (by decide) rfl (fun ls hl => ?_)
          refine lv_iload_n hx hb dX5_judge_36 rfl (lv_at hl 2 rfl) ?_
          refine lv_iload hx hb dX5_judge_37 (lv_at hl 0 rfl) ?_
          refine rz_ine (tgt := 57) hx hb dX5_judge_39 (by decide) (by omega) (fun c14 => ?_) (fun c14 => ?_)
          · refine lv_iconst (v := iI (((1 : Nat) : Int))) hx hb dX5_judge_57 (by decide +kernel) ?_
            refine lv_goto (tgt := 62) hx hb dX5_judge_58 (by decide) ?_
            refine rn_add hx hb dX5_judge_62 ?_
            refine lv_istore_n (lv' := [(1, .int (iI (((ch + 1 : Nat) : Int)))), (4, .int (iI (((1 : Nat) : Int)))), (0, .ref hM), (2, .int (iI (((cc : Nat) : Int)))), (3, .int (iI (((b : Nat) : Int))))]) hx hb dX5_judge_63 rfl hl (by decide) rfl (fun ls hl => ?_)
            refine lv_iload_n hx hb dX5_judge_64 rfl (lv_at hl 3 rfl) ?_
            refine lv_iload hx hb dX5_judge_65 (lv_at hl 1 rfl) ?_
            refine rz_ieq (tgt := 74) hx hb dX5_judge_67 (by decide) (by omega) (fun c15 => ?_) (fun c15 => ?_)
            · exfalso; omega
            · refine lv_iconst (v := iI (((3 : Nat) : Int))) hx hb dX5_judge_70 (by decide +kernel) ?_
              refine lv_goto (tgt := 75) hx hb dX5_judge_71 (by decide) ?_
              refine lv_aload_n hx hb dX5_judge_75 rfl (lv_at hl 2 rfl) ?_
              refine va_get (D := D) (ci := 5) (v := .ref yH) (C := RX5) (T := TX5) (N := 34) hx hb hts in_X5 hown hK hP 0 rfl rfl 24 (by decide) (hts _ (List.mem_cons_of_mem _ tf_X5_62)) (fun _ h9 => h9) rfl dX5_judge_76 ?_
              refine lv_iload_n hx hb dX5_judge_79 rfl (lv_at hl 4 rfl) ?_
              refine rn_aldM hx hb hK hP 4 0 rfl rfl (by omega) (by omega) dX5_judge_80 ?_
              refine lv_aload_n hx hb dX5_judge_81 rfl (lv_at hl 2 rfl) ?_
              refine va_get (D := D) (ci := 5) (v := .ref yS) (C := RX5) (T := TX5) (N := 34) hx hb hts in_X5 hown hK hP 0 rfl rfl 4 (by decide) (hts _ (List.mem_cons_of_mem _ tf_X5_16)) (fun _ h9 => h9) rfl dX5_judge_82 ?_
              refine lv_iload_n hx hb dX5_judge_85 rfl (lv_at hl 4 rfl) ?_
              refine rn_aldM hx hb hK hP 2 0 rfl rfl (by omega) (by omega) dX5_judge_86 ?_
              refine rz_cle (tgt := 106) hx hb dX5_judge_87 (by decide) (by omega) (by omega) (fun c16 => ?_) (fun c16 => ?_)
              · refine lv_aload_n hx hb dX5_judge_106 rfl (lv_at hl 2 rfl) ?_
                refine va_get (D := D) (ci := 5) (v := .ref yS) (C := RX5) (T := TX5) (N := 34) hx hb hts in_X5 hown hK hP 0 rfl rfl 4 (by decide) (hts _ (List.mem_cons_of_mem _ tf_X5_16)) (fun _ h9 => h9) rfl dX5_judge_107 ?_
                refine lv_iload_n hx hb dX5_judge_110 rfl (lv_at hl 4 rfl) ?_
                refine rn_aldM hx hb hK hP 2 0 rfl rfl (by omega) (by omega) dX5_judge_111 ?_
                refine lv_aload_n hx hb dX5_judge_112 rfl (lv_at hl 2 rfl) ?_
                refine va_get (D := D) (ci := 5) (v := .ref yH) (C := RX5) (T := TX5) (N := 34) hx hb hts in_X5 hown hK hP 0 rfl rfl 24 (by decide) (hts _ (List.mem_cons_of_mem _ tf_X5_62)) (fun _ h9 => h9) rfl dX5_judge_113 ?_
                refine lv_iload_n hx hb dX5_judge_116 rfl (lv_at hl 4 rfl) ?_
                refine rn_aldM hx hb hK hP 4 0 rfl rfl (by omega) (by omega) dX5_judge_117 ?_
                refine rn_sub hx hb dX5_judge_118 (by omega) ?_
                refine rn_add hx hb dX5_judge_119 ?_
                refine rn_add hx hb dX5_judge_120 ?_
                refine lv_istore_n (lv' := [(2, .int (iI (((cc + (3 + ((sd b) - (gs b))) : Nat) : Int)))), (1, .int (iI (((ch + 1 : Nat) : Int)))), (4, .int (iI (((1 : Nat) : Int)))), (0, .ref hM), (3, .int (iI (((b : Nat) : Int))))]) hx hb dX5_judge_121 rfl hl (by decide) rfl (fun ls hl => ?_)
                refine lv_iinc (v := iI (((b + 1 : Nat) : Int))) (lv' := [(3, .int (iI (((b + 1 : Nat) : Int)))), (2, .int (iI (((cc + (3 + ((sd b) - (gs b))) : Nat) : Int)))), (1, .int (iI (((ch + 1 : Nat) : Int)))), (4, .int (iI (((1 : Nat) : Int)))), (0, .ref hM)]) hx hb dX5_judge_122 hl (k := 4) rfl (iI_inc _) (by decide) rfl (fun ls hl => ?_)
                refine lv_goto (tgt := 6) hx hb dX5_judge_125 (by decide) ?_
                exact ih (b + 1) (ch + 1) (cc + (3 + ((sd b) - (gs b)))) (by omega) (by omega) (by rw [chF, ← hc]; first | (rw [if_pos (by omega)]) | (rw [if_neg (by omega)])) (by rw [coF, ← hd]; first | (rw [if_pos (by omega)]; omega) | (rw [if_neg (by omega)]; omega)) _ _ _ hP hD hS (lv_sub hl [4, 2, 1, 0] rfl)
              · refine lv_aload_n hx hb dX5_judge_90 rfl (lv_at hl 2 rfl) ?_
                refine va_get (D := D) (ci := 5) (v := .ref yH) (C := RX5) (T := TX5) (N := 34) hx hb hts in_X5 hown hK hP 0 rfl rfl 24 (by decide) (hts _ (List.mem_cons_of_mem _ tf_X5_62)) (fun _ h9 => h9) rfl dX5_judge_91 ?_
                refine lv_iload_n hx hb dX5_judge_94 rfl (lv_at hl 4 rfl) ?_
                refine rn_aldM hx hb hK hP 4 0 rfl rfl (by omega) (by omega) dX5_judge_95 ?_
                refine lv_aload_n hx hb dX5_judge_96 rfl (lv_at hl 2 rfl) ?_
                refine va_get (D := D) (ci := 5) (v := .ref yS) (C := RX5) (T := TX5) (N := 34) hx hb hts in_X5 hown hK hP 0 rfl rfl 4 (by decide) (hts _ (List.mem_cons_of_mem _ tf_X5_16)) (fun _ h9 => h9) rfl dX5_judge_97 ?_
                refine lv_iload_n hx hb dX5_judge_100 rfl (lv_at hl 4 rfl) ?_
                refine rn_aldM hx hb hK hP 2 0 rfl rfl (by omega) (by omega) dX5_judge_101 ?_
                refine rn_sub hx hb dX5_judge_102 (by omega) ?_
                refine lv_goto (tgt := 119) hx hb dX5_judge_103 (by decide) ?_
                refine rn_add hx hb dX5_judge_119 ?_
                refine rn_add hx hb dX5_judge_120 ?_
                refine lv_istore_n (lv' := [(2, .int (iI (((cc + (3 + ((gs b) - (sd b))) : Nat) : Int)))), (1, .int (iI (((ch + 1 : Nat) : Int)))), (4, .int (iI (((1 : Nat) : Int)))), (0, .ref hM), (3, .int (iI (((b : Nat) : Int))))]) hx hb dX5_judge_121 rfl hl (by decide) rfl (fun ls hl => ?_)
                refine lv_iinc (v := iI (((b + 1 : Nat) : Int))) (lv' := [(3, .int (iI (((b + 1 : Nat) : Int)))), (2, .int (iI (((cc + (3 + ((gs b) - (sd b))) : Nat) : Int)))), (1, .int (iI (((ch + 1 : Nat) : Int)))), (4, .int (iI (((1 : Nat) : Int)))), (0, .ref hM)]) hx hb dX5_judge_122 hl (k := 4) rfl (iI_inc _) (by decide) rfl (fun ls hl => ?_)
                refine lv_goto (tgt := 6) hx hb dX5_judge_125 (by decide) ?_
                exact ih (b + 1) (ch + 1) (cc + (3 + ((gs b) - (sd b)))) (by omega) (by omega) (by rw [chF, ← hc]; first | (rw [if_pos (by omega)]) | (rw [if_neg (by omega)])) (by rw [coF, ← hd]; first | (rw [if_pos (by omega)]; omega) | (rw [if_neg (by omega)]; omega)) _ _ _ hP hD hS (lv_sub hl [4, 2, 1, 0] rfl)
          · exfalso; omega
  refine lv_iconst (v := iI (((0 : Nat) : Int))) hx hb dX5_judge_0 (by decide +kernel) ?_
  refine lv_istore_n (lv' := [(1, .int (iI (((0 : Nat) : Int)))), (0, .ref hM)]) hx hb dX5_judge_1 rfl hl (by decide) rfl (fun ls hl => ?_)
  refine lv_iconst (v := iI (((0 : Nat) : Int))) hx hb dX5_judge_2 (by decide +kernel) ?_
  refine lv_istore_n (lv' := [(2, .int (iI (((0 : Nat) : Int)))), (1, .int (iI (((0 : Nat) : Int)))), (0, .ref hM)]) hx hb dX5_judge_3 rfl hl (by decide) rfl (fun ls hl => ?_)
  refine lv_iconst (v := iI (((0 : Nat) : Int))) hx hb dX5_judge_4 (by decide +kernel) ?_
  refine lv_istore_n (lv' := [(3, .int (iI (((0 : Nat) : Int)))), (2, .int (iI (((0 : Nat) : Int)))), (1, .int (iI (((0 : Nat) : Int)))), (0, .ref hM)]) hx hb dX5_judge_5 rfl hl (by decide) rfl (fun ls hl => ?_)
  exact K6 (n - (0) + 1) (0) (0) (0) (Nat.lt_succ_self _) (by omega) rfl rfl _ _ _ hP hD hS (lv_sub hl [3, 2, 1, 0] rfl)
