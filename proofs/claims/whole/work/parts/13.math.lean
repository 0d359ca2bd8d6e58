/-! what a good plan is, and that the search looks for just these -/
def RuleOK (ln P : Nat → Nat) (kd a b d : Int) : Prop :=
  (kd = 0 → ((P b.toNat % 10 + ln b.toNat : Nat) : Int) + d ≤ ((P a.toNat % 10 : Nat) : Int)) ∧ (kd = 1 → P a.toNat / 10 ≠ P b.toNat / 10) ∧ (kd = 2 → ((P a.toNat % 10 + ln a.toNat : Nat) : Int) ≤ d) ∧ (kd = 3 → d ≤ ((P a.toNat % 10 : Nat) : Int))
def GoodW (ln fr : Nat → Nat) (rk ra rb rd : Nat → Int) (nr : Nat) (wo : Int) (n : Nat) (P : Nat → Nat) : Prop :=
  (∀ j, j < n → (fr j).testBit (P j) = true) ∧ (∀ i j, i < j → j < n → P i / 10 = P j / 10 → P i % 10 + ln i ≤ P j % 10 ∨ P j % 10 + ln j ≤ P i % 10) ∧ (∀ r, r < nr → ((r : Nat) : Int) ≠ wo → RuleOK ln P (rk r) (ra r) (rb r) (rd r))
/-- rules as they may be, of n batches -/
def RulesOK (rk ra rb rd : Nat → Int) (nr n : Nat) : Prop := ∀ j, j < nr → (0 ≤ rk j ∧ rk j ≤ 3) ∧ (0 ≤ ra j ∧ ra j < (n : Int)) ∧ (rk j ≤ 1 → 0 ≤ rb j ∧ rb j < (n : Int) ∧ ra j ≠ rb j) ∧ (rk j ≠ 1 → 0 ≤ rd j ∧ rd j ≤ 10)
section TG
variable {rk ra rb rd : Nat → Int} {wo : Int} {lg0 lg : Nat → Int} {ap0 ap op0 op2 ln fr P : Nat → Nat} {n nr : Nat}
theorem tkL_mono (kd a b d : Int) (j : Nat) : lg j ≤ tkL lg kd a b d j := by
  unfold tkL; split
  · by_cases e : j = a.toNat * 4 + b.toNat
    · subst e; rw [uZ_s]; omega
    · rw [uZ_n _ _ e]; omega
  · exact Int.le_refl _
theorem TL_ge : ∀ k r, r < k → ((r : Nat) : Int) ≠ wo → rk r = 0 → rd r ≤ TL rk ra rb rd wo lg0 k ((ra r).toNat * 4 + (rb r).toNat) := by
  intro k
  induction k with
  | zero => intro r h; omega
  | succ k ih =>
    intro r hr hw h0
    rw [TL]
    by_cases e : ((k : Nat) : Int) = wo
    · rw [if_pos e]; exact ih r (by omega) hw h0
    · rw [if_neg e]
      by_cases e2 : r = k
      · subst e2; unfold tkL; rw [if_pos h0, uZ_s]; omega
      · exact Int.le_trans (ih r (by omega) hw h0) (tkL_mono _ _ _ _ _)
theorem TL_at (h0 : ∀ j, j < 16 → lg0 j = -10) (hv : RulesOK rk ra rb rd nr n) (hn : n ≤ 4) : ∀ k, k ≤ nr → ∀ a b, a < 4 → b < 4 → TL rk ra rb rd wo lg0 k (a * 4 + b) = -10 ∨ ∃ r, r < k ∧ ((r : Nat) : Int) ≠ wo ∧ rk r = 0 ∧ (ra r).toNat = a ∧ (rb r).toNat = b ∧ TL rk ra rb rd wo lg0 k (a * 4 + b) = rd r := by
  intro k
  induction k with
  | zero => intro _ a b ha hb; exact Or.inl (h0 _ (by omega))
  | succ k ih =>
    intro hk a b ha hb
    have h1 := ih (by omega) a b ha hb
    rw [TL]
    by_cases e : ((k : Nat) : Int) = wo
    · rw [if_pos e]
      rcases h1 with h1 | ⟨r, q1, q2, q3⟩
      · exact Or.inl h1
      · exact Or.inr ⟨r, by omega, q2, q3⟩
    · rw [if_neg e]; unfold tkL
      by_cases e2 : rk k = 0
      · rw [if_pos e2]
        have hk2 := hv k (by omega)
        have hb2 := hk2.2.2.1 (by omega)
        by_cases e3 : a * 4 + b = (ra k).toNat * 4 + (rb k).toNat
        · have ea : (ra k).toNat = a := by omega
          have eb : (rb k).toNat = b := by omega
          rw [e3, uZ_s]; rw [← e3]
          rcases Int.le_total (rd k) (TL rk ra rb rd wo lg0 k (a * 4 + b)) with hle | hle
          · rw [Int.max_eq_left hle]
            rcases h1 with h1 | ⟨r, q1, q2, q3⟩
            · exact Or.inl h1
            · exact Or.inr ⟨r, by omega, q2, q3⟩
          · rw [Int.max_eq_right hle]
            exact Or.inr ⟨k, by omega, e, e2, ea, eb, rfl⟩
        · rw [uZ_n _ _ e3]
          rcases h1 with h1 | ⟨r, q1, q2, q3⟩
          · exact Or.inl h1
          · exact Or.inr ⟨r, by omega, q2, q3⟩
      · rw [if_neg e2]
        rcases h1 with h1 | ⟨r, q1, q2, q3⟩
        · exact Or.inl h1
        · exact Or.inr ⟨r, by omega, q2, q3⟩
theorem tkA_tb {a b : Int} (hab : a.toNat ≠ b.toNat) (x y : Nat) : (tkA ap 1 a b x).testBit y = true ↔ ((ap x).testBit y = true ∨ (x = a.toNat ∧ y = b.toNat) ∨ (x = b.toNat ∧ y = a.toNat)) := by
  unfold tkA; rw [if_pos rfl]
  have t2 : ∀ u : Nat, (1 * 2 ^ u).testBit y = decide (y = u) := fun u => by
    rw [Nat.one_mul, Nat.testBit_two_pow]; congr 1; apply propext; exact eq_comm
  by_cases e1 : x = b.toNat
  · rw [e1, uN_s, uN_n _ _ (Ne.symm hab), Nat.testBit_or, t2, Bool.or_eq_true, decide_eq_true_eq]
    constructor
    · rintro (h | h)
      · exact Or.inl h
      · exact Or.inr (Or.inr ⟨rfl, h⟩)
    · rintro (h | ⟨h1, h2⟩ | ⟨h1, h2⟩)
      · exact Or.inl h
      · exact absurd h1.symm hab
      · exact Or.inr h2
  · rw [uN_n _ _ e1]
    by_cases e2 : x = a.toNat
    · rw [e2, uN_s, Nat.testBit_or, t2, Bool.or_eq_true, decide_eq_true_eq]
      constructor
      · rintro (h | h)
        · exact Or.inl h
        · exact Or.inr (Or.inl ⟨rfl, h⟩)
      · rintro (h | ⟨h1, h2⟩ | ⟨h1, h2⟩)
        · exact Or.inl h
        · exact Or.inr h2
        · exact absurd h1 hab
    · rw [uN_n _ _ e2]; simp [e1, e2]
theorem TA_iff (h0 : ∀ j, j < 4 → ap0 j = 0) (hv : RulesOK rk ra rb rd nr n) : ∀ k, k ≤ nr → ∀ a b, a < 4 → ((TA rk ra rb wo ap0 k a).testBit b = true ↔ ∃ r, r < k ∧ ((r : Nat) : Int) ≠ wo ∧ rk r = 1 ∧ (((ra r).toNat = a ∧ (rb r).toNat = b) ∨ ((ra r).toNat = b ∧ (rb r).toNat = a))) := by
  intro k
  induction k with
  | zero => intro _ a b ha; rw [TA, h0 a ha, Nat.zero_testBit]; constructor
            · intro h; cases h
            · rintro ⟨r, hr, -⟩; omega
  | succ k ih =>
    intro hk a b ha
    have h1 := ih (by omega) a b ha
    rw [TA]
    by_cases e : ((k : Nat) : Int) = wo
    · rw [if_pos e, h1]
      constructor
      · rintro ⟨r, q1, q2⟩; exact ⟨r, by omega, q2⟩
      · rintro ⟨r, q1, q2, q3⟩
        have : r ≠ k := fun q => q2 (q ▸ e)
        exact ⟨r, by omega, q2, q3⟩
    · rw [if_neg e]
      by_cases e2 : rk k = 1
      · have hk2 := hv k (by omega)
        have hb2 := hk2.2.2.1 (by omega)
        rw [e2, tkA_tb (by omega), h1]
        constructor
        · rintro (⟨r, q1, q2⟩ | ⟨q1, q2⟩ | ⟨q1, q2⟩)
          · exact ⟨r, by omega, q2⟩
          · exact ⟨k, by omega, e, e2, Or.inl ⟨q1.symm, q2.symm⟩⟩
          · exact ⟨k, by omega, e, e2, Or.inr ⟨q2.symm, q1.symm⟩⟩
        · rintro ⟨r, q1, q2, q3, q4⟩
          by_cases er : r = k
          · subst er
            rcases q4 with ⟨u, v⟩ | ⟨u, v⟩
            · exact Or.inr (Or.inl ⟨u.symm, v.symm⟩)
            · exact Or.inr (Or.inr ⟨v.symm, u.symm⟩)
          · exact Or.inl ⟨r, by omega, q2, q3, q4⟩
      · unfold tkA; rw [if_neg e2, h1]
        constructor
        · rintro ⟨r, q1, q2⟩; exact ⟨r, by omega, q2⟩
        · rintro ⟨r, q1, q2, q3, q4⟩
          have : r ≠ k := fun q => e2 (q ▸ q3)
          exact ⟨r, by omega, q2, q3, q4⟩
theorem TO_iff (hv : RulesOK rk ra rb rd nr n) : ∀ k, k ≤ nr → ∀ j q, q < 30 → ((TO ln rk ra rd wo op0 k j).testBit q = true ↔ ((op0 j).testBit q = true ∧ ∀ r, r < k → ((r : Nat) : Int) ≠ wo → (ra r).toNat = j → (rk r = 2 → ((q % 10 + ln j : Nat) : Int) ≤ rd r) ∧ (rk r = 3 → rd r ≤ ((q % 10 : Nat) : Int)))) := by
  intro k
  induction k with
  | zero => intro _ j q _; rw [TO]; constructor
            · intro h; exact ⟨h, fun r hr => by omega⟩
            · exact fun h => h.1
  | succ k ih =>
    intro hk j q hq
    have h1 := ih (by omega) j q hq
    have hk2 := hv k (by omega)
    rw [TO]
    by_cases e : ((k : Nat) : Int) = wo
    · rw [if_pos e, h1]
      refine and_congr_right (fun _ => ⟨fun h r hr hw => h r (Nat.lt_of_le_of_ne (by omega) (fun q => hw (q ▸ e))) hw, fun h r hr hw => h r (by omega) hw⟩)
    · rw [if_neg e]; unfold tkO
      by_cases e2 : rk k = 2
      · rw [if_pos e2]
        by_cases ej : j = (ra k).toNat
        · rw [ej, uN_s, Nat.testBit_and, Bool.and_eq_true, ← ej, h1, ie_tb _ (daysF_lt _ _) _ hq, daysF_tb]
          have hd := hk2.2.2.2 (by omega)
          constructor
          · rintro ⟨⟨q1, q2⟩, q3⟩
            refine ⟨q1, fun r hr hw hra => ?_⟩
            by_cases er : r = k
            · subst er; simp at q3; exact ⟨fun _ => by omega, fun h => by omega⟩
            · exact q2 r (by omega) hw hra
          · rintro ⟨q1, q2⟩
            refine ⟨⟨q1, fun r hr hw hra => q2 r (by omega) hw hra⟩, ?_⟩
            have := (q2 k (by omega) e ej.symm).1 e2
            simp; omega
        · rw [uN_n _ _ ej, h1]
          refine and_congr_right (fun _ => ⟨fun h r hr hw hra => h r (Nat.lt_of_le_of_ne (by omega) (fun q => ej (q ▸ hra.symm))) hw hra, fun h r hr hw hra => h r (by omega) hw hra⟩)
      · rw [if_neg e2]
        by_cases e3 : rk k = 3
        · rw [if_pos e3]
          by_cases ej : j = (ra k).toNat
          · rw [ej, uN_s, Nat.testBit_and, Bool.and_eq_true, ← ej, h1, ie_tb _ (daysF_lt _ _) _ hq, daysF_tb]
            have hd := hk2.2.2.2 (by omega)
            constructor
            · rintro ⟨⟨q1, q2⟩, q3⟩
              refine ⟨q1, fun r hr hw hra => ?_⟩
              by_cases er : r = k
              · subst er; simp at q3; exact ⟨fun h => by omega, fun _ => by omega⟩
              · exact q2 r (by omega) hw hra
            · rintro ⟨q1, q2⟩
              refine ⟨⟨q1, fun r hr hw hra => q2 r (by omega) hw hra⟩, ?_⟩
              have := (q2 k (by omega) e ej.symm).2 e3
              simp; omega
          · rw [uN_n _ _ ej, h1]
            refine and_congr_right (fun _ => ⟨fun h r hr hw hra => h r (Nat.lt_of_le_of_ne (by omega) (fun q => ej (q ▸ hra.symm))) hw hra, fun h r hr hw hra => h r (by omega) hw hra⟩)
        · rw [if_neg e3, h1]
          refine and_congr_right (fun _ => ⟨fun h r hr hw hra => ?_, fun h r hr hw hra => h r (by omega) hw hra⟩)
          by_cases er : r = k
          · subst er; exact ⟨fun q => absurd q e2, fun q => absurd q e3⟩
          · exact h r (by omega) hw hra
theorem bes_iff {i p j q : Nat} (hp : p < 30) (hq : q < 30) : (besF ln lg ap i p j).testBit q = true ↔ (((p % 10 + ln i : Nat) : Int) + lg (j * 4 + i) ≤ ((q % 10 : Nat) : Int) ∧ ((q % 10 + ln j : Nat) : Int) + lg (i * 4 + j) ≤ ((p % 10 : Nat) : Int) ∧ (p / 10 = q / 10 → (ap i).testBit j = false ∧ (p % 10 + ln i ≤ q % 10 ∨ q % 10 + ln j ≤ p % 10))) := by
  have h10 : q % 10 < 10 := Nat.mod_lt _ (by decide)
  have sh : ∀ T, T < 1024 → ((T * 2 ^ (p / 10 * 10)).testBit q = true ↔ (p / 10 = q / 10 ∧ T.testBit (q % 10) = true)) := by
    intro T hT
    rw [Nat.testBit_mul_two_pow]
    constructor
    · intro h
      simp at h
      have h2 : q - p / 10 * 10 < 10 := by
        rcases Nat.lt_or_ge (q - p / 10 * 10) 10 with h3 | h3
        · exact h3
        · have : T < 2 ^ (q - p / 10 * 10) := Nat.lt_of_lt_of_le hT (show 2 ^ 10 ≤ 2 ^ (q - p / 10 * 10) from Nat.pow_le_pow_right (by decide) h3)
          rw [Nat.testBit_lt_two_pow this] at h; exact absurd h.2 (by decide)
      have h4 : p / 10 = q / 10 := by omega
      refine ⟨h4, ?_⟩
      rw [show q % 10 = q - p / 10 * 10 by omega]; exact h.2
    · rintro ⟨h4, h5⟩
      rw [show q - p / 10 * 10 = q % 10 by omega, h5]; simp; omega
  rw [besF, dif_tb (by omega), Bool.and_eq_true, ie_tb _ (daysF_lt _ _) _ hq, daysF_tb, Bool.not_eq_true']
  by_cases ha : (ap i).testBit j = true
  · rw [if_pos ha]
    have s1 := sh 1023 (by decide)
    rw [show Nat.testBit 1023 (q % 10) = true from by rw [show (1023 : Nat) = 2 ^ 10 - 1 from rfl, Nat.testBit_two_pow_sub_one]; simp [h10]] at s1
    constructor
    · rintro ⟨q1, q2⟩
      simp at q1
      refine ⟨by omega, by omega, fun e => ?_⟩
      have := s1.mpr ⟨e, rfl⟩
      rw [this] at q2; cases q2
    · rintro ⟨q1, q2, q3⟩
      refine ⟨by simp; omega, ?_⟩
      cases hs : (1023 * 2 ^ (p / 10 * 10)).testBit q
      · rfl
      · have := (q3 (s1.mp hs).1).1; rw [ha] at this; cases this
  · rw [if_neg ha]
    have s1 := sh _ (daysF_lt ((((p % 10 : Nat) : Int) - ((ln j : Nat) : Int)) + ((1 : Nat) : Int)) (((p % 10 + ln i : Nat) : Int) - ((1 : Nat) : Int)))
    rw [daysF_tb, decide_eq_true_eq] at s1
    constructor
    · rintro ⟨q1, q2⟩
      simp at q1
      refine ⟨by omega, by omega, fun e => ⟨by simpa using ha, ?_⟩⟩
      rcases Nat.lt_or_ge (q % 10) (p % 10 + ln i) with h1 | h1
      · rcases Nat.lt_or_ge (p % 10) (q % 10 + ln j) with h2 | h2
        · have := s1.mpr ⟨e, by omega, by omega, h10⟩
          rw [this] at q2; cases q2
        · exact Or.inr h2
      · exact Or.inl h1
    · rintro ⟨q1, q2, q3⟩
      refine ⟨by simp; omega, ?_⟩
      cases hs : (daysF ((((p % 10 : Nat) : Int) - ((ln j : Nat) : Int)) + ((1 : Nat) : Int)) (((p % 10 + ln i : Nat) : Int) - ((1 : Nat) : Int)) * 2 ^ (p / 10 * 10)).testBit q
      · rfl
      · have h1 := s1.mp hs
        have h2 := (q3 h1.1).2
        omega
/-- what the search holds when the rules are taken over: it looks for the good plans -/
theorem take_good (hn : n ≤ 4) (hv : RulesOK rk ra rb rd nr n) (hfit : ∀ j q, j < n → (fr j).testBit q = true → q < 30 ∧ q % 10 + ln j ≤ 10) (h1 : ∀ j, j < 16 → lg0 j = -10) (h2 : ∀ j, j < 4 → ap0 j = 0) (h3 : ∀ j, j < n → op0 j = fr j) (h4 : lg = TL rk ra rb rd wo lg0 nr) (h5 : ap = TA rk ra rb wo ap0 nr)
    (h9 : ∀ j t, (op2 j).testBit t = true → (TO ln rk ra rd wo op0 nr j).testBit t = true) (hE : ∀ P, KeepP ln lg n (TO ln rk ra rd wo op0 nr) P → KeepP ln lg n op2 P) (hB : ∀ j, op2 j < 1073741824) :
    ∀ P, SolF ln lg ap n 0 (fun j => op2 (0 * 4 + j)) P ↔ GoodW ln fr rk ra rb rd nr wo n P := by
  have e0 : (fun j => op2 (0 * 4 + j)) = op2 := by funext j; simp
  rw [e0]
  intro P
  constructor
  · intro h
    have hb : ∀ j, j < n → (op2 j).testBit (P j) = true ∧ P j < 30 := fun j hj => ⟨h.1 j (Nat.zero_le _) hj, bit_30 (hB _) (h.1 j (Nat.zero_le _) hj)⟩
    have hto : ∀ j, j < n → (fr j).testBit (P j) = true ∧ ∀ r, r < nr → ((r : Nat) : Int) ≠ wo → (ra r).toNat = j → (rk r = 2 → ((P j % 10 + ln j : Nat) : Int) ≤ rd r) ∧ (rk r = 3 → rd r ≤ ((P j % 10 : Nat) : Int)) := fun j hj => by
      have := (TO_iff (ln := ln) (wo := wo) (op0 := op0) hv nr (Nat.le_refl _) j (P j) (hb j hj).2).mp (h9 j _ (hb j hj).1)
      rw [h3 j hj] at this; exact this
    have hpr : ∀ i j, i < j → j < n → _ := fun i j hij hj => (bes_iff (ln := ln) (lg := lg) (ap := ap) (i := i) (j := j) (hb i (by omega)).2 (hb j hj).2).mp (h.2 i j (Nat.zero_le _) hij hj)
    refine ⟨fun j hj => (hto j hj).1, fun i j hij hj e => ((hpr i j hij hj).2.2 e).2, fun r hr hw => ?_⟩
    obtain ⟨v1, v2, v3, v4⟩ := hv r hr
    refine ⟨fun hk => ?_, fun hk => ?_, fun hk => ((hto (ra r).toNat (by omega)).2 r hr hw rfl).1 hk, fun hk => ((hto (ra r).toNat (by omega)).2 r hr hw rfl).2 hk⟩
    · have v5 := v3 (by omega)
      have hge := TL_ge (rk := rk) (ra := ra) (rb := rb) (rd := rd) (wo := wo) (lg0 := lg0) nr r hr hw hk
      rw [← h4] at hge
      rcases Nat.lt_trichotomy (ra r).toNat (rb r).toNat with hlt | heq | hlt
      · have := (hpr (ra r).toNat (rb r).toNat hlt (by omega)).2.1; omega
      · omega
      · have := (hpr (rb r).toNat (ra r).toNat hlt (by omega)).1; omega
    · have v5 := v3 (by omega)
      intro e
      have ta := fun a b ha => TA_iff (rk := rk) (ra := ra) (rb := rb) (rd := rd) (wo := wo) (ap0 := ap0) h2 hv nr (Nat.le_refl _) a b ha
      rw [← h5] at ta
      rcases Nat.lt_trichotomy (ra r).toNat (rb r).toNat with hlt | heq | hlt
      · have h6 := ((hpr (ra r).toNat (rb r).toNat hlt (by omega)).2.2 e).1
        rw [(ta (ra r).toNat (rb r).toNat (by omega)).mpr ⟨r, hr, hw, hk, Or.inl ⟨rfl, rfl⟩⟩] at h6; cases h6
      · omega
      · have h6 := ((hpr (rb r).toNat (ra r).toNat hlt (by omega)).2.2 e.symm).1
        rw [(ta (rb r).toNat (ra r).toNat (by omega)).mpr ⟨r, hr, hw, hk, Or.inr ⟨rfl, rfl⟩⟩] at h6; cases h6
  · intro h
    have hf : ∀ j, j < n → P j < 30 ∧ P j % 10 + ln j ≤ 10 := fun j hj => hfit j (P j) hj (h.1 j hj)
    have hlag : ∀ a b, a < n → b < n → lg (a * 4 + b) = -10 ∨ ((P b % 10 + ln b : Nat) : Int) + lg (a * 4 + b) ≤ ((P a % 10 : Nat) : Int) := fun a b ha hb => by
      rcases TL_at (wo := wo) h1 hv hn nr (Nat.le_refl _) a b (by omega) (by omega) with q | ⟨r, q1, q2, q3, q4, q5, q6⟩
      · rw [← h4] at q; exact Or.inl q
      · rw [← h4] at q6
        have := (h.2.2 r q1 q2).1 q3
        rw [q4, q5] at this; right; omega
    have hk0 : KeepP ln lg n (TO ln rk ra rd wo op0 nr) P := by
      refine ⟨fun j hj => ⟨(TO_iff (ln := ln) (wo := wo) (op0 := op0) hv nr (Nat.le_refl _) j (P j) (hf j hj).1).mpr ⟨by rw [h3 j hj]; exact h.1 j hj, fun r hr hw hra => ?_⟩, (hf j hj).1⟩, fun a b ha hb hne => (hlag a b ha hb).resolve_left hne⟩
      have := h.2.2 r hr hw
      subst hra
      exact ⟨this.2.2.1, this.2.2.2⟩
    have hk2 := hE P hk0
    refine ⟨fun j _ hj => (hk2.1 j hj).1, fun i j _ hij hj => (bes_iff (hf i (by omega)).1 (hf j hj).1).mpr ⟨?_, ?_, fun e => ⟨?_, h.2.1 i j hij hj e⟩⟩⟩
    · have := hf i (by omega)
      rcases hlag j i hj (by omega) with q | q <;> omega
    · have := hf j hj
      rcases hlag i j (by omega) hj with q | q <;> omega
    · cases hs : (ap i).testBit j
      · rfl
      · rw [h5] at hs
        obtain ⟨r, q1, q2, q3, q4⟩ := (TA_iff (rd := rd) h2 hv nr (Nat.le_refl _) i j (by omega)).mp hs
        have := (h.2.2 r q1 q2).2.1 q3
        rcases q4 with ⟨u, v⟩ | ⟨u, v⟩
        · rw [u, v] at this; exact absurd e this
        · rw [u, v] at this; exact absurd e.symm this
end TG
