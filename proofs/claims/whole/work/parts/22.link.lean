/-! class and reference: the same good plans, the same best one -/
theorem and_zero {x y : Nat} : x &&& y = 0 ↔ ∀ i, ¬ (x.testBit i = true ∧ y.testBit i = true) := by
  constructor
  · rintro h i ⟨h1, h2⟩
    have : (x &&& y).testBit i = true := by rw [Nat.testBit_and, h1, h2]; rfl
    rw [h, Nat.zero_testBit] at this; cases this
  · intro h
    apply Nat.eq_of_testBit_eq
    intro i
    rw [Nat.testBit_and, Nat.zero_testBit]
    have := h i
    cases h1 : x.testBit i
    · rfl
    · cases h2 : y.testBit i
      · rfl
      · exact absurd ⟨h1, h2⟩ this
theorem frF_iff {bl pl ea : Nat → Nat} {fz : Nat → Bool} {T dd sh j q : Nat} (hl : bl j ≤ 10) : (frF bl pl ea fz T dd sh j).testBit q = true ↔ (q < T * 10 ∧ ea j ≤ q % 10 ∧ q % 10 + bl j ≤ dd ∧ (∀ d, d < bl j → sh.testBit (q + d) = false) ∧ (fz j = true → q = pl j)) := by
  have h10 : q % 10 < 10 := Nat.mod_lt _ (by decide)
  have hz : (sh / 2 ^ q &&& daysF 0 (((bl j : Nat) : Int) - ((1 : Nat) : Int)) = 0) ↔ ∀ d, d < bl j → sh.testBit (q + d) = false := by
    rw [and_zero]
    constructor
    · intro h d hd
      have := h d
      rw [Nat.testBit_div_two_pow, daysF_tb] at this
      cases hs : sh.testBit (q + d)
      · rfl
      · exfalso; apply this; rw [Nat.add_comm d q]; exact ⟨hs, decide_eq_true (by omega)⟩
    · rintro h i ⟨h1, h2⟩
      rw [Nat.testBit_div_two_pow] at h1
      rw [daysF_tb, decide_eq_true_eq] at h2
      have := h i (by omega)
      rw [Nat.add_comm q i, h1] at this; cases this
  have hf : (freeF (daysF ((ea j : Nat) : Int) (((dd : Nat) : Int) - ((bl j : Nat) : Int))) (daysF 0 (((bl j : Nat) : Int) - ((1 : Nat) : Int))) sh (T * 10)).testBit q = true ↔ (q < T * 10 ∧ ea j ≤ q % 10 ∧ q % 10 + bl j ≤ dd ∧ ∀ d, d < bl j → sh.testBit (q + d) = false) := by
    rw [freeF_tb, daysF_tb, Bool.and_eq_true, Bool.and_eq_true, decide_eq_true_eq, decide_eq_true_eq, decide_eq_true_eq, hz]
    constructor
    · rintro ⟨a, ⟨b, c, d⟩, e⟩; exact ⟨a, by omega, by omega, e⟩
    · rintro ⟨a, b, c, e⟩; exact ⟨a, ⟨by omega, by omega, by omega⟩, e⟩
  unfold frF
  by_cases h : fz j = true
  · rw [if_pos h, Nat.testBit_and, Bool.and_eq_true, hf, Nat.one_mul, Nat.testBit_two_pow, decide_eq_true_eq]
    constructor
    · rintro ⟨⟨a, b, c, d⟩, e⟩; exact ⟨a, b, c, d, fun _ => e.symm⟩
    · rintro ⟨a, b, c, d, e⟩; exact ⟨⟨a, b, c, d⟩, (e h).symm⟩
  · rw [if_neg h, hf]
    constructor
    · rintro ⟨a, b, c, d⟩; exact ⟨a, b, c, d, fun q => absurd q h⟩
    · rintro ⟨a, b, c, d, e⟩; exact ⟨a, b, c, d⟩
/-- the days that are shut: as bits, and as the outs tell them -/
def ShutR (sh no T dd : Nat) (ot of_ oo : Nat → Int) : Prop := sh < 1073741824 ∧ (∀ q, q < 30 → (sh.testBit q = true ↔ ∃ o, o < no ∧ ot o = ((q / 10 : Nat) : Int) ∧ of_ o ≤ ((q % 10 : Nat) : Int) ∧ ((q % 10 : Nat) : Int) < oo o)) ∧ ∀ o, o < no → (0 ≤ ot o ∧ ot o < (T : Int)) ∧ (0 ≤ of_ o ∧ of_ o < oo o ∧ oo o ≤ (dd : Int))
theorem good_iff {ln tk sd ea : Nat → Nat} {fz : Nat → Bool} {T dd sh no nr n : Nat} {ot of_ oo rk ra rb rd : Nat → Int} (hT : 1 ≤ T ∧ T ≤ 3) (hdd : 1 ≤ dd ∧ dd ≤ 10) (hln : ∀ j, ln j ≤ 10) (hl1 : ∀ j, j < n → 1 ≤ ln j) (hsd : ∀ j, sd j < 10) (hv : RulesOK rk ra rb rd nr n) (hs : ShutR sh no T dd ot of_ oo) (wo : Int) (P : Nat → Nat) :
    GoodW ln (frF ln (plF tk sd) ea fz T dd sh) rk ra rb rd nr wo n P ↔ GRf T n (fun P j => FitP dd ln tk sd ea fz ot of_ oo no rk ra rb rd nr wo (fun i => P i / 10) (fun i => P i % 10) j) P := by
  have hshut : ∀ j q, j < n → q < T * 10 → q % 10 + ln j ≤ dd → ((∀ d, d < ln j → sh.testBit (q + d) = false) ↔ ∀ o, o < no → (ot o ≠ ((q / 10 : Nat) : Int) ∨ ((q % 10 + ln j : Nat) : Int) ≤ of_ o ∨ oo o ≤ ((q % 10 : Nat) : Int))) := by
    intro j q hj hq hfit
    have h1 := hl1 j hj
    constructor
    · intro h o ho
      have hv2 := hs.2.2 o ho
      rcases Classical.em (ot o = ((q / 10 : Nat) : Int)) with e | e
      · right
        rcases Int.lt_or_le (of_ o) ((q % 10 + ln j : Nat) : Int) with h2 | h2
        · right
          rcases Int.lt_or_le ((q % 10 : Nat) : Int) (oo o) with h3 | h3
          · exfalso
            -- a day in both
            rcases Int.le_total (of_ o) ((q % 10 : Nat) : Int) with h4 | h4
            · have h5 := h 0 (by omega)
              rw [Nat.add_zero] at h5
              have := (hs.2.1 q (by omega)).mpr ⟨o, ho, e, h4, h3⟩
              rw [h5] at this; cases this
            · obtain ⟨f, hf⟩ := Int.eq_ofNat_of_zero_le hv2.2.1
              have h5 := h (f - q % 10) (by omega)
              have := (hs.2.1 (q + (f - q % 10)) (by omega)).mpr ⟨o, ho, by rw [e]; congr 1; omega, by omega, by omega⟩
              rw [h5] at this; cases this
          · exact h3
        · left; exact h2
      · left; exact e
    · intro h d hd
      cases hb : sh.testBit (q + d)
      · rfl
      · exfalso
        obtain ⟨o, ho, e1, e2, e3⟩ := (hs.2.1 (q + d) (by omega)).mp hb
        rcases h o ho with h2 | h2 | h2
        · apply h2; rw [e1]; congr 1; omega
        · omega
        · omega
  constructor
  · intro h j hj
    obtain ⟨f1, f2, f3, f4, f5⟩ := (frF_iff (hln j)).mp (h.1 j hj)
    refine ⟨by omega, ⟨⟨⟨f3, f2, fun q => ?_⟩, fun o ho => (hshut j (P j) hj f1 f3).mp f4 o ho⟩, fun c hc => ?_⟩, fun r hr => ?_⟩
    · have e : P j = tk j * 10 + sd j := f5 q
      have := hsd j
      exact ⟨by show P j / 10 = _; omega, by show P j % 10 = _; omega⟩
    · show P c / 10 ≠ P j / 10 ∨ P j % 10 + ln j ≤ P c % 10 ∨ P c % 10 + ln c ≤ P j % 10
      rcases Classical.em (P c / 10 = P j / 10) with e | e
      · rcases h.2.1 c j hc hj e with q | q
        · exact Or.inr (Or.inr q)
        · exact Or.inr (Or.inl q)
      · exact Or.inl e
    · rcases Classical.em (((r : Nat) : Int) = wo) with e | e
      · exact Or.inl e
      · right
        obtain ⟨k0, k1, k2, k3⟩ := h.2.2 r hr e
        refine ⟨fun a b => ?_, fun a b => ?_, fun a b c d => ?_, fun a b c d => ?_⟩
        · have := k2 a; show ((P (ra r).toNat % 10 : Nat) : Int) + ((ln (ra r).toNat : Nat) : Int) ≤ rd r; omega
        · exact k3 a
        · have := k0 a; show ((P (rb r).toNat % 10 : Nat) : Int) + ((ln (rb r).toNat : Nat) : Int) + rd r ≤ ((P (ra r).toNat % 10 : Nat) : Int); omega
        · have := k1 a; show ((P (ra r).toNat / 10 : Nat) : Int) ≠ ((P (rb r).toNat / 10 : Nat) : Int); omega
  · intro h
    refine ⟨fun j hj => ?_, fun i j hij hj e => ?_, fun r hr hw => ?_⟩
    · obtain ⟨g1, ⟨⟨⟨u1, u2, u3⟩, o1⟩, c1⟩, r1⟩ := h j hj
      have u1' : P j % 10 + ln j ≤ dd := u1
      refine (frF_iff (hln j)).mpr ⟨by omega, u2, u1, (hshut j (P j) hj (by omega) u1').mpr o1, fun q => ?_⟩
      have q1 := (u3 q).1
      have q2 := (u3 q).2
      have q1' : P j / 10 = tk j := q1
      have q2' : P j % 10 = sd j := q2
      show P j = tk j * 10 + sd j; omega
    · obtain ⟨g1, ⟨⟨-, c1⟩, -⟩⟩ := h j hj
      have := c1 i hij
      have c2 : P i / 10 ≠ P j / 10 ∨ P j % 10 + ln j ≤ P i % 10 ∨ P i % 10 + ln i ≤ P j % 10 := this
      omega
    · obtain ⟨v1, v2, v3, v4⟩ := hv r hr
      have key : ∀ j, j < n → KpP ln (fun i => P i / 10) (fun i => P i % 10) (rk r) (ra r) (rb r) (rd r) j := fun j hj => by
        obtain ⟨-, ⟨-, r1⟩⟩ := h j hj
        exact (r1 r hr).resolve_left hw
      refine ⟨fun a => ?_, fun a => ?_, fun a => ?_, fun a => ?_⟩
      · have v5 := v3 (by omega)
        rcases Int.le_total (ra r) (rb r) with q | q
        · have := (key (rb r).toNat (by omega)).2.2.1 a (by omega) (by omega) (Or.inr (by omega))
          have t2 : ((P (rb r).toNat % 10 : Nat) : Int) + ((ln (rb r).toNat : Nat) : Int) + rd r ≤ ((P (ra r).toNat % 10 : Nat) : Int) := this
          omega
        · have := (key (ra r).toNat (by omega)).2.2.1 a (by omega) (by omega) (Or.inl (by omega))
          have t2 : ((P (rb r).toNat % 10 : Nat) : Int) + ((ln (rb r).toNat : Nat) : Int) + rd r ≤ ((P (ra r).toNat % 10 : Nat) : Int) := this
          omega
      · have v5 := v3 (by omega)
        rcases Int.le_total (ra r) (rb r) with q | q
        · have := (key (rb r).toNat (by omega)).2.2.2 a (by omega) (by omega) (Or.inr (by omega))
          have t2 : ((P (ra r).toNat / 10 : Nat) : Int) ≠ ((P (rb r).toNat / 10 : Nat) : Int) := this
          omega
        · have := (key (ra r).toNat (by omega)).2.2.2 a (by omega) (by omega) (Or.inl (by omega))
          have t2 : ((P (ra r).toNat / 10 : Nat) : Int) ≠ ((P (rb r).toNat / 10 : Nat) : Int) := this
          omega
      · have := (key (ra r).toNat (by omega)).1 a (by omega)
        have t2 : ((P (ra r).toNat % 10 : Nat) : Int) + ((ln (ra r).toNat : Nat) : Int) ≤ rd r := this
        omega
      · have := (key (ra r).toNat (by omega)).2.1 a (by omega)
        exact this
theorem best_unique {G G' : (Nat → Nat) → Prop} {hm P P' : Nat → Nat} {n : Nat} (hG : ∀ P, G P ↔ G' P) (h : BestP G hm n P) (h' : BestP G' hm n P') : WtF hm P n = WtF hm P' n ∧ ∀ j, j < n → P j = P' j := by
  have a := h.2 P' ((hG P').mpr h'.1)
  have b := h'.2 P ((hG P).mp h.1)
  have e : WtF hm P n = WtF hm P' n := by omega
  refine ⟨e, ?_⟩
  apply Classical.byContradiction
  intro hne
  have hne2 : ∃ j, j < n ∧ P j ≠ P' j := by
    apply Classical.byContradiction
    intro q; apply hne; intro j hj
    apply Classical.byContradiction
    intro q2; exact q ⟨j, hj, q2⟩
  obtain ⟨i, ⟨hi, hd⟩, hmin⟩ := pk_least (fun j => j < n ∧ P j ≠ P' j) hne2
  have heq : ∀ j, j < i → P j = P' j := fun j hj => by
    apply Classical.byContradiction
    intro q; exact hmin j hj ⟨by omega, q⟩
  rcases Nat.lt_or_gt_of_ne hd with q | q
  · have := b.2 ⟨i, hi, q, heq⟩; omega
  · have := a.2 ⟨i, hi, q, fun j hj => (heq j hj).symm⟩; omega
theorem bar_unique {G G' : Int → (Nat → Nat) → Prop} {nr bar bar' : Nat} (hG : ∀ w P, G w P ↔ G' w P) (h : BarP G nr bar) (h' : BarP G' nr bar') : bar = bar' := by
  obtain ⟨a1, a2, a3⟩ := h
  obtain ⟨b1, b2, b3⟩ := h'
  rcases Nat.lt_trichotomy bar bar' with q | q | q
  · obtain ⟨P, hP⟩ := a2 (by omega)
    exact absurd ((hG _ P).mp hP) (b3 bar q P)
  · exact q
  · obtain ⟨P, hP⟩ := b2 (by omega)
    exact absurd ((hG _ P).mpr hP) (a3 bar' q P)
/-- a shelf of the class, and the reference's, hold the same plans -/
def ShelfR (un : Nat) (sz sp us up : Nat → Nat) : Prop := ∀ v, v < un → sz v = us v ∧ ∀ j, j < us v → sp (v * 4 + j) = up (8 * v + 2 * j) * 10 + up (8 * v + 2 * j + 1)
def ChgR (cs : Nat) (wc : Nat → Bool) : Prop := cs < 16 ∧ ∀ j, j < 4 → cs.testBit j = wc j
