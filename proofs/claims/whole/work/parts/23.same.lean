/-! class and reference answer alike, and stay alike -/
theorem shelf_push {un n : Nat} {sz sp us up us2 up2 tk sd : Nat → Nat} (hun : un ≤ 16) (hn : n ≤ 4) (hus : ∀ j, us j ≤ 4) (h : ShelfR un sz sp us up) (k3 : us2 (pshN un) = n) (k4 : onS up2 (pshN un) n tk sd)
    (k5 : ∀ v, v < pshN un → us2 v = (if 16 ≤ un then us (v + 1) else us v) ∧ ∀ i, i < 8 → up2 (8 * v + i) = (if 16 ≤ un then up (8 * (v + 1) + i) else up (8 * v + i))) : ShelfR (pshN un + 1) (pshZ un sz n) (pshP un sp (plF tk sd) n) us2 up2 := by
  intro v hv
  have hp : pshN un ≤ 15 ∧ (16 ≤ un → pshN un = 15 ∧ un = 16) ∧ (¬ 16 ≤ un → pshN un = un) := by unfold pshN; split <;> omega
  by_cases e : v = pshN un
  · rw [e]
    refine ⟨by rw [pshZ, uN_s, k3], fun j hj => ?_⟩
    rw [k3] at hj
    rw [pshP, pk_cpy_in (by omega) (by omega), show 0 + (pshN un * 4 + j - pshN un * 4) = j by omega, (k4 j hj).1, (k4 j hj).2]
  · obtain ⟨q1, q2⟩ := k5 v (by omega)
    by_cases h16 : 16 ≤ un
    · rw [if_pos h16] at q1
      obtain ⟨r1, r2⟩ := h (v + 1) (by omega)
      refine ⟨?_, fun j hj => ?_⟩
      · rw [pshZ, uN_n _ _ e, if_pos h16, pk_cpy_in (by omega) (by omega), q1, ← r1]; congr 1; omega
      · rw [q1] at hj
        have hj4 := hus (v + 1)
        have e1 := q2 (2 * j) (by omega)
        have e2 := q2 (2 * j + 1) (by omega)
        rw [if_pos h16] at e1 e2
        rw [pshP, pk_cpy_out (by omega), if_pos h16, pk_cpy_in (by omega) (by omega), e1, show 8 * v + 2 * j + 1 = 8 * v + (2 * j + 1) by omega, e2, show 4 + (v * 4 + j - 0) = (v + 1) * 4 + j by omega, r2 j hj]; rfl
    · rw [if_neg h16] at q1
      obtain ⟨r1, r2⟩ := h v (by omega)
      refine ⟨?_, fun j hj => ?_⟩
      · rw [pshZ, uN_n _ _ e, if_neg h16, q1, r1]
      · rw [q1] at hj
        have hj4 := hus v
        have e1 := q2 (2 * j) (by omega)
        have e2 := q2 (2 * j + 1) (by omega)
        rw [if_neg h16] at e1 e2
        rw [pshP, pk_cpy_out (by omega), if_neg h16, e1, show 8 * v + 2 * j + 1 = 8 * v + (2 * j + 1) by omega, e2, r2 j hj]; rfl
theorem psh_b {un n : Nat} {sz sp pl : Nat → Nat} (hn : n ≤ 4) (hz : ∀ j, sz j ≤ 4) (hsp : ∀ j, sp j < 30) (hpl : ∀ j, pl j < 30) : (∀ j, pshZ un sz n j ≤ 4) ∧ ∀ j, pshP un sp pl n j < 30 := by
  refine ⟨uN_all (P := fun x => x ≤ 4) ?_ _ hn, cpy_all (Q := fun x => x < 30) hpl ?_ _ _ _⟩
  · intro j; split
    · exact cpy_all (Q := fun x => x ≤ 4) hz hz _ _ _ j
    · exact hz j
  · intro j; split
    · exact cpy_all (Q := fun x => x < 30) hsp hsp _ _ _ j
    · exact hsp j
theorem run_same {G G' : Int → (Nat → Nat) → Prop} {nr n cs lc un cs2 lc2 cn2 bd2 un2 : Nat} {tk sd sz sp us up pl2 sz2 sp2 tk2 sd2 us2 up2 : Nat → Nat} {wc wc2 : Nat → Bool} {nd z z' : Int} {co co2 co2' : Int64} (hG : ∀ w P, G w P ↔ G' w P) (hn : n ≤ 4) (hun : un ≤ 16) (hus : ∀ j, us j ≤ 4) (hz : ∀ j, sz j ≤ 4) (hsp : ∀ j, sp j < 30) (hpl : ∀ j, plF tk sd j < 30) (hbig : ∀ P, G (-1) P → ∀ j, j < n → P j < 30) (hsh : ShelfR un sz sp us up) (hch : ChgR cs wc)
    (h : RunR G nr n (plF tk sd) nd z cs lc co un sz sp cs2 lc2 co2 pl2 cn2 sz2 sp2) (h' : RunM G' nr n tk sd nd z' lc co wc un us up bd2 co2' tk2 sd2 wc2 un2 us2 up2) :
    z = z' ∧ lc2 = bd2 ∧ co2 = co2' ∧ pl2 = plF tk2 sd2 ∧ ChgR cs2 wc2 ∧ cn2 = un2 ∧ cn2 ≤ 16 ∧ ShelfR cn2 sz2 sp2 us2 up2 ∧ (∀ j, plF tk2 sd2 j < 30) ∧ (∀ j, sz2 j ≤ 4) ∧ (∀ j, sp2 j < 30) := by
  rcases h with ⟨a0, a1, a2, a3, a4, a5, a6, a7, a8⟩ | ⟨a0, an, ⟨bar, ab, a1⟩, a2, a3, a4, a5, a6, a7, a8⟩ | ⟨a0, ae, as, a1, a2, a3, a4, a5, a6, a7, a8⟩ | ⟨a0, P, ab, al, a1, a2, a3, a4, a5, a6, a7, a8⟩
  · rcases h' with ⟨b0, b1, b2, b3, b4, b5, b6, b7, b8, b9⟩ | ⟨b0, -⟩ | ⟨b0, -⟩ | ⟨b0, -⟩
    · subst a2 a3 a4 a5 a6 a7 a8 b2 b3 b4 b5 b6 b7 b8 b9
      exact ⟨by omega, rfl, rfl, rfl, hch, rfl, hun, hsh, hpl, hz, hsp⟩
    · exact absurd b0 a0
    · exact absurd b0 a0
    · exact absurd b0 a0
  · rcases h' with ⟨b0, -⟩ | ⟨b0, bn, ⟨bar', bb, b1⟩, b2, b3, b4, b5, b6, b7, b8, b9⟩ | ⟨b0, ⟨P, be⟩, -⟩ | ⟨b0, P, bb, -⟩
    · exact absurd a0 b0
    · subst a2 a3 a4 a5 a6 a7 a8 b2 b3 b4 b5 b6 b7 b8 b9
      have := bar_unique hG ab bb
      exact ⟨by omega, rfl, rfl, rfl, hch, rfl, hun, hsh, hpl, hz, hsp⟩
    · exact absurd ((hG _ P).mpr be) (an P)
    · exact absurd ((hG _ P).mpr bb.1) (an P)
  · rcases h' with ⟨b0, -⟩ | ⟨b0, bn, -⟩ | ⟨b0, be, bs, b1, b2, b3, b4, b5, b6, b7, b8, b9⟩ | ⟨b0, P, bb, bl, -⟩
    · exact absurd a0 b0
    · obtain ⟨P, ae⟩ := ae
      exact absurd ((hG _ P).mp ae) (bn P)
    · subst a2 a3 a4 a5 a6 a7 a8 b2 b3 b4 b5 b6 b7 b8 b9
      exact ⟨by omega, rfl, rfl, rfl, hch, rfl, hun, hsh, hpl, hz, hsp⟩
    · have := as P ((hG _ P).mpr bb.1); omega
  · rcases h' with ⟨b0, -⟩ | ⟨b0, bn, -⟩ | ⟨b0, be, bs, -⟩ | ⟨b0, P', bb, bl, b1, b2, b3, b4, b5, b6, b7, b8, b9, b10⟩
    · exact absurd a0 b0
    · exact absurd ((hG _ P).mp ab.1) (bn P)
    · have := bs P ((hG _ P).mp ab.1); omega
    · obtain ⟨ew, ep⟩ := best_unique (hG (-1)) ab bb
      have e1 : pl2 = plF tk2 sd2 := by
        funext j
        rw [a4 j]
        show _ = tk2 j * 10 + sd2 j
        rw [b4 j, b5 j]
        by_cases hj : j < n
        · rw [if_pos hj, if_pos hj, if_pos hj, ep j hj]; omega
        · rw [if_neg hj, if_neg hj, if_neg hj]
      have e30 : ∀ j, plF tk2 sd2 j < 30 := fun j => by
        rw [← e1, a4 j]; split
        · exact hbig P ab.1 j (by assumption)
        · exact hpl j
      have hp : pshN un ≤ 15 := by unfold pshN; split <;> omega
      have hb := psh_b (un := un) (n := n) (pl := plF tk sd) hn hz hsp hpl
      subst a5 a6 a7 a8
      refine ⟨by rw [a1, b1, ew], by rw [a2, b2, ew], by rw [a3, b3, ew], e1, ⟨Nat.lt_of_lt_of_le (othF_lt _ _) (show 2 ^ n ≤ 2 ^ 4 from Nat.pow_le_pow_right (by decide) hn), fun j hj => ?_⟩, b7.symm, by omega, shelf_push hun hn hus hsh b8 b9 b10, e30, hb.1, hb.2⟩
      rw [othF_tb, b6 j hj]
      by_cases hj2 : j < n
      · simp [hj2, ep j hj2]
      · simp [hj2]
theorem undo_same {un : Nat} {sz sp us up tk sd : Nat → Nat} (hu : 0 < un) (hsh : ShelfR un sz sp us up) : va_cpy sp (plF tk sd) ((un - 1) * 4) 0 (sz (un - 1)) = plF (mixN (us (un - 1)) (fun j => up (8 * (un - 1) + 2 * j)) tk) (mixN (us (un - 1)) (fun j => up (8 * (un - 1) + 2 * j + 1)) sd) := by
  obtain ⟨h1, h2⟩ := hsh (un - 1) (by omega)
  funext j
  show _ = mixN _ _ tk j * 10 + mixN _ _ sd j
  rw [h1]; simp only [mixN]
  by_cases hj : j < us (un - 1)
  · rw [if_pos hj, if_pos hj, pk_cpy_in (by omega) (by omega), show (un - 1) * 4 + (j - 0) = (un - 1) * 4 + j by omega, h2 j hj]
  · rw [if_neg hj, if_neg hj, pk_cpy_out (by omega)]
theorem copy_same {cp n : Nat} {sz sp cz cq cq2 tk sd : Nat → Nat} (hn : n ≤ 4) (hcz : ∀ j, cz j ≤ 4) (hsh : ShelfR cp sz sp cz cq) (h1 : onS cq2 cp n tk sd) (h2 : ∀ i, i < 8 * cp → cq2 i = cq i) : ShelfR (cp + 1) (uN sz cp n) (va_cpy (plF tk sd) sp 0 (cp * 4) n) (uN cz cp n) cq2 := by
  intro v hv
  by_cases e : v = cp
  · rw [e, uN_s, uN_s]
    refine ⟨rfl, fun j hj => ?_⟩
    rw [pk_cpy_in (by omega) (by omega), show 0 + (cp * 4 + j - cp * 4) = j by omega, (h1 j hj).1, (h1 j hj).2]
  · rw [uN_n _ _ e, uN_n _ _ e]
    obtain ⟨r1, r2⟩ := hsh v (by omega)
    refine ⟨r1, fun j hj => ?_⟩
    have := hcz v
    rw [pk_cpy_out (by omega), h2 _ (by omega), h2 _ (by omega), r2 j hj]
theorem memF_congr {X X' : Nat → Bool} {k : Int} : ∀ r b sn, (∀ j, b ≤ j → j < b + r → X j = X' j) → memF X k r b sn = memF X' k r b sn
  | 0, _, _, _ => rfl
  | r + 1, b, sn, h => by
    rw [memF, memF, h b (Nat.le_refl _) (by omega), memF_congr r (b + 1) (sn + 1) (fun j h1 h2 => h j (by omega) (by omega)), memF_congr r (b + 1) sn (fun j h1 h2 => h j (by omega) (by omega))]
theorem memF_none {X : Nat → Bool} {k : Int} : ∀ r b sn, (∀ j, b ≤ j → j < b + r → X j = false) → memF X k r b sn = -1
  | 0, _, _, _ => rfl
  | r + 1, b, sn, h => by
    rw [memF, if_neg (by rw [h b (Nat.le_refl _) (by omega)]; decide), memF_none r (b + 1) sn (fun j h1 h2 => h j (by omega) (by omega))]
theorem memF_cut {X : Nat → Bool} {k : Int} {e : Nat} : ∀ r b sn, (∀ j, b + r ≤ j → j < b + r + e → X j = false) → memF X k (r + e) b sn = memF X k r b sn
  | 0, b, sn, h => by rw [Nat.zero_add, memF_none e b sn (fun j h1 h2 => h j (by omega) (by omega))]; rfl
  | r + 1, b, sn, h => by
    rw [show r + 1 + e = (r + e) + 1 by omega, memF, memF, memF_cut r (b + 1) (sn + 1) (fun j h1 h2 => h j (by omega) (by omega)), memF_cut r (b + 1) sn (fun j h1 h2 => h j (by omega) (by omega))]
theorem chg_same {cs : Nat} {wc : Nat → Bool} {k : Int} (h : ChgR cs wc) : memF (fun j => Nat.testBit cs j) k 4 0 0 = memF (fun j => wc j) k 4 0 0 := memF_congr 4 0 0 (fun j _ hj => h.2 j (by omega))
theorem cmp_same {cp n x : Nat} {sz sp cz cq tk sd : Nat → Nat} {k : Int} (hn : n ≤ 4) (hx : x < cp) (hsd : ∀ j, sd j < 10) (hcq : ∀ j, cq j < 10) (hsh : ShelfR cp sz sp cz cq) : memF (fun j => Nat.testBit (othF (othX sz sp (plF tk sd) x) n) j) k 4 0 0 = memF (fun j => decide (cz x ≤ j ∨ cq (8 * x + 2 * j) ≠ tk j ∨ cq (8 * x + 2 * j + 1) ≠ sd j)) k n 0 0 := by
  obtain ⟨r1, r2⟩ := hsh x hx
  have h1 : memF (fun j => Nat.testBit (othF (othX sz sp (plF tk sd) x) n) j) k (n + (4 - n)) 0 0 = memF (fun j => Nat.testBit (othF (othX sz sp (plF tk sd) x) n) j) k n 0 0 := memF_cut n 0 0 (fun j h2 h3 => by show Nat.testBit _ j = false; rw [othF_tb]; simp; omega)
  rw [show n + (4 - n) = 4 by omega] at h1
  rw [h1]
  refine memF_congr n 0 0 (fun j _ hj => ?_)
  show Nat.testBit _ j = _
  rw [othF_tb, decide_eq_true (show j < n by omega), Bool.true_and]
  unfold othX
  congr 1
  apply propext
  rw [r1]
  by_cases hj2 : cz x ≤ j
  · simp [hj2]
  · rw [r2 j (by omega)]
    show (cz x ≤ j ∨ cq (8 * x + 2 * j) * 10 + cq (8 * x + 2 * j + 1) ≠ tk j * 10 + sd j) ↔ _
    have := hsd j
    have := hcq (8 * x + 2 * j + 1)
    omega
theorem shut_out {sh no T dd : Nat} {ot of_ oo : Nat → Int} {t f o : Int} (hT : T ≤ 3) (hdd : dd ≤ 10) (h : ShutR sh no T dd ot of_ oo) (ht : 0 ≤ t ∧ t < (T : Int)) (hf : 0 ≤ f ∧ f < o ∧ o ≤ (dd : Int)) : ShutR (sh ||| daysF f (o - ((1 : Nat) : Int)) * 2 ^ (t.toNat * 10)) (no + 1) T dd (uZ ot no t) (uZ of_ no f) (uZ oo no o) := by
  obtain ⟨h1, h2, h3⟩ := h
  refine ⟨Nat.or_lt_two_pow (n := 30) h1 (sh_lt (daysF_lt _ _) (by omega)), fun q hq => ?_, fun v hv => ?_⟩
  · have hb : (daysF f (o - ((1 : Nat) : Int)) * 2 ^ (t.toNat * 10)).testBit q = true ↔ (t = ((q / 10 : Nat) : Int) ∧ f ≤ ((q % 10 : Nat) : Int) ∧ ((q % 10 : Nat) : Int) < o) := by
      rw [Nat.testBit_mul_two_pow, daysF_tb, Bool.and_eq_true, decide_eq_true_eq, decide_eq_true_eq]
      omega
    rw [Nat.testBit_or, Bool.or_eq_true, h2 q hq, hb]
    constructor
    · rintro (⟨v, hv, e1, e2, e3⟩ | ⟨e1, e2, e3⟩)
      · exact ⟨v, by omega, by rw [uZ_n _ _ (by omega)]; exact e1, by rw [uZ_n _ _ (by omega)]; exact e2, by rw [uZ_n _ _ (by omega)]; exact e3⟩
      · exact ⟨no, by omega, by rw [uZ_s]; exact e1, by rw [uZ_s]; exact e2, by rw [uZ_s]; exact e3⟩
    · rintro ⟨v, hv, e1, e2, e3⟩
      by_cases e : v = no
      · rw [e, uZ_s] at e1 e2 e3; exact Or.inr ⟨e1, e2, e3⟩
      · rw [uZ_n _ _ e] at e1 e2 e3; exact Or.inl ⟨v, by omega, e1, e2, e3⟩
  · by_cases e : v = no
    · rw [e, uZ_s, uZ_s, uZ_s]; exact ⟨ht, hf⟩
    · rw [uZ_n _ _ e, uZ_n _ _ e, uZ_n _ _ e]; exact h3 v (by omega)
theorem rules_mono {rk ra rb rd : Nat → Int} {nr n n' : Nat} (h : RulesOK rk ra rb rd nr n) (hn : n ≤ n') : RulesOK rk ra rb rd nr n' := fun j hj => by
  obtain ⟨h1, h2, h3, h4⟩ := h j hj
  exact ⟨h1, by omega, fun q => by have := h3 q; omega, h4⟩
theorem rules_add {rk ra rb rd : Nat → Int} {nr n : Nat} {kd a b d : Int} (h : RulesOK rk ra rb rd nr n) (hk : (0 ≤ kd ∧ kd ≤ 3) ∧ (0 ≤ a ∧ a < ((n : Nat) : Int)) ∧ (kd ≤ 1 → (0 ≤ b ∧ b < ((n : Nat) : Int) ∧ a ≠ b)) ∧ (kd ≠ 1 → (0 ≤ d ∧ d ≤ 10))) : RulesOK (uZ rk nr kd) (uZ ra nr a) (uZ rb nr b) (uZ rd nr d) (nr + 1) n := fun j hj => by
  by_cases e : j = nr
  · rw [e, uZ_s, uZ_s, uZ_s, uZ_s]; exact hk
  · rw [uZ_n _ _ e, uZ_n _ _ e, uZ_n _ _ e, uZ_n _ _ e]; exact h j (by omega)
