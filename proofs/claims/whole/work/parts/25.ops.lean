/-! each call leaves class and reference alike -/
theorem tk3 {tk sd : Nat → Nat} (h : ∀ j, plF tk sd j < 30) : ∀ j, tk j < 10 := fun j => by have : tk j * 10 + sd j < 30 := h j; omega
theorem batch_same {T dd n n2 n3 : Nat} {ln tk sd ln2 pl2 ln3 tk3' sd3 : Nat → Nat} {t s0 l0 z1 z2 : Int} (hT : 1 ≤ T ∧ T ≤ 3) (hdd : 1 ≤ dd ∧ dd ≤ 10) (hn : n ≤ 4) (hln : ∀ j, ln j ≤ 10) (hl1 : ∀ j, j < n → 1 ≤ ln j) (hpl : ∀ j, plF tk sd j < 30) (hsd : ∀ j, sd j < 10)
    (f : (n2, ln2, pl2, z1) = (if (0 ≤ t ∧ t < ((T : Nat) : Int) ∧ 0 ≤ s0 ∧ 1 ≤ l0 ∧ s0 + l0 ≤ ((dd : Nat) : Int)) then (if n < 4 then (n + 1, uN ln n l0.toNat, uN (plF tk sd) n (t.toNat * 10 + s0.toNat), ((n : Nat) : Int)) else (n, ln, plF tk sd, -2)) else (n, ln, plF tk sd, -1)))
    (g : (n3, ln3, tk3', sd3, z2) = (if (0 ≤ t ∧ t < ((T : Nat) : Int) ∧ 0 ≤ s0 ∧ 1 ≤ l0 ∧ s0 + l0 ≤ ((dd : Nat) : Int)) then (if n < 4 then (n + 1, uN ln n l0.toNat, uN tk n t.toNat, uN sd n s0.toNat, ((n : Nat) : Int)) else (n, ln, tk, sd, -2)) else (n, ln, tk, sd, -1))) :
    n3 = n2 ∧ ln3 = ln2 ∧ pl2 = plF tk3' sd3 ∧ z1 = z2 ∧ n2 ≤ 4 ∧ (∀ j, ln2 j ≤ 10) ∧ (∀ j, j < n2 → 1 ≤ ln2 j) ∧ (∀ j, plF tk3' sd3 j < 30) ∧ (∀ j, sd3 j < 10) ∧ n ≤ n2 := by
  by_cases h1 : (0 ≤ t ∧ t < ((T : Nat) : Int) ∧ 0 ≤ s0 ∧ 1 ≤ l0 ∧ s0 + l0 ≤ ((dd : Nat) : Int))
  · rw [if_pos h1] at f g
    by_cases h2 : n < 4
    · rw [if_pos h2] at f g
      simp only [Prod.mk.injEq] at f g
      obtain ⟨rfl, rfl, rfl, rfl⟩ := f
      obtain ⟨rfl, rfl, rfl, rfl, rfl⟩ := g
      refine ⟨rfl, rfl, (plF_u _ _ _ _ _).symm, rfl, by omega, uN_all (P := fun x => x ≤ 10) hln _ (by omega), fun j hj => ?_, fun j => ?_, uN_all (P := fun x => x < 10) hsd _ (by omega), by omega⟩
      · by_cases e : j = n
        · rw [e, uN_s]; omega
        · rw [uN_n _ _ e]; exact hl1 j (by omega)
      · rw [plF_u]; exact uN_all (P := fun x => x < 30) hpl _ (by omega) j
    · rw [if_neg h2] at f g
      simp only [Prod.mk.injEq] at f g
      obtain ⟨rfl, rfl, rfl, rfl⟩ := f
      obtain ⟨rfl, rfl, rfl, rfl, rfl⟩ := g
      exact ⟨rfl, rfl, rfl, rfl, hn, hln, hl1, hpl, hsd, Nat.le_refl _⟩
  · rw [if_neg h1] at f g
    simp only [Prod.mk.injEq] at f g
    obtain ⟨rfl, rfl, rfl, rfl⟩ := f
    obtain ⟨rfl, rfl, rfl, rfl, rfl⟩ := g
    exact ⟨rfl, rfl, rfl, rfl, hn, hln, hl1, hpl, hsd, Nat.le_refl _⟩
theorem rule_same {n nr nr2 nr3 : Nat} {rk ra rb rd rk2 ra2 rb2 rd2 rk3 ra3 rb3 rd3 : Nat → Int} {kd a b d z1 z2 : Int} (hnr : nr ≤ 8) (hv : RulesOK rk ra rb rd nr n) (hrr : ∀ j, (-2147483648 ≤ rb j ∧ rb j < 2147483648) ∧ (-2147483648 ≤ rd j ∧ rd j < 2147483648)) (hb : -2147483648 ≤ b ∧ b < 2147483648) (hd : -2147483648 ≤ d ∧ d < 2147483648)
    (f : (nr2, rk2, ra2, rb2, rd2, z1) = (if ((0 ≤ kd ∧ kd ≤ 3) ∧ (0 ≤ a ∧ a < ((n : Nat) : Int)) ∧ (kd ≤ 1 → (0 ≤ b ∧ b < ((n : Nat) : Int) ∧ a ≠ b)) ∧ (kd ≠ 1 → (0 ≤ d ∧ d ≤ 10))) ∧ nr < 8 then (nr + 1, uZ rk nr kd, uZ ra nr a, uZ rb nr b, uZ rd nr d, 1) else (nr, rk, ra, rb, rd, 0)))
    (g : (nr3, rk3, ra3, rb3, rd3, z2) = (if ((0 ≤ kd ∧ kd ≤ 3) ∧ (0 ≤ a ∧ a < ((n : Nat) : Int)) ∧ (kd ≤ 1 → (0 ≤ b ∧ b < ((n : Nat) : Int) ∧ a ≠ b)) ∧ (kd ≠ 1 → (0 ≤ d ∧ d ≤ 10))) ∧ nr < 8 then (nr + 1, uZ rk nr kd, uZ ra nr a, uZ rb nr b, uZ rd nr d, 1) else (nr, rk, ra, rb, rd, 0))) :
    nr3 = nr2 ∧ rk3 = rk2 ∧ ra3 = ra2 ∧ rb3 = rb2 ∧ rd3 = rd2 ∧ z1 = z2 ∧ nr2 ≤ 8 ∧ RulesOK rk2 ra2 rb2 rd2 nr2 n ∧ ∀ j, (-2147483648 ≤ rb2 j ∧ rb2 j < 2147483648) ∧ (-2147483648 ≤ rd2 j ∧ rd2 j < 2147483648) := by
  have e := f.trans g.symm
  simp only [Prod.mk.injEq] at e
  obtain ⟨e1, e2, e3, e4, e5, e6⟩ := e
  refine ⟨e1.symm, e2.symm, e3.symm, e4.symm, e5.symm, e6, ?_⟩
  split at f
  · rename_i h
    simp only [Prod.mk.injEq] at f
    obtain ⟨rfl, rfl, rfl, rfl, rfl, -⟩ := f
    refine ⟨by omega, rules_add hv h.1, fun j => ?_⟩
    exact ⟨uZ_all (P := fun x => -2147483648 ≤ x ∧ x < 2147483648) (fun j => (hrr j).1) _ hb j, uZ_all (P := fun x => -2147483648 ≤ x ∧ x < 2147483648) (fun j => (hrr j).2) _ hd j⟩
  · simp only [Prod.mk.injEq] at f
    obtain ⟨rfl, rfl, rfl, rfl, rfl, -⟩ := f
    exact ⟨hnr, hv, hrr⟩
theorem freeze_same {α : Type} {fz2 fz3 : α} {z1 z2 : Int} {r : α × Int} (f : (fz2, z1) = r) (g : (fz3, z2) = r) : fz3 = fz2 ∧ z1 = z2 := by
  have e := f.trans g.symm
  simp only [Prod.mk.injEq] at e
  exact ⟨e.1.symm, e.2⟩
theorem out_same {T dd no no2 no3 sh sh2 : Nat} {ot of_ oo ot3 of3 oo3 : Nat → Int} {t f0 o z1 z2 : Int} (hT : 1 ≤ T ∧ T ≤ 3) (hdd : 1 ≤ dd ∧ dd ≤ 10) (hno : no ≤ 12) (hs : ShutR sh no T dd ot of_ oo) (hout : ∀ j, (-2147483648 ≤ ot j ∧ ot j < 2147483648) ∧ (-2147483648 ≤ of_ j ∧ of_ j < 2147483648) ∧ (-2147483648 ≤ oo j ∧ oo j < 2147483648))
    (f : (no2, sh2, z1) = (if (0 ≤ t ∧ t < ((T : Nat) : Int)) ∧ (0 ≤ f0 ∧ f0 < o ∧ o ≤ ((dd : Nat) : Int)) ∧ no < 12 then (no + 1, sh ||| daysF f0 (o - ((1 : Nat) : Int)) * 2 ^ (t.toNat * 10), 1) else (no, sh, 0)))
    (g : (no3, ot3, of3, oo3, z2) = (if (0 ≤ t ∧ t < ((T : Nat) : Int)) ∧ (0 ≤ f0 ∧ f0 < o ∧ o ≤ ((dd : Nat) : Int)) ∧ no < 12 then (no + 1, uZ ot no t, uZ of_ no f0, uZ oo no o, 1) else (no, ot, of_, oo, 0))) :
    no3 = no2 ∧ z1 = z2 ∧ no2 ≤ 12 ∧ ShutR sh2 no2 T dd ot3 of3 oo3 ∧ ∀ j, (-2147483648 ≤ ot3 j ∧ ot3 j < 2147483648) ∧ (-2147483648 ≤ of3 j ∧ of3 j < 2147483648) ∧ (-2147483648 ≤ oo3 j ∧ oo3 j < 2147483648) := by
  by_cases h1 : (0 ≤ t ∧ t < ((T : Nat) : Int)) ∧ (0 ≤ f0 ∧ f0 < o ∧ o ≤ ((dd : Nat) : Int)) ∧ no < 12
  · rw [if_pos h1] at f g
    simp only [Prod.mk.injEq] at f g
    obtain ⟨rfl, rfl, rfl⟩ := f
    obtain ⟨rfl, rfl, rfl, rfl, rfl⟩ := g
    refine ⟨rfl, rfl, by omega, shut_out hT.2 hdd.2 hs h1.1 h1.2.1, fun j => ⟨uZ_all (P := fun x => -2147483648 ≤ x ∧ x < 2147483648) (fun j => (hout j).1) _ (by omega) j, uZ_all (P := fun x => -2147483648 ≤ x ∧ x < 2147483648) (fun j => (hout j).2.1) _ (by omega) j, uZ_all (P := fun x => -2147483648 ≤ x ∧ x < 2147483648) (fun j => (hout j).2.2) _ (by omega) j⟩⟩
  · rw [if_neg h1] at f g
    simp only [Prod.mk.injEq] at f g
    obtain ⟨rfl, rfl, rfl⟩ := f
    obtain ⟨rfl, rfl, rfl, rfl, rfl⟩ := g
    exact ⟨rfl, rfl, hno, hs, hout⟩
theorem late_same {n : Nat} {ea tk sd ea2 ea3 : Nat → Nat} {k d z1 z2 : Int} (hsd : ∀ j, sd j < 10) (hea : ∀ j, ea j ≤ 20)
    (f : (ea2, z1) = (if (0 ≤ k ∧ k < ((n : Nat) : Int)) ∧ (0 ≤ d ∧ d ≤ 10) then (uN ea k.toNat (plF tk sd k.toNat % 10 + d.toNat), 1) else (ea, 0)))
    (g : (ea3, z2) = (if (0 ≤ k ∧ k < ((n : Nat) : Int)) ∧ (0 ≤ d ∧ d ≤ 10) then (uN ea k.toNat (sd k.toNat + d.toNat), 1) else (ea, 0))) :
    ea3 = ea2 ∧ z1 = z2 ∧ ∀ j, ea2 j ≤ 20 := by
  have e : plF tk sd k.toNat % 10 = sd k.toNat := by have := hsd k.toNat; show (tk k.toNat * 10 + sd k.toNat) % 10 = _; omega
  rw [e] at f
  have h := f.trans g.symm
  simp only [Prod.mk.injEq] at h
  refine ⟨h.1.symm, h.2, ?_⟩
  split at f
  · simp only [Prod.mk.injEq] at f
    obtain ⟨rfl, -⟩ := f
    exact uN_all (P := fun x => x ≤ 20) hea _ (by have := hsd k.toNat; omega)
  · simp only [Prod.mk.injEq] at f
    obtain ⟨rfl, -⟩ := f
    exact hea
theorem undo_ops {un un2 un3 : Nat} {szU spU us up tk sd pl2 tk3' sd3 : Nat → Nat} {z1 z2 : Int} (hun : un ≤ 16) (hup : ∀ j, up j < 10) (hspU : ∀ j, spU j < 30) (hpl : ∀ j, plF tk sd j < 30) (hsd : ∀ j, sd j < 10) (hsh : ShelfR un szU spU us up)
    (f : (un2, pl2, z1) = (if 0 < un then (un - 1, va_cpy spU (plF tk sd) ((un - 1) * 4) 0 (szU (un - 1)), 1) else (un, plF tk sd, 0)))
    (g : (un3, tk3', sd3, z2) = (if 0 < un then ((un - 1), mixN (us (un - 1)) (fun j => up (8 * (un - 1) + 2 * j)) tk, mixN (us (un - 1)) (fun j => up (8 * (un - 1) + 2 * j + 1)) sd, 1) else (un, tk, sd, 0))) :
    un3 = un2 ∧ pl2 = plF tk3' sd3 ∧ z1 = z2 ∧ un2 ≤ 16 ∧ (∀ j, plF tk3' sd3 j < 30) ∧ (∀ j, sd3 j < 10) ∧ ShelfR un2 szU spU us up := by
  by_cases h : 0 < un
  · rw [if_pos h] at f g
    simp only [Prod.mk.injEq] at f g
    obtain ⟨rfl, rfl, rfl⟩ := f
    obtain ⟨rfl, rfl, rfl, rfl⟩ := g
    have e := undo_same (tk := tk) (sd := sd) h hsh
    refine ⟨rfl, e, rfl, by omega, fun j => ?_, mixN_all (Q := fun x => x < 10) (fun j => hup _) hsd, fun v hv => hsh v (by omega)⟩
    rw [← e]; exact cpy_all (Q := fun x => x < 30) hspU hpl _ _ _ j
  · rw [if_neg h] at f g
    simp only [Prod.mk.injEq] at f g
    obtain ⟨rfl, rfl, rfl⟩ := f
    obtain ⟨rfl, rfl, rfl, rfl⟩ := g
    exact ⟨rfl, rfl, rfl, hun, hpl, hsd, hsh⟩
theorem copy_ops {cp n cp2 cp3 : Nat} {szC spC cz cq tk sd szC2 spC2 cz3 cq3 : Nat → Nat} {z1 z2 : Int} (hcp : cp ≤ 8) (hn : n ≤ 4) (hcz : ∀ j, cz j ≤ 4) (hszC : ∀ j, szC j ≤ 4) (hspC : ∀ j, spC j < 30) (hpl : ∀ j, plF tk sd j < 30) (hsh : ShelfR cp szC spC cz cq)
    (f : (cp2, szC2, spC2, z1) = (if cp < 8 then (cp + 1, uN szC cp n, va_cpy (plF tk sd) spC 0 (cp * 4) n, ((cp : Nat) : Int)) else (cp, szC, spC, -2)))
    (g : (cp3, cz3, z2) = (if cp < 8 then (cp + 1, uN cz cp n, ((cp : Nat) : Int)) else (cp, cz, -2))) (g2 : cp < 8 → onS cq3 cp n tk sd) (g3 : ∀ i, i < 8 * cp → cq3 i = cq i) :
    cp3 = cp2 ∧ z1 = z2 ∧ cp2 ≤ 8 ∧ ShelfR cp2 szC2 spC2 cz3 cq3 ∧ (∀ j, szC2 j ≤ 4) ∧ (∀ j, spC2 j < 30) ∧ (∀ j, cz3 j ≤ 4) := by
  by_cases h : cp < 8
  · rw [if_pos h] at f g
    simp only [Prod.mk.injEq] at f g
    obtain ⟨rfl, rfl, rfl, rfl⟩ := f
    obtain ⟨rfl, rfl, rfl⟩ := g
    exact ⟨rfl, rfl, by omega, copy_same hn hcz hsh (g2 h) g3, uN_all (P := fun x => x ≤ 4) hszC _ hn, cpy_all (Q := fun x => x < 30) hpl hspC _ _ _, uN_all (P := fun x => x ≤ 4) hcz _ hn⟩
  · rw [if_neg h] at f g
    simp only [Prod.mk.injEq] at f g
    obtain ⟨rfl, rfl, rfl, rfl⟩ := f
    obtain ⟨rfl, rfl, rfl⟩ := g
    refine ⟨rfl, rfl, hcp, fun v hv => ?_, hszC, hspC, hcz⟩
    obtain ⟨r1, r2⟩ := hsh v hv
    refine ⟨r1, fun j hj => ?_⟩
    have := hcz v
    rw [g3 _ (by omega), g3 _ (by omega)]; exact r2 j hj
