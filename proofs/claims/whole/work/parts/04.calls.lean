/-! words at a call, by their places in the tables; rooms by depth; Math.max, min, abs -/
def rmD (d : Nat) : Room := { frames := d, cells := 0, slots := 0, locals := 40 * d }
theorem gG {c : Cond} {ws : List Cond} (h : ∀ w ∈ ws, w ∈ lw_g) : GoodIn (c :: lw_g) ws := fun w hw => ⟨List.mem_cons_of_mem _ (h w hw), good_of_word (List.mem_filter.mp (h w hw)).2⟩
theorem gGL {ws : List Cond} (h : ∀ w ∈ ws, w ∈ lw_g) : GoodIn lw_g ws := fun w hw => ⟨h w hw, good_of_word (List.mem_filter.mp (h w hw)).2⟩
theorem g_c {d : Cond} (h : d ∈ lw_g) : ∀ w ∈ d :: lw_g, w ∈ lw_g := fun w hw => (List.mem_cons.mp hw).elim (fun e => e ▸ h) id
theorem g_V {own C : String} {i : Nat} {y : MethodName} {d : Cond} (h1 : Cond.methodLink own i y ∈ lw_g) (h2 : Cond.instanceMethod y ∈ lw_g) (h3 : Cond.selects C y y ∈ lw_g) (h4 : Cond.initialized C ∈ lw_g) (h5 : d ∈ lw_g) : ∀ w ∈ wsV own i C y (d :: lw_g), w ∈ lw_g := fun w hw => by
  rcases List.mem_append.mp hw with h | h
  · simp only [List.mem_cons, List.not_mem_nil, or_false] at h
    rcases h with rfl | rfl | rfl | rfl
    · exact h1
    · exact h2
    · exact h3
    · exact h4
  · exact g_c h5 w h
theorem g_S {own : String} {i : Nat} {y : MethodName} {d : Cond} (h1 : Cond.methodLink own i y ∈ lw_g) (h2 : Cond.static y ∈ lw_g) (h4 : Cond.initialized y.cls ∈ lw_g) (h5 : d ∈ lw_g) : ∀ w ∈ va_wsS own i y (d :: lw_g), w ∈ lw_g := fun w hw => by
  rcases List.mem_append.mp hw with h | h
  · simp only [List.mem_cons, List.not_mem_nil, or_false] at h
    rcases h with rfl | rfl | rfl
    · exact h1
    · exact h2
    · exact h4
  · exact g_c h5 w h
theorem iI_incK (i k : Nat) : iI (i : Int) + Int32.ofInt (k : Int) = iI ((i + k : Nat) : Int) := by
  show iI (i : Int) + iI (k : Int) = _
  rw [iI_add]; congr 1
theorem iI_decK {i k : Nat} (h : k ≤ i) : iI (i : Int) + Int32.ofInt (-(k : Int)) = iI ((i - k : Nat) : Int) := by
  show iI (i : Int) + iI (-(k : Int)) = _
  rw [iI_add]; congr 1; omega
theorem nI_xor (a b : Nat) : nI a ^^^ nI b = nI (a ^^^ b) := by
  apply Int32.toBitVec.inj
  show BitVec.ofNat 32 a ^^^ BitVec.ofNat 32 b = BitVec.ofNat 32 (a ^^^ b)
  exact (BitVec.ofNat_xor).symm
/-- the bits of x that y has not -/
def dif (x y : Nat) : Nat := x &&& (y ^^^ 4294967295)
theorem iI_m1 : iI (-1) = nI 4294967295 := by decide +kernel
theorem iI_dif (x y : Nat) : iI (x : Int) &&& (iI (y : Int) ^^^ iI (-1)) = iI ((dif x y : Nat) : Int) := by
  rw [iI_m1, iI_n y, nI_xor, ← iI_n, iI_and]; rfl
theorem dif_tb {x y i : Nat} (h : i < 32) : (dif x y).testBit i = (x.testBit i && !(y.testBit i)) := by
  rw [dif, Nat.testBit_and, Nat.testBit_xor, show (4294967295 : Nat) = 2 ^ 32 - 1 from rfl, Nat.testBit_two_pow_sub_one]
  simp [h]
theorem dif_le (x y : Nat) : dif x y ≤ x := Nat.and_le_left
theorem sh_us : ∀ n, n < 32 → (((nI n).toUInt32 &&& Int32.toUInt32 31).toBitVec % 32).toNat = n := by decide +kernel
section RM
variable {p : Program} {l : Launch} {e : Env} {R : Room} {s : State} {m : MethodId} {args : Array Value} {below : List Frame} {meth : Method} {c : Code} {H H0 : Heap} {locs : List Loc} {cells slots : Nat} {Q : State → Prop} {cc : ByteArray} {pc : Nat} {ls : Array Slot} {rest : List Value} {a b : Int} {own : String} {index : Nat} {c0 : Cond}
theorem iI_max (ha : -2147483648 ≤ a ∧ a < 2147483648) (hb : -2147483648 ≤ b ∧ b < 2147483648) : (if iI a < iI b then iI b else iI a) = iI (max a b) := by
  by_cases h : a < b
  · rw [if_pos ((iI_lt ha hb).mpr h)]; congr 1; omega
  · rw [if_neg (fun q => h ((iI_lt ha hb).mp q))]; congr 1; omega
theorem rz_mmax (hx : p.tables.exec = Jvm.exec) (hb : c.code = cc) (hml : c.maxLocals = ls.size) (hown : s.vm.findClass own = some m.cls) (hts : ∀ w ∈ c0 :: lw_g, w.before args s = true) (hm : Cond.methodLink own index Lib.Math.max.name ∈ lw_g) (hf : 1 ≤ R.frames) (hlo : (rest.map fun v => v.category).sum + 13 ≤ R.locals) (hc : cells ≤ R.cells) (hs : slots ≤ R.slots) (hd : decode cc pc = .ok (.invokestatic index, 3)) (ha : -2147483648 ≤ a ∧ a < 2147483648) (hq : -2147483648 ≤ b ∧ b < 2147483648)
    (k : W p l e R s m args below meth c H locs cells slots Q (F0 m (pc + 3) ls (.int (iI (max a b)) :: rest))) : W p l e R s m args below meth c H locs cells slots Q (F0 m pc ls (.int (iI b) :: .int (iI a) :: rest)) :=
  va_mmax hx hb hml hown (hts _ (List.mem_cons_of_mem _ hm)) (hts _ (List.mem_cons_of_mem _ ts_J9_max)) (hts _ (List.mem_cons_of_mem _ tin_J9)) (hts _ (List.mem_cons_of_mem _ tcode_max)) hf hlo hc hs hd (by rw [iI_max ha hq]; exact k)
theorem rz_raw {x : Int32} {y : Int} (he : x = iI y) (k : W p l e R s m args below meth c H locs cells slots Q (F0 m pc ls (.int (iI y) :: rest))) : W p l e R s m args below meth c H locs cells slots Q (F0 m pc ls (.int x :: rest)) := by rw [he]; exact k
theorem rz_ushr {x n : Nat} (hx : p.tables.exec = Jvm.exec) (hb : c.code = cc) (hd : decode cc pc = .ok (.iushr, 1)) (hn : n < 32) (h : x < 2147483648) (k : W p l e R s m args below meth c H locs cells slots Q (F0 m (pc + 1) ls (.int (iI ((x / 2 ^ n : Nat) : Int)) :: rest))) : W p l e R s m args below meth c H locs cells slots Q (F0 m pc ls (.int (iI (n : Int)) :: .int (iI (x : Int)) :: rest)) :=
  lv_iushr hx hb hd (by rw [iI_n, iI_n, iI_n]; exact pk_ushrN (by omega) _ n (sh_us n hn)) k
theorem iI_abs (ha : -2147483648 < a ∧ a < 2147483648) : (if 0 ≤ iI a then iI a else 0 - iI a) = iI (if 0 ≤ a then a else -a) := by
  by_cases h : 0 ≤ a
  · rw [if_pos (by rw [← iI_0]; exact (iI_le (by omega) (by omega)).mpr h), if_pos h]
  · rw [if_neg (by rw [← iI_0]; exact fun q => h ((iI_le (by omega) (by omega)).mp q)), if_neg h, ← iI_0, iI_sub]; congr 1; omega
theorem rz_mabs (hx : p.tables.exec = Jvm.exec) (hb : c.code = cc) (hml : c.maxLocals = ls.size) (hown : s.vm.findClass own = some m.cls) (hts : ∀ w ∈ c0 :: lw_g, w.before args s = true) (hm : Cond.methodLink own index Lib.Math.abs.name ∈ lw_g) (hf : 1 ≤ R.frames) (hlo : (rest.map fun v => v.category).sum + 13 ≤ R.locals) (hc : cells ≤ R.cells) (hs : slots ≤ R.slots) (hd : decode cc pc = .ok (.invokestatic index, 3)) (ha : -2147483648 < a ∧ a < 2147483648)
    (k : W p l e R s m args below meth c H locs cells slots Q (F0 m (pc + 3) ls (.int (iI (if 0 ≤ a then a else -a)) :: rest))) : W p l e R s m args below meth c H locs cells slots Q (F0 m pc ls (.int (iI a) :: rest)) :=
  va_mabs hx hb hml hown (hts _ (List.mem_cons_of_mem _ hm)) (hts _ (List.mem_cons_of_mem _ ts_J9_abs)) (hts _ (List.mem_cons_of_mem _ tin_J9)) (hts _ (List.mem_cons_of_mem _ tcode_abs)) hf (by omega) hc hs hd (by rw [iI_abs ha]; exact k)
theorem iI_min (ha : -2147483648 ≤ a ∧ a < 2147483648) (hb : -2147483648 ≤ b ∧ b < 2147483648) : (if iI b < iI a then iI b else iI a) = iI (min a b) := by
  by_cases h : b < a
  · rw [if_pos ((iI_lt hb ha).mpr h)]; congr 1; omega
  · rw [if_neg (fun q => h ((iI_lt hb ha).mp q))]; congr 1; omega
theorem rz_mmin (hx : p.tables.exec = Jvm.exec) (hb : c.code = cc) (hml : c.maxLocals = ls.size) (hown : s.vm.findClass own = some m.cls) (hts : ∀ w ∈ c0 :: lw_g, w.before args s = true) (hm : Cond.methodLink own index Lib.Math.min.name ∈ lw_g) (hf : 1 ≤ R.frames) (hlo : (rest.map fun v => v.category).sum + 13 ≤ R.locals) (hc : cells ≤ R.cells) (hs : slots ≤ R.slots) (hd : decode cc pc = .ok (.invokestatic index, 3)) (ha : -2147483648 ≤ a ∧ a < 2147483648) (hq : -2147483648 ≤ b ∧ b < 2147483648)
    (k : W p l e R s m args below meth c H locs cells slots Q (F0 m (pc + 3) ls (.int (iI (min a b)) :: rest))) : W p l e R s m args below meth c H locs cells slots Q (F0 m pc ls (.int (iI b) :: .int (iI a) :: rest)) :=
  va_mmin hx hb hml hown (hts _ (List.mem_cons_of_mem _ hm)) (hts _ (List.mem_cons_of_mem _ ts_J9_min)) (hts _ (List.mem_cons_of_mem _ tin_J9)) (hts _ (List.mem_cons_of_mem _ tcode_min)) hf hlo hc hs hd (by rw [iI_min ha hq]; exact k)
theorem nZ_c (f g : Nat → Nat) (sp dp n : Nat) : va_cpy (zA (nZ f)) (zA (nZ g)) sp dp n = zA (nZ (va_cpy f g sp dp n)) := by
  funext j; simp only [va_cpy, zA, nZ]; split <;> rfl
theorem zZ_c (f g : Nat → Int) (sp dp n : Nat) : va_cpy (zA f) (zA g) sp dp n = zA (va_cpy f g sp dp n) := by
  funext j; simp only [va_cpy, zA]; split <;> rfl
theorem n_nlt {x : Nat} (h : x < 2147483648) : ¬ iI (x : Int) < 0 := by rw [← iI_0, iI_lt (by omega) (by omega)]; omega
theorem n_cl {x : Nat} (h : x < 2147483648) : (iI (x : Int)).toNatClampNeg = x := by rw [iI_cl (by omega), Int.toNat_natCast]
variable {D : va_G} {cl : List vw_C} {tys : List (ClassId × FieldType)} {ws : va_W} {A : Nat → Prop} {cA cB : ClassId} {n0 n1 a0 a1 sp dp n : Nat} {f g : Nat → Nat}
theorem rn_copyM (hx : p.tables.exec = Jvm.exec) (hb : c.code = cc) (hml : c.maxLocals = ls.size) (hown : s.vm.findClass own = some m.cls) (hts : ∀ w ∈ c0 :: lw_g, w.before args s = true) (hm : Cond.methodLink own index arraycopyName ∈ lw_g) (hK : va_K D cl tys s) (hP : va_P D cl ws H) (hD : va_D A ws) (hS : va_S A H0 H locs) (q0 q1 t0 : Nat) (ha0 : ws[q0]? = some (a0, .inl (cA, n0, .inl (zA (nZ f))))) (ha1 : ws[q1]? = some (a1, .inl (cA, n1, .inl (zA (nZ g))))) (ht : tys[t0]? = some (cA, .int)) (h4 : sp + n ≤ n0) (h5 : dp + n ≤ n1) (hn0 : n0 < 2147483648) (hn1 : n1 < 2147483648) (hfr : 1 ≤ R.frames) (hlo : (rest.map fun v => v.category).sum + (nativeFrameWords "java/lang/System" "arraycopy" 5 + 11) ≤ R.locals) (hd : decode cc pc = .ok (.invokestatic index, 3))
    (k : ∀ (H1 : Heap) (locs1 : List Loc), va_P D cl (ws.set q1 (a1, .inl (cA, n1, .inl (zA (nZ (va_cpy f g sp dp n)))))) H1 → va_D A (ws.set q1 (a1, .inl (cA, n1, .inl (zA (nZ (va_cpy f g sp dp n)))))) → va_S A H0 H1 locs1 → W p l e R s m args below meth c H1 locs1 cells slots Q (F0 m (pc + 3) ls rest)) : W p l e R s m args below meth c H locs cells slots Q (F0 m pc ls (.int (iI (n : Int)) :: .int (iI (dp : Int)) :: .ref a1 :: .int (iI (sp : Int)) :: .ref a0 :: rest)) := by
  refine va_copyi hx hb hml hown (hts _ (List.mem_cons_of_mem _ hm)) (hts _ (List.mem_cons_of_mem _ tnat_J10_arraycopy)) (hts _ (List.mem_cons_of_mem _ ts_J10_arraycopy)) (hts _ (List.mem_cons_of_mem _ tin_J10)) hK hP hD hS q0 q1 t0 t0 ha0 ha1 ht ht rfl (n_nlt (by omega)) (n_nlt (by omega)) (n_nlt (by omega)) (by rw [n_cl (by omega), n_cl (by omega)]; exact h4) (by rw [n_cl (by omega), n_cl (by omega)]; exact h5) (fun i _ => rfl) hfr hlo hd (fun H1 locs1 h1 h2 h3 => ?_)
  rw [n_cl (by omega), n_cl (by omega), n_cl (by omega), nZ_c] at h1 h2
  exact k H1 locs1 h1 h2 h3
end RM
