/-! ints as integers: iI z is the Int32 of the integer z; rows of the machine over them -/
def iI (z : Int) : Int32 := Int32.ofInt z
def b2z (b : Bool) : Int := if b then 1 else 0
theorem b2z_t {P : Prop} {h : Decidable P} (hp : P) : b2z (@decide P h) = 1 := by simp [b2z, hp]
theorem b2z_f {P : Prop} {h : Decidable P} (hp : ¬ P) : b2z (@decide P h) = 0 := by simp [b2z, hp]
theorem b2z_tr : b2z true = 1 := rfl
theorem b2z_fa : b2z false = 0 := rfl
theorem b2z_01 (b : Bool) : b2z b = 0 ∨ b2z b = 1 := by cases b <;> decide
theorem b2z_r (b : Bool) : 0 ≤ b2z b ∧ b2z b ≤ 1 := by cases b <;> decide
theorem iI_T {z : Int} (h : -2147483648 ≤ z ∧ z < 2147483648) : (iI z).toInt = z := Int32.toInt_ofInt_of_le (by omega) (by omega)
theorem iI_of (x : Int32) : ∃ z : Int, x = iI z ∧ -2147483648 ≤ z ∧ z < 2147483648 := ⟨x.toInt, (Int32.ofInt_toInt x).symm, by have := x.le_toInt; omega, by have := x.toInt_lt; omega⟩
theorem iI_lt {a b : Int} (ha : -2147483648 ≤ a ∧ a < 2147483648) (hb : -2147483648 ≤ b ∧ b < 2147483648) : iI a < iI b ↔ a < b := by rw [Int32.lt_iff_toInt_lt, iI_T ha, iI_T hb]
theorem iI_le {a b : Int} (ha : -2147483648 ≤ a ∧ a < 2147483648) (hb : -2147483648 ≤ b ∧ b < 2147483648) : iI a ≤ iI b ↔ a ≤ b := by rw [Int32.le_iff_toInt_le, iI_T ha, iI_T hb]
theorem iI_eq {a b : Int} (ha : -2147483648 ≤ a ∧ a < 2147483648) (hb : -2147483648 ≤ b ∧ b < 2147483648) : iI a = iI b ↔ a = b := by rw [← Int32.toInt_inj, iI_T ha, iI_T hb]
theorem iI_0 : iI 0 = 0 := by decide
theorem iI_add (a b : Int) : iI a + iI b = iI (a + b) := (Int32.ofInt_add a b).symm
theorem iI_sub (a b : Int) : iI a - iI b = iI (a - b) := (Int32.ofInt_sub a b).symm
theorem iI_mul (a b : Int) : iI a * iI b = iI (a * b) := (Int32.ofInt_mul a b).symm
theorem iI_n (n : Nat) : iI (n : Int) = nI n := Int32.ofInt_eq_ofNat
theorem iI_cl {z : Int} (h : 0 ≤ z ∧ z < 2147483648) : (iI z).toNatClampNeg = z.toNat := Int32.toNatClampNeg_ofInt_of_le (by omega) (by omega)
theorem iI_in {z : Int} {n : Nat} (h : 0 ≤ z ∧ z < (n : Int)) (hn : n < 2147483648) : vp_in (iI z) n := by
  rw [vp_in_iff, iI_T (by omega)]; exact h
theorem iI_and (a b : Nat) : iI (a : Int) &&& iI (b : Int) = iI ((a &&& b : Nat) : Int) := by
  rw [iI_n, iI_n, iI_n]
  apply Int32.toBitVec.inj
  show BitVec.ofNat 32 a &&& BitVec.ofNat 32 b = BitVec.ofNat 32 (a &&& b)
  exact (BitVec.ofNat_and).symm
theorem iI_or (a b : Nat) : iI (a : Int) ||| iI (b : Int) = iI ((a ||| b : Nat) : Int) := by
  rw [iI_n, iI_n, iI_n]
  apply Int32.toBitVec.inj
  show BitVec.ofNat 32 a ||| BitVec.ofNat 32 b = BitVec.ofNat 32 (a ||| b)
  exact (BitVec.ofNat_or).symm
/-- an array of ints, of integers -/
def zA (g : Nat → Int) : Nat → Int32 := fun j => iI (g j)
def uZ (g : Nat → Int) (k : Nat) (v : Int) : Nat → Int := fun j => if j = k then v else g j
theorem uZ_s (g : Nat → Int) (k : Nat) (v : Int) : uZ g k v k = v := by simp [uZ]
theorem uZ_n (g : Nat → Int) {k j : Nat} (v : Int) (h : j ≠ k) : uZ g k v j = g j := by simp [uZ, h]
theorem zA_u (g : Nat → Int) (k : Nat) (v : Int) : upd (zA g) k (iI v) = zA (uZ g k v) := by
  funext j; simp only [upd, zA, uZ]; split <;> rfl
theorem uZ_all {P : Int → Prop} {g : Nat → Int} (h : ∀ j, P (g j)) (k : Nat) {v : Int} (hv : P v) : ∀ j, P (uZ g k v j) := by
  intro j; simp only [uZ]; split
  · exact hv
  · exact h j
section RZ
variable {p : Program} {l : Launch} {e : Env} {R : Room} {s : State} {m : MethodId} {args : Array Value} {below : List Frame} {meth : Method} {c : Code} {H H0 : Heap} {locs : List Loc} {cells slots : Nat} {Q : State → Prop} {cc : ByteArray} {pc tgt : Nat} {ls : Array Slot} {rest : List Value} {off : Int} {a b : Int}
theorem rz_add (hx : p.tables.exec = Jvm.exec) (hb : c.code = cc) (hd : decode cc pc = .ok (.iadd, 1)) (k : W p l e R s m args below meth c H locs cells slots Q (F0 m (pc + 1) ls (.int (iI (a + b)) :: rest))) : W p l e R s m args below meth c H locs cells slots Q (F0 m pc ls (.int (iI b) :: .int (iI a) :: rest)) := lv_iadd hx hb hd (by rw [iI_add]; exact k)
theorem rz_sub (hx : p.tables.exec = Jvm.exec) (hb : c.code = cc) (hd : decode cc pc = .ok (.isub, 1)) (k : W p l e R s m args below meth c H locs cells slots Q (F0 m (pc + 1) ls (.int (iI (a - b)) :: rest))) : W p l e R s m args below meth c H locs cells slots Q (F0 m pc ls (.int (iI b) :: .int (iI a) :: rest)) := lv_isub hx hb hd (by rw [iI_sub]; exact k)
theorem rz_mul (hx : p.tables.exec = Jvm.exec) (hb : c.code = cc) (hd : decode cc pc = .ok (.imul, 1)) (k : W p l e R s m args below meth c H locs cells slots Q (F0 m (pc + 1) ls (.int (iI (a * b)) :: rest))) : W p l e R s m args below meth c H locs cells slots Q (F0 m pc ls (.int (iI b) :: .int (iI a) :: rest)) := lv_imul hx hb hd (by rw [iI_mul]; exact k)
theorem rz_div (hx : p.tables.exec = Jvm.exec) (hb : c.code = cc) (hd : decode cc pc = .ok (.idiv, 1)) (ha : 0 ≤ a ∧ a < 2147483648) (hq : 0 < b ∧ b < 2147483648) (k : W p l e R s m args below meth c H locs cells slots Q (F0 m (pc + 1) ls (.int (iI (a / b)) :: rest))) : W p l e R s m args below meth c H locs cells slots Q (F0 m pc ls (.int (iI b) :: .int (iI a) :: rest)) := by
  obtain ⟨x, rfl⟩ := Int.eq_ofNat_of_zero_le ha.1
  obtain ⟨y, rfl⟩ := Int.eq_ofNat_of_zero_le (Int.le_of_lt hq.1)
  have e1 : iI (x : Int) / iI (y : Int) = iI ((x : Int) / (y : Int)) := by
    rw [← Int.natCast_ediv, iI_n, iI_n, iI_n]; exact pk_div (by omega) (by omega) (by omega)
  refine lv_idiv hx hb hd ?_ (by rw [e1]; exact k)
  rw [← iI_0, iI_eq (by omega) (by omega)]; omega
theorem rz_rem (hx : p.tables.exec = Jvm.exec) (hb : c.code = cc) (hd : decode cc pc = .ok (.irem, 1)) (ha : 0 ≤ a ∧ a < 2147483648) (hq : 0 < b ∧ b < 2147483648) (k : W p l e R s m args below meth c H locs cells slots Q (F0 m (pc + 1) ls (.int (iI (a % b)) :: rest))) : W p l e R s m args below meth c H locs cells slots Q (F0 m pc ls (.int (iI b) :: .int (iI a) :: rest)) := by
  obtain ⟨x, rfl⟩ := Int.eq_ofNat_of_zero_le ha.1
  obtain ⟨y, rfl⟩ := Int.eq_ofNat_of_zero_le (Int.le_of_lt hq.1)
  have e1 : iI (x : Int) - iI (x : Int) / iI (y : Int) * iI (y : Int) = iI ((x : Int) % (y : Int)) := by
    rw [← Int.natCast_emod, iI_n, iI_n, iI_n]; exact pk_rem (by omega) (by omega) (by omega)
  refine lv_irem hx hb hd ?_ (by rw [e1]; exact k)
  rw [← iI_0, iI_eq (by omega) (by omega)]; omega
theorem rz_and {x y : Nat} (hx : p.tables.exec = Jvm.exec) (hb : c.code = cc) (hd : decode cc pc = .ok (.iand, 1)) (k : W p l e R s m args below meth c H locs cells slots Q (F0 m (pc + 1) ls (.int (iI ((x &&& y : Nat) : Int)) :: rest))) : W p l e R s m args below meth c H locs cells slots Q (F0 m pc ls (.int (iI (y : Int)) :: .int (iI (x : Int)) :: rest)) := lv_iand hx hb hd (by rw [iI_and]; exact k)
theorem rz_or {x y : Nat} (hx : p.tables.exec = Jvm.exec) (hb : c.code = cc) (hd : decode cc pc = .ok (.ior, 1)) (k : W p l e R s m args below meth c H locs cells slots Q (F0 m (pc + 1) ls (.int (iI ((x ||| y : Nat) : Int)) :: rest))) : W p l e R s m args below meth c H locs cells slots Q (F0 m pc ls (.int (iI (y : Int)) :: .int (iI (x : Int)) :: rest)) := lv_ior hx hb hd (by rw [iI_or]; exact k)
theorem sh_sm : ∀ n, n < 32 → ((nI n &&& 31).toBitVec.smod 32).toNat = n := by decide +kernel
theorem iI_shl {x n : Nat} (hn : n < 32) (h : x * 2 ^ n < 4294967296) : iI (x : Int) <<< (iI (n : Int) &&& 31) = iI ((x * 2 ^ n : Nat) : Int) := by
  rw [iI_n, iI_n, iI_n]; exact pk_shlN _ n (sh_sm n hn) h
theorem iI_shr {x n : Nat} (hn : n < 32) (h : x < 2147483648) : iI (x : Int) >>> (iI (n : Int) &&& 31) = iI ((x / 2 ^ n : Nat) : Int) := by
  rw [iI_n, iI_n, iI_n]; exact pk_shrN h _ n (sh_sm n hn)
theorem rz_shl {x n : Nat} (hx : p.tables.exec = Jvm.exec) (hb : c.code = cc) (hd : decode cc pc = .ok (.ishl, 1)) (hn : n < 32) (h : x * 2 ^ n < 4294967296) (k : W p l e R s m args below meth c H locs cells slots Q (F0 m (pc + 1) ls (.int (iI ((x * 2 ^ n : Nat) : Int)) :: rest))) : W p l e R s m args below meth c H locs cells slots Q (F0 m pc ls (.int (iI (n : Int)) :: .int (iI (x : Int)) :: rest)) := lv_ishl hx hb hd (by rw [iI_shl hn h]; exact k)
theorem rz_shr {x n : Nat} (hx : p.tables.exec = Jvm.exec) (hb : c.code = cc) (hd : decode cc pc = .ok (.ishr, 1)) (hn : n < 32) (h : x < 2147483648) (k : W p l e R s m args below meth c H locs cells slots Q (F0 m (pc + 1) ls (.int (iI ((x / 2 ^ n : Nat) : Int)) :: rest))) : W p l e R s m args below meth c H locs cells slots Q (F0 m pc ls (.int (iI (n : Int)) :: .int (iI (x : Int)) :: rest)) := lv_ishr hx hb hd (by rw [iI_shr hn h]; exact k)
-- compares and branches
theorem rz_clt (hx : p.tables.exec = Jvm.exec) (hb : c.code = cc) (hd : decode cc pc = .ok (.if_icmp .lt off, 3)) (ht : (pc : Int) + off = (tgt : Int)) (ha : -2147483648 ≤ a ∧ a < 2147483648) (hq : -2147483648 ≤ b ∧ b < 2147483648) (kt : a < b → W p l e R s m args below meth c H locs cells slots Q (F0 m tgt ls rest)) (kf : b ≤ a → W p l e R s m args below meth c H locs cells slots Q (F0 m (pc + 3) ls rest)) : W p l e R s m args below meth c H locs cells slots Q (F0 m pc ls (.int (iI b) :: .int (iI a) :: rest)) :=
  lv_icmp_lt hx hb hd ht (fun h => kt ((iI_lt ha hq).mp h)) (fun h => kf (Int.not_lt.mp (fun q => h ((iI_lt ha hq).mpr q))))
theorem rz_cge (hx : p.tables.exec = Jvm.exec) (hb : c.code = cc) (hd : decode cc pc = .ok (.if_icmp .ge off, 3)) (ht : (pc : Int) + off = (tgt : Int)) (ha : -2147483648 ≤ a ∧ a < 2147483648) (hq : -2147483648 ≤ b ∧ b < 2147483648) (kt : b ≤ a → W p l e R s m args below meth c H locs cells slots Q (F0 m tgt ls rest)) (kf : a < b → W p l e R s m args below meth c H locs cells slots Q (F0 m (pc + 3) ls rest)) : W p l e R s m args below meth c H locs cells slots Q (F0 m pc ls (.int (iI b) :: .int (iI a) :: rest)) :=
  lv_icmp_ge hx hb hd ht (fun h => kt ((iI_le hq ha).mp h)) (fun h => kf (Int.not_le.mp (fun q => h ((iI_le hq ha).mpr q))))
theorem rz_cgt (hx : p.tables.exec = Jvm.exec) (hb : c.code = cc) (hd : decode cc pc = .ok (.if_icmp .gt off, 3)) (ht : (pc : Int) + off = (tgt : Int)) (ha : -2147483648 ≤ a ∧ a < 2147483648) (hq : -2147483648 ≤ b ∧ b < 2147483648) (kt : b < a → W p l e R s m args below meth c H locs cells slots Q (F0 m tgt ls rest)) (kf : a ≤ b → W p l e R s m args below meth c H locs cells slots Q (F0 m (pc + 3) ls rest)) : W p l e R s m args below meth c H locs cells slots Q (F0 m pc ls (.int (iI b) :: .int (iI a) :: rest)) :=
  lv_icmp_gt hx hb hd ht (fun h => kt ((iI_lt hq ha).mp h)) (fun h => kf (Int.not_lt.mp (fun q => h ((iI_lt hq ha).mpr q))))
theorem rz_cle (hx : p.tables.exec = Jvm.exec) (hb : c.code = cc) (hd : decode cc pc = .ok (.if_icmp .le off, 3)) (ht : (pc : Int) + off = (tgt : Int)) (ha : -2147483648 ≤ a ∧ a < 2147483648) (hq : -2147483648 ≤ b ∧ b < 2147483648) (kt : a ≤ b → W p l e R s m args below meth c H locs cells slots Q (F0 m tgt ls rest)) (kf : b < a → W p l e R s m args below meth c H locs cells slots Q (F0 m (pc + 3) ls rest)) : W p l e R s m args below meth c H locs cells slots Q (F0 m pc ls (.int (iI b) :: .int (iI a) :: rest)) :=
  lv_icmp_le hx hb hd ht (fun h => kt ((iI_le ha hq).mp h)) (fun h => kf (Int.not_le.mp (fun q => h ((iI_le ha hq).mpr q))))
theorem rz_ceq (hx : p.tables.exec = Jvm.exec) (hb : c.code = cc) (hd : decode cc pc = .ok (.if_icmp .eq off, 3)) (ht : (pc : Int) + off = (tgt : Int)) (ha : -2147483648 ≤ a ∧ a < 2147483648) (hq : -2147483648 ≤ b ∧ b < 2147483648) (kt : a = b → W p l e R s m args below meth c H locs cells slots Q (F0 m tgt ls rest)) (kf : a ≠ b → W p l e R s m args below meth c H locs cells slots Q (F0 m (pc + 3) ls rest)) : W p l e R s m args below meth c H locs cells slots Q (F0 m pc ls (.int (iI b) :: .int (iI a) :: rest)) :=
  lv_icmp_eq hx hb hd ht (fun h => kt ((iI_eq ha hq).mp h)) (fun h => kf (fun q => h ((iI_eq ha hq).mpr q)))
theorem rz_cne (hx : p.tables.exec = Jvm.exec) (hb : c.code = cc) (hd : decode cc pc = .ok (.if_icmp .ne off, 3)) (ht : (pc : Int) + off = (tgt : Int)) (ha : -2147483648 ≤ a ∧ a < 2147483648) (hq : -2147483648 ≤ b ∧ b < 2147483648) (kt : a ≠ b → W p l e R s m args below meth c H locs cells slots Q (F0 m tgt ls rest)) (kf : a = b → W p l e R s m args below meth c H locs cells slots Q (F0 m (pc + 3) ls rest)) : W p l e R s m args below meth c H locs cells slots Q (F0 m pc ls (.int (iI b) :: .int (iI a) :: rest)) :=
  lv_icmp_ne hx hb hd ht (fun h => kt (fun q => h ((iI_eq ha hq).mpr q))) (fun h => kf ((iI_eq ha hq).mp h))
theorem rz_ilt (hx : p.tables.exec = Jvm.exec) (hb : c.code = cc) (hd : decode cc pc = .ok (.ifCond .lt off, 3)) (ht : (pc : Int) + off = (tgt : Int)) (ha : -2147483648 ≤ a ∧ a < 2147483648) (kt : a < 0 → W p l e R s m args below meth c H locs cells slots Q (F0 m tgt ls rest)) (kf : 0 ≤ a → W p l e R s m args below meth c H locs cells slots Q (F0 m (pc + 3) ls rest)) : W p l e R s m args below meth c H locs cells slots Q (F0 m pc ls (.int (iI a) :: rest)) :=
  lv_if_lt hx hb hd ht (fun h => kt ((iI_lt ha (by omega)).mp (by rw [iI_0]; exact h))) (fun h => kf (Int.not_lt.mp (fun q => h (by rw [← iI_0]; exact (iI_lt ha (by omega)).mpr q))))
theorem rz_ige (hx : p.tables.exec = Jvm.exec) (hb : c.code = cc) (hd : decode cc pc = .ok (.ifCond .ge off, 3)) (ht : (pc : Int) + off = (tgt : Int)) (ha : -2147483648 ≤ a ∧ a < 2147483648) (kt : 0 ≤ a → W p l e R s m args below meth c H locs cells slots Q (F0 m tgt ls rest)) (kf : a < 0 → W p l e R s m args below meth c H locs cells slots Q (F0 m (pc + 3) ls rest)) : W p l e R s m args below meth c H locs cells slots Q (F0 m pc ls (.int (iI a) :: rest)) :=
  lv_if_ge hx hb hd ht (fun h => kt ((iI_le (by omega) ha).mp (by rw [iI_0]; exact h))) (fun h => kf (Int.not_le.mp (fun q => h (by rw [← iI_0]; exact (iI_le (by omega) ha).mpr q))))
theorem rz_igt (hx : p.tables.exec = Jvm.exec) (hb : c.code = cc) (hd : decode cc pc = .ok (.ifCond .gt off, 3)) (ht : (pc : Int) + off = (tgt : Int)) (ha : -2147483648 ≤ a ∧ a < 2147483648) (kt : 0 < a → W p l e R s m args below meth c H locs cells slots Q (F0 m tgt ls rest)) (kf : a ≤ 0 → W p l e R s m args below meth c H locs cells slots Q (F0 m (pc + 3) ls rest)) : W p l e R s m args below meth c H locs cells slots Q (F0 m pc ls (.int (iI a) :: rest)) :=
  lv_if_gt hx hb hd ht (fun h => kt ((iI_lt (by omega) ha).mp (by rw [iI_0]; exact h))) (fun h => kf (Int.not_lt.mp (fun q => h (by rw [← iI_0]; exact (iI_lt (by omega) ha).mpr q))))
theorem rz_ile (hx : p.tables.exec = Jvm.exec) (hb : c.code = cc) (hd : decode cc pc = .ok (.ifCond .le off, 3)) (ht : (pc : Int) + off = (tgt : Int)) (ha : -2147483648 ≤ a ∧ a < 2147483648) (kt : a ≤ 0 → W p l e R s m args below meth c H locs cells slots Q (F0 m tgt ls rest)) (kf : 0 < a → W p l e R s m args below meth c H locs cells slots Q (F0 m (pc + 3) ls rest)) : W p l e R s m args below meth c H locs cells slots Q (F0 m pc ls (.int (iI a) :: rest)) :=
  lv_if_le hx hb hd ht (fun h => kt ((iI_le ha (by omega)).mp (by rw [iI_0]; exact h))) (fun h => kf (Int.not_le.mp (fun q => h (by rw [← iI_0]; exact (iI_le ha (by omega)).mpr q))))
theorem rz_ieq (hx : p.tables.exec = Jvm.exec) (hb : c.code = cc) (hd : decode cc pc = .ok (.ifCond .eq off, 3)) (ht : (pc : Int) + off = (tgt : Int)) (ha : -2147483648 ≤ a ∧ a < 2147483648) (kt : a = 0 → W p l e R s m args below meth c H locs cells slots Q (F0 m tgt ls rest)) (kf : a ≠ 0 → W p l e R s m args below meth c H locs cells slots Q (F0 m (pc + 3) ls rest)) : W p l e R s m args below meth c H locs cells slots Q (F0 m pc ls (.int (iI a) :: rest)) :=
  lv_if_eq hx hb hd ht (fun h => kt ((iI_eq ha (by omega)).mp (by rw [iI_0]; exact h))) (fun h => kf (fun q => h (by rw [← iI_0]; exact (iI_eq ha (by omega)).mpr q)))
theorem rz_ine (hx : p.tables.exec = Jvm.exec) (hb : c.code = cc) (hd : decode cc pc = .ok (.ifCond .ne off, 3)) (ht : (pc : Int) + off = (tgt : Int)) (ha : -2147483648 ≤ a ∧ a < 2147483648) (kt : a ≠ 0 → W p l e R s m args below meth c H locs cells slots Q (F0 m tgt ls rest)) (kf : a = 0 → W p l e R s m args below meth c H locs cells slots Q (F0 m (pc + 3) ls rest)) : W p l e R s m args below meth c H locs cells slots Q (F0 m pc ls (.int (iI a) :: rest)) :=
  lv_if_ne hx hb hd ht (fun h => kt (fun q => h (by rw [← iI_0]; exact (iI_eq ha (by omega)).mpr q))) (fun h => kf ((iI_eq ha (by omega)).mp (by rw [iI_0]; exact h)))
/-- a boolean on the stack -/
theorem rz_beq {z : Bool} (hx : p.tables.exec = Jvm.exec) (hb : c.code = cc) (hd : decode cc pc = .ok (.ifCond .eq off, 3)) (ht : (pc : Int) + off = (tgt : Int)) (kt : z = false → W p l e R s m args below meth c H locs cells slots Q (F0 m tgt ls rest)) (kf : z = true → W p l e R s m args below meth c H locs cells slots Q (F0 m (pc + 3) ls rest)) : W p l e R s m args below meth c H locs cells slots Q (F0 m pc ls (.int (iI (b2z z)) :: rest)) := by
  have := b2z_r z
  refine rz_ieq hx hb hd ht (by omega) (fun h => kt ?_) (fun h => kf ?_)
  · cases z
    · rfl
    · exact absurd h (by decide)
  · cases z
    · exact absurd rfl h
    · rfl
theorem rz_bne {z : Bool} (hx : p.tables.exec = Jvm.exec) (hb : c.code = cc) (hd : decode cc pc = .ok (.ifCond .ne off, 3)) (ht : (pc : Int) + off = (tgt : Int)) (kt : z = true → W p l e R s m args below meth c H locs cells slots Q (F0 m tgt ls rest)) (kf : z = false → W p l e R s m args below meth c H locs cells slots Q (F0 m (pc + 3) ls rest)) : W p l e R s m args below meth c H locs cells slots Q (F0 m pc ls (.int (iI (b2z z)) :: rest)) := by
  have := b2z_r z
  refine rz_ine hx hb hd ht (by omega) (fun h => kt ?_) (fun h => kf ?_)
  · cases z
    · exact absurd rfl h
    · rfl
  · cases z
    · rfl
    · exact absurd h (by decide)
theorem rz_beqD {P : Prop} {hdc : Decidable P} (hx : p.tables.exec = Jvm.exec) (hb : c.code = cc) (hd : decode cc pc = .ok (.ifCond .eq off, 3)) (ht : (pc : Int) + off = (tgt : Int)) (kt : ¬ P → W p l e R s m args below meth c H locs cells slots Q (F0 m tgt ls rest)) (kf : P → W p l e R s m args below meth c H locs cells slots Q (F0 m (pc + 3) ls rest)) : W p l e R s m args below meth c H locs cells slots Q (F0 m pc ls (.int (iI (b2z (@decide P hdc))) :: rest)) :=
  rz_beq hx hb hd ht (fun h => kt (of_decide_eq_false h)) (fun h => kf (of_decide_eq_true h))
theorem rz_bneD {P : Prop} {hdc : Decidable P} (hx : p.tables.exec = Jvm.exec) (hb : c.code = cc) (hd : decode cc pc = .ok (.ifCond .ne off, 3)) (ht : (pc : Int) + off = (tgt : Int)) (kt : P → W p l e R s m args below meth c H locs cells slots Q (F0 m tgt ls rest)) (kf : ¬ P → W p l e R s m args below meth c H locs cells slots Q (F0 m (pc + 3) ls rest)) : W p l e R s m args below meth c H locs cells slots Q (F0 m pc ls (.int (iI (b2z (@decide P hdc))) :: rest)) :=
  rz_bne hx hb hd ht (fun h => kt (of_decide_eq_true h)) (fun h => kf (of_decide_eq_false h))
/-- a value under another name -/
theorem rz_as {x y : Int} (he : x = y) (k : W p l e R s m args below meth c H locs cells slots Q (F0 m pc ls (.int (iI y) :: rest))) : W p l e R s m args below meth c H locs cells slots Q (F0 m pc ls (.int (iI x) :: rest)) := by rw [he]; exact k
theorem rz_top {x : Int} (k : ∀ y : Int, y = x → W p l e R s m args below meth c H locs cells slots Q (F0 m pc ls (.int (iI y) :: rest))) : W p l e R s m args below meth c H locs cells slots Q (F0 m pc ls (.int (iI x) :: rest)) := k x rfl
-- arrays
variable {D : va_G} {cl : List vw_C} {tys : List (ClassId × FieldType)} {ws : va_W} {A : Nat → Prop} {cA : ClassId} {n ad : Nat} {g : Nat → Int}
theorem rz_ald (hx : p.tables.exec = Jvm.exec) (hb : c.code = cc) (hK : va_K D cl tys s) (hP : va_P D cl ws H) (q0 t0 : Nat) (ha : ws[q0]? = some (ad, .inl (cA, n, .inl (zA g)))) (ht : tys[t0]? = some (cA, .int)) (hi : 0 ≤ a ∧ a < (n : Int)) (hn : n < 2147483648) (hd : decode cc pc = .ok (.iaload, 1))
    (k : W p l e R s m args below meth c H locs cells slots Q (F0 m (pc + 1) ls (.int (iI (g a.toNat)) :: rest))) : W p l e R s m args below meth c H locs cells slots Q (F0 m pc ls (.int (iI a) :: .ref ad :: rest)) := by
  refine va_iald hx hb hK hP q0 t0 ha ht (iI_in hi hn) hd ?_
  rw [iI_cl (by omega)]; exact k
theorem rz_zld (hx : p.tables.exec = Jvm.exec) (hb : c.code = cc) (hK : va_K D cl tys s) (hP : va_P D cl ws H) (q0 t0 : Nat) (ha : ws[q0]? = some (ad, .inl (cA, n, .inl (zA g)))) (ht : tys[t0]? = some (cA, .boolean)) (hi : 0 ≤ a ∧ a < (n : Int)) (hn : n < 2147483648) (hd : decode cc pc = .ok (.baload, 1))
    (k : W p l e R s m args below meth c H locs cells slots Q (F0 m (pc + 1) ls (.int (iI (g a.toNat)) :: rest))) : W p l e R s m args below meth c H locs cells slots Q (F0 m pc ls (.int (iI a) :: .ref ad :: rest)) := by
  refine va_zald hx hb hK hP q0 t0 ha ht (iI_in hi hn) hd ?_
  rw [iI_cl (by omega)]; exact k
theorem rz_ast (hx : p.tables.exec = Jvm.exec) (hb : c.code = cc) (hK : va_K D cl tys s) (hP : va_P D cl ws H) (hD : va_D A ws) (hS : va_S A H0 H locs) (q0 t0 : Nat) (ha : ws[q0]? = some (ad, .inl (cA, n, .inl (zA g)))) (ht : tys[t0]? = some (cA, .int)) (hi : 0 ≤ a ∧ a < (n : Int)) (hn : n < 2147483648) (hd : decode cc pc = .ok (.iastore, 1))
    (k : ∀ (H1 : Heap) (locs1 : List Loc), va_P D cl (ws.set q0 (ad, .inl (cA, n, .inl (zA (uZ g a.toNat b))))) H1 → va_D A (ws.set q0 (ad, .inl (cA, n, .inl (zA (uZ g a.toNat b))))) → va_S A H0 H1 locs1 → W p l e R s m args below meth c H1 locs1 cells slots Q (F0 m (pc + 1) ls rest)) : W p l e R s m args below meth c H locs cells slots Q (F0 m pc ls (.int (iI b) :: .int (iI a) :: .ref ad :: rest)) := by
  refine va_iast hx hb hK hP hD hS q0 t0 ha ht (iI_in hi hn) hd (fun H1 locs1 h1 h2 h3 => ?_)
  rw [iI_cl (by omega), zA_u] at h1 h2
  exact k H1 locs1 h1 h2 h3
end RZ

-- the same over Nat: what is never below zero
theorem iI_inc (i : Nat) : iI (i : Int) + Int32.ofInt 1 = iI ((i + 1 : Nat) : Int) := by
  show iI (i : Int) + iI 1 = _
  rw [iI_add]; congr 1
/-- an array of masks; of truths -/
def nZ (o : Nat → Nat) : Nat → Int := fun j => ((o j : Nat) : Int)
def bZ (o : Nat → Bool) : Nat → Int := fun j => b2z (o j)
def uN (o : Nat → Nat) (k v : Nat) : Nat → Nat := fun j => if j = k then v else o j
def uB (o : Nat → Bool) (k : Nat) (v : Bool) : Nat → Bool := fun j => if j = k then v else o j
theorem uN_s (g : Nat → Nat) (k v : Nat) : uN g k v k = v := by simp [uN]
theorem uN_n (g : Nat → Nat) {k j : Nat} (v : Nat) (h : j ≠ k) : uN g k v j = g j := by simp [uN, h]
theorem nZ_u (o : Nat → Nat) (k v : Nat) : uZ (nZ o) k ((v : Nat) : Int) = nZ (uN o k v) := by
  funext j; simp only [uZ, nZ, uN]; split <;> rfl
theorem bZ_u (o : Nat → Bool) (k : Nat) (v : Bool) : uZ (bZ o) k (b2z v) = bZ (uB o k v) := by
  funext j; simp only [uZ, bZ, uB]; split <;> rfl
theorem uN_all {P : Nat → Prop} {g : Nat → Nat} (h : ∀ j, P (g j)) (k : Nat) {v : Nat} (hv : P v) : ∀ j, P (uN g k v j) := by
  intro j; simp only [uN]; split
  · exact hv
  · exact h j
theorem b2z_vn (b : Bool) : vp_nar .boolean (iI (b2z b)) = iI (b2z b) := by cases b <;> decide +kernel
section RN
variable {p : Program} {l : Launch} {e : Env} {R : Room} {s : State} {m : MethodId} {args : Array Value} {below : List Frame} {meth : Method} {c : Code} {H H0 : Heap} {locs : List Loc} {cells slots : Nat} {Q : State → Prop} {cc : ByteArray} {pc tgt : Nat} {ls : Array Slot} {rest : List Value} {x y : Nat}
theorem rn_add (hx : p.tables.exec = Jvm.exec) (hb : c.code = cc) (hd : decode cc pc = .ok (.iadd, 1)) (k : W p l e R s m args below meth c H locs cells slots Q (F0 m (pc + 1) ls (.int (iI ((x + y : Nat) : Int)) :: rest))) : W p l e R s m args below meth c H locs cells slots Q (F0 m pc ls (.int (iI (y : Int)) :: .int (iI (x : Int)) :: rest)) := rz_add hx hb hd (rz_as (by omega) k)
theorem rn_mul (hx : p.tables.exec = Jvm.exec) (hb : c.code = cc) (hd : decode cc pc = .ok (.imul, 1)) (k : W p l e R s m args below meth c H locs cells slots Q (F0 m (pc + 1) ls (.int (iI ((x * y : Nat) : Int)) :: rest))) : W p l e R s m args below meth c H locs cells slots Q (F0 m pc ls (.int (iI (y : Int)) :: .int (iI (x : Int)) :: rest)) := rz_mul hx hb hd (rz_as (Int.natCast_mul x y).symm k)
theorem rn_sub (hx : p.tables.exec = Jvm.exec) (hb : c.code = cc) (hd : decode cc pc = .ok (.isub, 1)) (h : y ≤ x) (k : W p l e R s m args below meth c H locs cells slots Q (F0 m (pc + 1) ls (.int (iI ((x - y : Nat) : Int)) :: rest))) : W p l e R s m args below meth c H locs cells slots Q (F0 m pc ls (.int (iI (y : Int)) :: .int (iI (x : Int)) :: rest)) := rz_sub hx hb hd (rz_as (by omega) k)
theorem rn_div (hx : p.tables.exec = Jvm.exec) (hb : c.code = cc) (hd : decode cc pc = .ok (.idiv, 1)) (ha : x < 2147483648) (hq : 0 < y ∧ y < 2147483648) (k : W p l e R s m args below meth c H locs cells slots Q (F0 m (pc + 1) ls (.int (iI ((x / y : Nat) : Int)) :: rest))) : W p l e R s m args below meth c H locs cells slots Q (F0 m pc ls (.int (iI (y : Int)) :: .int (iI (x : Int)) :: rest)) := rz_div hx hb hd (by omega) (by omega) (rz_as (Int.natCast_ediv x y).symm k)
theorem rn_rem (hx : p.tables.exec = Jvm.exec) (hb : c.code = cc) (hd : decode cc pc = .ok (.irem, 1)) (ha : x < 2147483648) (hq : 0 < y ∧ y < 2147483648) (k : W p l e R s m args below meth c H locs cells slots Q (F0 m (pc + 1) ls (.int (iI ((x % y : Nat) : Int)) :: rest))) : W p l e R s m args below meth c H locs cells slots Q (F0 m pc ls (.int (iI (y : Int)) :: .int (iI (x : Int)) :: rest)) := rz_rem hx hb hd (by omega) (by omega) (rz_as (Int.natCast_emod x y).symm k)
variable {D : va_G} {cl : List vw_C} {tys : List (ClassId × FieldType)} {ws : va_W} {A : Nat → Prop} {cA : ClassId} {n ad : Nat} {g : Nat → Int} {o : Nat → Nat} {fb : Nat → Bool} {v : Int}
theorem rn_ald (hx : p.tables.exec = Jvm.exec) (hb : c.code = cc) (hK : va_K D cl tys s) (hP : va_P D cl ws H) (q0 t0 : Nat) (ha : ws[q0]? = some (ad, .inl (cA, n, .inl (zA g)))) (ht : tys[t0]? = some (cA, .int)) (hi : x < n) (hn : n < 2147483648) (hd : decode cc pc = .ok (.iaload, 1))
    (k : W p l e R s m args below meth c H locs cells slots Q (F0 m (pc + 1) ls (.int (iI (g x)) :: rest))) : W p l e R s m args below meth c H locs cells slots Q (F0 m pc ls (.int (iI (x : Int)) :: .ref ad :: rest)) := rz_ald hx hb hK hP q0 t0 ha ht (by omega) hn hd (by rw [Int.toNat_natCast]; exact k)
theorem rn_aldM (hx : p.tables.exec = Jvm.exec) (hb : c.code = cc) (hK : va_K D cl tys s) (hP : va_P D cl ws H) (q0 t0 : Nat) (ha : ws[q0]? = some (ad, .inl (cA, n, .inl (zA (nZ o))))) (ht : tys[t0]? = some (cA, .int)) (hi : x < n) (hn : n < 2147483648) (hd : decode cc pc = .ok (.iaload, 1))
    (k : W p l e R s m args below meth c H locs cells slots Q (F0 m (pc + 1) ls (.int (iI ((o x : Nat) : Int)) :: rest))) : W p l e R s m args below meth c H locs cells slots Q (F0 m pc ls (.int (iI (x : Int)) :: .ref ad :: rest)) := rn_ald hx hb hK hP q0 t0 ha ht hi hn hd k
theorem rn_zld (hx : p.tables.exec = Jvm.exec) (hb : c.code = cc) (hK : va_K D cl tys s) (hP : va_P D cl ws H) (q0 t0 : Nat) (ha : ws[q0]? = some (ad, .inl (cA, n, .inl (zA (bZ fb))))) (ht : tys[t0]? = some (cA, .boolean)) (hi : x < n) (hn : n < 2147483648) (hd : decode cc pc = .ok (.baload, 1))
    (k : W p l e R s m args below meth c H locs cells slots Q (F0 m (pc + 1) ls (.int (iI (b2z (fb x))) :: rest))) : W p l e R s m args below meth c H locs cells slots Q (F0 m pc ls (.int (iI (x : Int)) :: .ref ad :: rest)) := rz_zld hx hb hK hP q0 t0 ha ht (by omega) hn hd (by rw [Int.toNat_natCast]; exact k)
theorem rn_ast (hx : p.tables.exec = Jvm.exec) (hb : c.code = cc) (hK : va_K D cl tys s) (hP : va_P D cl ws H) (hD : va_D A ws) (hS : va_S A H0 H locs) (q0 t0 : Nat) (ha : ws[q0]? = some (ad, .inl (cA, n, .inl (zA g)))) (ht : tys[t0]? = some (cA, .int)) (hi : x < n) (hn : n < 2147483648) (hd : decode cc pc = .ok (.iastore, 1))
    (k : ∀ (H1 : Heap) (locs1 : List Loc), va_P D cl (ws.set q0 (ad, .inl (cA, n, .inl (zA (uZ g x v))))) H1 → va_D A (ws.set q0 (ad, .inl (cA, n, .inl (zA (uZ g x v))))) → va_S A H0 H1 locs1 → W p l e R s m args below meth c H1 locs1 cells slots Q (F0 m (pc + 1) ls rest)) : W p l e R s m args below meth c H locs cells slots Q (F0 m pc ls (.int (iI v) :: .int (iI (x : Int)) :: .ref ad :: rest)) :=
  rz_ast hx hb hK hP hD hS q0 t0 ha ht (by omega) hn hd (fun H1 locs1 h1 h2 h3 => k H1 locs1 (by rw [Int.toNat_natCast] at h1; exact h1) (by rw [Int.toNat_natCast] at h2; exact h2) h3)
theorem rn_astM (hx : p.tables.exec = Jvm.exec) (hb : c.code = cc) (hK : va_K D cl tys s) (hP : va_P D cl ws H) (hD : va_D A ws) (hS : va_S A H0 H locs) (q0 t0 : Nat) (ha : ws[q0]? = some (ad, .inl (cA, n, .inl (zA (nZ o))))) (ht : tys[t0]? = some (cA, .int)) (hi : x < n) (hn : n < 2147483648) (hd : decode cc pc = .ok (.iastore, 1))
    (k : ∀ (H1 : Heap) (locs1 : List Loc), va_P D cl (ws.set q0 (ad, .inl (cA, n, .inl (zA (nZ (uN o x y)))))) H1 → va_D A (ws.set q0 (ad, .inl (cA, n, .inl (zA (nZ (uN o x y)))))) → va_S A H0 H1 locs1 → W p l e R s m args below meth c H1 locs1 cells slots Q (F0 m (pc + 1) ls rest)) : W p l e R s m args below meth c H locs cells slots Q (F0 m pc ls (.int (iI (y : Int)) :: .int (iI (x : Int)) :: .ref ad :: rest)) :=
  rn_ast hx hb hK hP hD hS q0 t0 ha ht hi hn hd (fun H1 locs1 h1 h2 h3 => k H1 locs1 (by rw [nZ_u] at h1; exact h1) (by rw [nZ_u] at h2; exact h2) h3)
theorem rn_zst {z : Bool} (hx : p.tables.exec = Jvm.exec) (hb : c.code = cc) (hK : va_K D cl tys s) (hP : va_P D cl ws H) (hD : va_D A ws) (hS : va_S A H0 H locs) (q0 t0 : Nat) (ha : ws[q0]? = some (ad, .inl (cA, n, .inl (zA (bZ fb))))) (ht : tys[t0]? = some (cA, .boolean)) (hi : x < n) (hn : n < 2147483648) (hd : decode cc pc = .ok (.bastore, 1))
    (k : ∀ (H1 : Heap) (locs1 : List Loc), va_P D cl (ws.set q0 (ad, .inl (cA, n, .inl (zA (bZ (uB fb x z)))))) H1 → va_D A (ws.set q0 (ad, .inl (cA, n, .inl (zA (bZ (uB fb x z)))))) → va_S A H0 H1 locs1 → W p l e R s m args below meth c H1 locs1 cells slots Q (F0 m (pc + 1) ls rest)) : W p l e R s m args below meth c H locs cells slots Q (F0 m pc ls (.int (iI (b2z z)) :: .int (iI (x : Int)) :: .ref ad :: rest)) := by
  refine va_zast hx hb hK hP hD hS q0 t0 ha ht (iI_in (by omega) hn) hd (fun H1 locs1 h1 h2 h3 => ?_)
  rw [iI_cl (by omega), b2z_vn, Int.toNat_natCast, zA_u, bZ_u] at h1 h2
  exact k H1 locs1 h1 h2 h3
end RN
