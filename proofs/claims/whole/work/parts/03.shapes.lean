/-! shapes of contracts: cP what holds before, cB behind; and calls over them -/
abbrev ce_i (q : Nat) (cA : ClassId) (n : Nat) (g : Nat → Int) : Nat × va_E := (q, .inl (cA, n, .inl (zA g)))
def cP (D : va_G) (cl : List vw_C) (tys : List (ClassId × FieldType)) (ws : va_W) (sz : Nat) (U : State) : Prop := U.heap.size = sz ∧ va_P D cl ws U.heap ∧ va_K D cl tys U ∧ nK U ∧ va_D (fun _ => True) ws
def cB (D : va_G) (cl : List vw_C) (tys : List (ClassId × FieldType)) (A : Nat → Prop) (w : va_W) (t : State) : Prop := va_P D cl w t.heap ∧ va_K D cl tys t ∧ va_D A w
/-- a method that answers an int: 'post answer, its cells behind it' -/
def Ci (l : Launch) (y : MethodName) (wd : List Cond) (rm : Room) (D : va_G) (cl : List vw_C) (tys : List (ClassId × FieldType)) (av : List Value) (ws : va_W) (sz : Nat) (post : Int → va_W → Prop) (mc ms : Nat) : Prop :=
  Met l y wd rm (va_Pc av (cP D cl tys ws sz)) (va_Qi (fun r w => ∃ z : Int, r = iI z ∧ post z w) (cB D cl tys (va_A ws sz)) (va_A ws sz)) mc ms (va_A ws sz)
def Cv (l : Launch) (y : MethodName) (wd : List Cond) (rm : Room) (D : va_G) (cl : List vw_C) (tys : List (ClassId × FieldType)) (av : List Value) (ws : va_W) (sz : Nat) (post : va_W → Prop) (mc ms : Nat) : Prop :=
  Met l y wd rm (va_Pc av (cP D cl tys ws sz)) (va_Qv post (cB D cl tys (va_A ws sz)) (va_A ws sz)) mc ms (va_A ws sz)
def Cl (l : Launch) (y : MethodName) (wd : List Cond) (rm : Room) (D : va_G) (cl : List vw_C) (tys : List (ClassId × FieldType)) (av : List Value) (ws : va_W) (sz : Nat) (post : Int64 → va_W → Prop) (mc ms : Nat) : Prop :=
  Met l y wd rm (va_Pc av (cP D cl tys ws sz)) (va_Ql post (cB D cl tys (va_A ws sz)) (va_A ws sz)) mc ms (va_A ws sz)
theorem cP_blind {D : va_G} {cl : List vw_C} {tys : List (ClassId × FieldType)} {ws : va_W} {sz : Nat} {av : List Value} : FrameBlind (va_Pc av (cP D cl tys ws sz)) := fun a U g mk q => by
  obtain ⟨q0, q1, qP, qK, qN, qD⟩ := q
  exact ⟨q0, q1, qP, va_K.moved (u := U) (U := U.calling g mk a) (Vm.Alike.refl U.vm) qK, nK_same (s := U) (U := U.calling g mk a) rfl qN, qD⟩
theorem cP_pre {s : State} {H : Heap} {D : va_G} {cl : List vw_C} {tys : List (ClassId × FieldType)} {wc : va_W} {av : List Value} {A : Nat → Prop} (hP : va_P D cl wc H) (hK : va_K D cl tys s) (hN : nK s) (hD : va_D A wc) : ∀ U : State, U.heap = H → s.WarmedH U.vm → va_Pc av (cP D cl tys wc H.size) av.toArray U :=
  fun U hU hW => ⟨rfl, by rw [hU], by rw [hU]; exact hP, va_K.moved hW.alike hK, nK_warm hW hN, hD.weaken (fun _ _ _ _ => trivial)⟩
/-- what a call leaves: the callee's cells as it says, the rest as it was, at the old places -/
theorem va_keep {A0 : Nat → Prop} {D : va_G} {cl : List vw_C} {ws wc : va_W} {H H1 : Heap} (hP : va_P D cl ws H) (hD : va_D A0 ws) (isC : List Nat) (hC : isC.map (fun i => ws[i]?) = wc.map some)
    (hk : ∀ q : Nat, q < H.size → ¬ va_A wc H.size q → H1[q]? = H[q]?) (hP1 : va_P D cl wc H1) : va_P D cl ws H1 := by
  intro k q hq
  by_cases h : ∃ j : Nat, wc[j]? = some q
  · obtain ⟨j, hj⟩ := h
    exact hP1 j q hj
  · have hlt : q.1 < H.size := (hP k q hq).lt
    have hn : ¬ va_A wc H.size q.1 := by
      rintro (⟨j, e, hj⟩ | hge)
      · have h1 : (isC.map (fun i => ws[i]?))[j]? = some (some (q.1, e)) := by rw [hC, List.getElem?_map, hj]; rfl
        rw [List.getElem?_map] at h1
        cases hi : isC[j]? with
        | none => rw [hi] at h1; cases h1
        | some i =>
          rw [hi] at h1
          have h2 : ws[i]? = some (q.1, e) := Option.some.inj h1
          have h3 : k = i := hD.1 k i q (q.1, e) hq h2 rfl
          subst h3
          rw [hq] at h2
          exact h ⟨j, by rw [hj]; exact h2.symm ▸ rfl⟩
      · omega
    exact (hP k q hq).kept (hk q.1 hlt hn)
section RC
variable {p : Program} {l : Launch} {e : Env} {R : Room} {s : State} {m : MethodId} {args : Array Value} {below : List Frame} {meth : Method} {c : Code} {H H0 : Heap} {locs : List Loc} {cells slots mc ms : Nat} {Q : State → Prop} {pc : Nat} {ls : Array Slot} {rest st0 : List Value} {av : Array Value}
  {D : va_G} {cl : List vw_C} {tys : List (ClassId × FieldType)} {ws wc wr : va_W} {A : Nat → Prop}
theorem rz_calli {post : Int → va_W → Prop} (hr : va_Run p l e R s m args below meth c H locs cells slots 0 0 (F0 m pc ls st0) rest (va_Qi (fun r w => ∃ z : Int, r = iI z ∧ post z w) (cB D cl tys (va_A wc H.size)) (va_A wc H.size) av) (va_A wc H.size))
    (hP : va_P D cl ws H) (hD : va_D A ws) (hS : va_S A H0 H locs) (hA : ∀ q, H0.size ≤ q → A q) (isC isR : List Nat) (hC : isC.map (fun i => ws[i]?) = wc.map some) (hR : isR.map (fun i => ws[i]?) = wr.map some) (hn : va_nd isR = true) (hdis : ∀ i ∈ isR, i ∉ isC)
    (k : ∀ (z : Int) (w : va_W) (H1 : Heap) (locs1 : List Loc), post z w → va_P D cl (wr ++ w) H1 → va_D A (wr ++ w) → va_S A H0 H1 locs1 → W p l e R s m args below meth c H1 locs1 cells slots Q (F0 m (pc + 3) ls (.int (iI z) :: rest))) : W p l e R s m args below meth c H locs cells slots Q (F0 m pc ls st0) := by
  have hF := va_free (wc := wc) hD hS hA isC hC
  refine va_calli hr hS (fun q _ h => hF q h) hF (fun r w t H1 locs1 ht hvm hw hB hz1 hk1 hS1 => ?_)
  obtain ⟨z, rfl, hp⟩ := hw
  obtain ⟨hP1, hK1, hD1⟩ := hB
  rw [ht] at hP1
  obtain ⟨hP2, hD2⟩ := va_join (wr := wr) (w1 := w) hP hD isC isR hC hR hn hdis hk1 hF hP1 hD1
  exact k z w H1 locs1 hp hP2 hD2 hS1
/-- the callee leaves its cells as they were -/
theorem rz_calliR {post : Int → Prop} (hr : va_Run p l e R s m args below meth c H locs cells slots 0 0 (F0 m pc ls st0) rest (va_Qi (fun r w => ∃ z : Int, r = iI z ∧ (w = wc ∧ post z)) (cB D cl tys (va_A wc H.size)) (va_A wc H.size) av) (va_A wc H.size))
    (hP : va_P D cl ws H) (hD : va_D A ws) (hS : va_S A H0 H locs) (hA : ∀ q, H0.size ≤ q → A q) (isC : List Nat) (hC : isC.map (fun i => ws[i]?) = wc.map some)
    (k : ∀ (z : Int) (H1 : Heap) (locs1 : List Loc), post z → va_P D cl ws H1 → va_S A H0 H1 locs1 → W p l e R s m args below meth c H1 locs1 cells slots Q (F0 m (pc + 3) ls (.int (iI z) :: rest))) : W p l e R s m args below meth c H locs cells slots Q (F0 m pc ls st0) := by
  have hF := va_free (wc := wc) hD hS hA isC hC
  refine va_calli hr hS (fun q _ h => hF q h) hF (fun r w t H1 locs1 ht hvm hw hB hz1 hk1 hS1 => ?_)
  obtain ⟨z, rfl, rfl, hp⟩ := hw
  obtain ⟨hP1, hK1, hD1⟩ := hB
  rw [ht] at hP1
  exact k z H1 locs1 hp (va_keep hP hD isC hC hk1 hP1) hS1
theorem rz_callv {post : va_W → Prop} (hr : va_Run p l e R s m args below meth c H locs cells slots 0 0 (F0 m pc ls st0) rest (va_Qv post (cB D cl tys (va_A wc H.size)) (va_A wc H.size) av) (va_A wc H.size))
    (hP : va_P D cl ws H) (hD : va_D A ws) (hS : va_S A H0 H locs) (hA : ∀ q, H0.size ≤ q → A q) (isC isR : List Nat) (hC : isC.map (fun i => ws[i]?) = wc.map some) (hR : isR.map (fun i => ws[i]?) = wr.map some) (hn : va_nd isR = true) (hdis : ∀ i ∈ isR, i ∉ isC)
    (k : ∀ (w : va_W) (H1 : Heap) (locs1 : List Loc), post w → va_P D cl (wr ++ w) H1 → va_D A (wr ++ w) → va_S A H0 H1 locs1 → W p l e R s m args below meth c H1 locs1 cells slots Q (F0 m (pc + 3) ls rest)) : W p l e R s m args below meth c H locs cells slots Q (F0 m pc ls st0) := by
  have hF := va_free (wc := wc) hD hS hA isC hC
  refine va_callv hr hS (fun q _ h => hF q h) hF (fun w t H1 locs1 ht hvm hw hB hz1 hk1 hS1 => ?_)
  obtain ⟨hP1, hK1, hD1⟩ := hB
  rw [ht] at hP1
  obtain ⟨hP2, hD2⟩ := va_join (wr := wr) (w1 := w) hP hD isC isR hC hR hn hdis hk1 hF hP1 hD1
  exact k w H1 locs1 hw hP2 hD2 hS1
end RC
/-! a method by its walk: all that is the same for every method stands here once; the end 'hret' is handed to the walk, the machine's aim Q stays shut -/
theorem Ci_of {l : Launch} {y : MethodName} {wd wd' : List Cond} {rm : Room} {D : va_G} {cl : List vw_C} {tys : List (ClassId × FieldType)} {av : List Value} {ws : va_W} {sz : Nat} {post : Int → va_W → Prop} {mc ms : Nat} {cc : ByteArray} {nL : Nat} (hy : plainName y.cls = true) (hw : wd = Cond.code y cc nL (some .int) :: wd') (hl0 : (lg_sl av).length ≤ nL)
    (body : ∀ (p : Program) (e : Env) (s : State) (m : MethodId) (below : List Frame) (meth : Method) (c : Code) (A : Nat → Prop) (Q : State → Prop), s.heap.size = sz → CallFix p m c cc nL s av.toArray wd y.cls → va_K D cl tys s → nK s → (∀ q : Nat, s.heap.size ≤ q → A q) → va_P D cl ws s.heap → va_D A ws → va_S A s.heap s.heap [] →
      (∀ (z : Int) (w : va_W) (H : Heap) (locs : List Loc) (ls : Array Slot) (pc : Nat), decode cc pc = .ok (.ireturn, 1) → post z w → va_P D cl w H → va_D A w → va_S A s.heap H locs → W p l e rm s m av.toArray below meth c H locs mc ms Q (F0 m pc ls [.int (iI z)])) →
      ∀ (ls : Array Slot), lv_has ls nL (lv_args 0 av) → W p l e rm s m av.toArray below meth c s.heap [] 0 0 Q (F0 m 0 ls [])) : Ci l y wd rm D cl tys av ws sz post mc ms := by
  refine Met.ofW (cc := cc) (maxL := nL) (ret := some .int) hy hw ?_
  intro p e s m args below meth c s₁ B hml hv
  obtain ⟨rfl, hsz, hP, hK, hN, hD0⟩ := hv
  have hx := B.exec
  have hb := B.bytes
  have hr := B.returns
  have hts := atoms_spec (ws := wd) B.pre
  have hown : s.vm.findClass y.cls = some m.cls := findClass_of_methodNamed B.named
  have hlocks := B.notSynchronized
  have hD := hD0.self (sz := sz)
  rw [lg_entry_eq]
  refine body p e s m below meth c (va_A ws sz) _ hsz ⟨hx, hb, hml, hown, hts⟩ hK hN (fun q h => Or.inr (by omega)) hP hD va_S.rf ?_ _ (lv_entry av hl0)
  intro z w H locs ls pc hd hp h1 h2 h3
  exact W.iret hx hb hr (fun t ht hW => ⟨⟨iI z, w, rfl, ⟨z, rfl, hp⟩, by rw [ht]; exact h1, va_K.moved hW.alike hK, h2⟩, h3.F ht⟩) h3.2.2 hd
theorem b2z_nar (b : Bool) : narrow .boolean (.int (iI (b2z b))) = .int (iI (b2z b)) := by cases b <;> decide +kernel
theorem Cz_of {l : Launch} {y : MethodName} {wd wd' : List Cond} {rm : Room} {D : va_G} {cl : List vw_C} {tys : List (ClassId × FieldType)} {av : List Value} {ws : va_W} {sz : Nat} {post : Int → va_W → Prop} {mc ms : Nat} {cc : ByteArray} {nL : Nat} (hy : plainName y.cls = true) (hw : wd = Cond.code y cc nL (some .boolean) :: wd') (hl0 : (lg_sl av).length ≤ nL)
    (body : ∀ (p : Program) (e : Env) (s : State) (m : MethodId) (below : List Frame) (meth : Method) (c : Code) (A : Nat → Prop) (Q : State → Prop), s.heap.size = sz → CallFix p m c cc nL s av.toArray wd y.cls → va_K D cl tys s → nK s → (∀ q : Nat, s.heap.size ≤ q → A q) → va_P D cl ws s.heap → va_D A ws → va_S A s.heap s.heap [] →
      (∀ (z : Int) (w : va_W) (H : Heap) (locs : List Loc) (ls : Array Slot) (pc : Nat), decode cc pc = .ok (.ireturn, 1) → (z = 0 ∨ z = 1) → post z w → va_P D cl w H → va_D A w → va_S A s.heap H locs → W p l e rm s m av.toArray below meth c H locs mc ms Q (F0 m pc ls [.int (iI z)])) →
      ∀ (ls : Array Slot), lv_has ls nL (lv_args 0 av) → W p l e rm s m av.toArray below meth c s.heap [] 0 0 Q (F0 m 0 ls [])) : Ci l y wd rm D cl tys av ws sz post mc ms := by
  refine Met.ofW (cc := cc) (maxL := nL) (ret := some .boolean) hy hw ?_
  intro p e s m args below meth c s₁ B hml hv
  obtain ⟨rfl, hsz, hP, hK, hN, hD0⟩ := hv
  have hx := B.exec
  have hb := B.bytes
  have hr := B.returns
  have hts := atoms_spec (ws := wd) B.pre
  have hown : s.vm.findClass y.cls = some m.cls := findClass_of_methodNamed B.named
  have hlocks := B.notSynchronized
  have hD := hD0.self (sz := sz)
  rw [lg_entry_eq]
  refine body p e s m below meth c (va_A ws sz) _ hsz ⟨hx, hb, hml, hown, hts⟩ hK hN (fun q h => Or.inr (by omega)) hP hD va_S.rf ?_ _ (lv_entry av hl0)
  intro z w H locs ls pc hd hz hp h1 h2 h3
  exact W.zret hx hb hr (by rcases hz with rfl | rfl <;> decide +kernel) (fun t ht hW => ⟨⟨iI z, w, rfl, ⟨z, rfl, hp⟩, by rw [ht]; exact h1, va_K.moved hW.alike hK, h2⟩, h3.F ht⟩) h3.2.2 hd
theorem Cv_of {l : Launch} {y : MethodName} {wd wd' : List Cond} {rm : Room} {D : va_G} {cl : List vw_C} {tys : List (ClassId × FieldType)} {av : List Value} {ws : va_W} {sz : Nat} {post : va_W → Prop} {mc ms : Nat} {cc : ByteArray} {nL : Nat} (hy : plainName y.cls = true) (hw : wd = Cond.code y cc nL none :: wd') (hl0 : (lg_sl av).length ≤ nL)
    (body : ∀ (p : Program) (e : Env) (s : State) (m : MethodId) (below : List Frame) (meth : Method) (c : Code) (A : Nat → Prop) (Q : State → Prop), s.heap.size = sz → CallFix p m c cc nL s av.toArray wd y.cls → va_K D cl tys s → nK s → (∀ q : Nat, s.heap.size ≤ q → A q) → va_P D cl ws s.heap → va_D A ws → va_S A s.heap s.heap [] → meth.name = y.name →
      (∀ (w : va_W) (H : Heap) (locs : List Loc) (ls : Array Slot) (pc : Nat), decode cc pc = .ok (.return_, 1) → post w → va_P D cl w H → va_D A w → va_S A s.heap H locs → W p l e rm s m av.toArray below meth c H locs mc ms Q (F0 m pc ls [])) →
      ∀ (ls : Array Slot), lv_has ls nL (lv_args 0 av) → W p l e rm s m av.toArray below meth c s.heap [] 0 0 Q (F0 m 0 ls [])) : Cv l y wd rm D cl tys av ws sz post mc ms := by
  refine Met.ofW (cc := cc) (maxL := nL) (ret := none) hy hw ?_
  intro p e s m args below meth c s₁ B hml hv
  obtain ⟨rfl, hsz, hP, hK, hN, hD0⟩ := hv
  have hx := B.exec
  have hb := B.bytes
  have hr := B.returns
  have hts := atoms_spec (ws := wd) B.pre
  have hown : s.vm.findClass y.cls = some m.cls := findClass_of_methodNamed B.named
  have hlocks := B.notSynchronized
  have hin : meth.name = y.name := (name_of_methodNamed B.named B.method).1
  have hD := hD0.self (sz := sz)
  rw [lg_entry_eq]
  refine body p e s m below meth c (va_A ws sz) _ hsz ⟨hx, hb, hml, hown, hts⟩ hK hN (fun q h => Or.inr (by omega)) hP hD va_S.rf hin ?_ _ (lv_entry av hl0)
  intro w H locs ls pc hd hp h1 h2 h3
  exact W.vret hx hb hr (fun t ht hW => ⟨⟨w, rfl, hp, by rw [ht]; exact h1, va_K.moved hW.alike hK, h2⟩, h3.F ht⟩) h3.2.2 hd
theorem Cl_of {l : Launch} {y : MethodName} {wd wd' : List Cond} {rm : Room} {D : va_G} {cl : List vw_C} {tys : List (ClassId × FieldType)} {av : List Value} {ws : va_W} {sz : Nat} {post : Int64 → va_W → Prop} {mc ms : Nat} {cc : ByteArray} {nL : Nat} (hy : plainName y.cls = true) (hw : wd = Cond.code y cc nL (some .long) :: wd') (hl0 : (lg_sl av).length ≤ nL)
    (body : ∀ (p : Program) (e : Env) (s : State) (m : MethodId) (below : List Frame) (meth : Method) (c : Code) (A : Nat → Prop) (Q : State → Prop), s.heap.size = sz → CallFix p m c cc nL s av.toArray wd y.cls → va_K D cl tys s → nK s → (∀ q : Nat, s.heap.size ≤ q → A q) → va_P D cl ws s.heap → va_D A ws → va_S A s.heap s.heap [] →
      (∀ (z : Int64) (w : va_W) (H : Heap) (locs : List Loc) (ls : Array Slot) (pc : Nat), decode cc pc = .ok (.lreturn, 1) → post z w → va_P D cl w H → va_D A w → va_S A s.heap H locs → W p l e rm s m av.toArray below meth c H locs mc ms Q (F0 m pc ls [.long z])) →
      ∀ (ls : Array Slot), lv_has ls nL (lv_args 0 av) → W p l e rm s m av.toArray below meth c s.heap [] 0 0 Q (F0 m 0 ls [])) : Cl l y wd rm D cl tys av ws sz post mc ms := by
  refine Met.ofW (cc := cc) (maxL := nL) (ret := some .long) hy hw ?_
  intro p e s m args below meth c s₁ B hml hv
  obtain ⟨rfl, hsz, hP, hK, hN, hD0⟩ := hv
  have hx := B.exec
  have hb := B.bytes
  have hr := B.returns
  have hts := atoms_spec (ws := wd) B.pre
  have hown : s.vm.findClass y.cls = some m.cls := findClass_of_methodNamed B.named
  have hlocks := B.notSynchronized
  have hD := hD0.self (sz := sz)
  rw [lg_entry_eq]
  refine body p e s m below meth c (va_A ws sz) _ hsz ⟨hx, hb, hml, hown, hts⟩ hK hN (fun q h => Or.inr (by omega)) hP hD va_S.rf ?_ _ (lv_entry av hl0)
  intro z w H locs ls pc hd hp h1 h2 h3
  exact W.lret hx hb hr (fun t ht hW => ⟨⟨z, w, rfl, hp, by rw [ht]; exact h1, va_K.moved hW.alike hK, h2⟩, h3.F ht⟩) h3.2.2 hd
