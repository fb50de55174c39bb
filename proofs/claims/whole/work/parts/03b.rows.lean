/-! ROWS over a world of cells that a state S lays out: w S, within A; contracts that take S to S1 -/
def BX (D : va_G) (w : St → va_W) (tys : List (ClassId × FieldType)) (S : St) (t : State) : Prop := va_P D vwCl (w S) t.heap ∧ va_K D vwCl tys t
def PX (D : va_G) (w : St → va_W) (tys : List (ClassId × FieldType)) (S : St) (av : List Value) : Array Value → State → Prop := va_Pc av (BX D w tys S)
def Qi (D : va_G) (w : St → va_W) (tys : List (ClassId × FieldType)) (A : Nat → Prop) (r : Int32) (S1 : St) : Array Value → State → Outcome → State → Prop := va_Qi (fun r' S' => r' = r ∧ S' = S1) (BX D w tys) A
def Qv (D : va_G) (w : St → va_W) (tys : List (ClassId × FieldType)) (A : Nat → Prop) (S1 : St) : Array Value → State → Outcome → State → Prop := va_Qv (fun S' => S' = S1) (BX D w tys) A
theorem PX_blind {D : va_G} {w : St → va_W} {tys : List (ClassId × FieldType)} {S : St} {av : List Value} : FrameBlind (PX D w tys S av) := fun a U g mk q => ⟨q.1, q.2.1, va_K.moved (u := U) (U := U.calling g mk a) (Vm.Alike.refl U.vm) q.2.2⟩
section GR
variable {p : Program} {l : Launch} {e : Env} {R : Room} {s : State} {m : MethodId} {args : Array Value} {below : List Frame} {meth : Method} {c : Code} {H H0 : Heap} {locs : List Loc} {cells slots : Nat} {Q : State → Prop} {cc : ByteArray} {pc nL : Nat} {ls : Array Slot} {rest st0 : List Value} {own : String} {D : va_G} {tys : List (ClassId × FieldType)} {w : St → va_W} {A : Nat → Prop} {S S1 : St} {hh : Cond}
theorem g_get {ws : va_W} (F : CallFix p m c cc nL s args (hh :: wsAll) own) (hK : va_K D vwCl tys s) (hP : va_P D vwCl ws H) {C : String} {T : u_T} {N ci index : Nat} (hin : ∀ x ∈ u_ws C T N, x ∈ wsAll) (q0 : Nat) {a : Nat} {fs : List Value} (he : ws[q0]? = some (a, .inr (ci, fs))) (hc : vwCl[ci]? = some (C, T, N)) (j : Nat) (hj : j < N) (hlink : Cond.fieldLink own index (T j).1 (T j).2.1 (T j).2.2.1 ∈ wsAll) {v : Value} (hv : fs[j]? = some v) (hdg : decode cc pc = .ok (.getfield index, 3))
    (kk : W p l e R s m args below meth c H locs cells slots Q (F0 m (pc + 3) ls (v :: rest))) : W p l e R s m args below meth c H locs cells slots Q (F0 m pc ls (.ref a :: rest)) :=
  va_get F.1 F.2.1 F.2.2.2.2 (fun x h => List.mem_cons_of_mem _ (hin x h)) F.2.2.2.1 hK hP q0 he hc j hj (F.2.2.2.2 _ (List.mem_cons_of_mem _ hlink)) (fun _ h => h) hv hdg kk
theorem g_puti (F : CallFix p m c cc nL s args (hh :: wsAll) own) (hK : va_K D vwCl tys s) (hP : va_P D vwCl (w S) H) (hD : va_D A (w S)) (hS : va_S A H0 H locs) {C : String} {T : u_T} {N ci index : Nat} (hin : ∀ x ∈ u_ws C T N, x ∈ wsAll) (ty0 : Nat → FieldType) (hty : ∀ k, k < N → parseFieldDescriptor (T k).2.2.1 = some (ty0 k)) (hnm : ∀ a, a < N → ∀ b, b < N → a ≠ b → (T a).2.1 ≠ (T b).2.1) (q0 : Nat) {a : Nat} {fs : List Value} (he : (w S)[q0]? = some (a, .inr (ci, fs))) (hc : vwCl[ci]? = some (C, T, N)) (j : Nat) (hj : j < N) (hlink : Cond.fieldLink own index (T j).1 (T j).2.1 (T j).2.2.1 ∈ wsAll) (hfin : (T j).2.2.2 = false) (hd : parseFieldDescriptor (T j).2.2.1 = some .int) (hl : j < fs.length) {v : Int32} (hset : (w S).set q0 (a, .inr (ci, fs.set j (.int v))) = w S1) (hdg : decode cc pc = .ok (.putfield index, 3))
    (kk : ∀ (H1 : Heap) (locs1 : List Loc), va_P D vwCl (w S1) H1 → va_S A H0 H1 locs1 → W p l e R s m args below meth c H1 locs1 cells slots Q (F0 m (pc + 3) ls rest)) : W p l e R s m args below meth c H locs cells slots Q (F0 m pc ls (.int v :: .ref a :: rest)) := by
  refine va_put F.1 F.2.1 F.2.2.2.2 (fun x h => List.mem_cons_of_mem _ (hin x h)) ty0 hty hnm F.2.2.2.1 hK hP hD hS q0 he hc j hj (F.2.2.2.2 _ (List.mem_cons_of_mem _ hlink)) (fun _ h => h) hfin hd rfl rfl hl hdg (fun H1 locs1 h1 h2 h3 => ?_)
  rw [hset] at h1
  exact kk H1 locs1 h1 h3
theorem g_iast (hx : p.tables.exec = Jvm.exec) (hb : c.code = cc) (hK : va_K D vwCl tys s) (hP : va_P D vwCl (w S) H) (hD : va_D A (w S)) (hS : va_S A H0 H locs) (q0 t0 : Nat) {a : Nat} {cA : ClassId} {n : Nat} {f : Nat → Int32} (ha : (w S)[q0]? = some (a, .inl (cA, n, .inl f))) (ht : tys[t0]? = some (cA, .int)) {i : Int32} {x : Int32} (hin : vp_in i n) (hset : (w S).set q0 (a, .inl (cA, n, .inl (upd f i.toNatClampNeg x))) = w S1) (hdg : decode cc pc = .ok (.iastore, 1))
    (kk : ∀ (H1 : Heap) (locs1 : List Loc), va_P D vwCl (w S1) H1 → va_S A H0 H1 locs1 → W p l e R s m args below meth c H1 locs1 cells slots Q (F0 m (pc + 1) ls rest)) : W p l e R s m args below meth c H locs cells slots Q (F0 m pc ls (.int x :: .int i :: .ref a :: rest)) := by
  refine va_iast hx hb hK hP hD hS q0 t0 ha ht hin hdg (fun H1 locs1 h1 h2 h3 => ?_)
  rw [hset] at h1
  exact kk H1 locs1 h1 h3
theorem g_zast (hx : p.tables.exec = Jvm.exec) (hb : c.code = cc) (hK : va_K D vwCl tys s) (hP : va_P D vwCl (w S) H) (hD : va_D A (w S)) (hS : va_S A H0 H locs) (q0 t0 : Nat) {a : Nat} {cA : ClassId} {n : Nat} {f : Nat → Int32} (ha : (w S)[q0]? = some (a, .inl (cA, n, .inl f))) (ht : tys[t0]? = some (cA, .boolean)) {i : Int32} {x : Int32} (hin : vp_in i n) (hset : (w S).set q0 (a, .inl (cA, n, .inl (upd f i.toNatClampNeg (vp_nar .boolean x)))) = w S1) (hdg : decode cc pc = .ok (.bastore, 1))
    (kk : ∀ (H1 : Heap) (locs1 : List Loc), va_P D vwCl (w S1) H1 → va_S A H0 H1 locs1 → W p l e R s m args below meth c H1 locs1 cells slots Q (F0 m (pc + 1) ls rest)) : W p l e R s m args below meth c H locs cells slots Q (F0 m pc ls (.int x :: .int i :: .ref a :: rest)) := by
  refine va_zast hx hb hK hP hD hS q0 t0 ha ht hin hdg (fun H1 locs1 h1 h2 h3 => ?_)
  rw [hset] at h1
  exact kk H1 locs1 h1 h3
theorem g_pre {k : Nat} {ci a : Nat} {fs : List Value} {q : vw_C} {As : List Value} (hK : va_K D vwCl tys s) (hP : va_P D vwCl (w S) H) (he : (w S)[k]? = some (a, .inr (ci, fs))) (hc : vwCl[ci]? = some q) : PreV s H q.1 a (PX D w tys S (.ref a :: As)) As :=
  ⟨PX_blind, va_recv hK hP hc he, fun U hU hW => ⟨rfl, by rw [hU]; exact hP, va_K.moved hW.alike hK⟩⟩
theorem g_preS {As : List Value} (hK : va_K D vwCl tys s) (hP : va_P D vwCl (w S) H) : PreS s H (PX D w tys S As) As :=
  ⟨PX_blind, fun U hU hW => ⟨rfl, by rw [hU]; exact hP, va_K.moved hW.alike hK⟩⟩
theorem g_calli (F : CallFix p m c cc nL s args (hh :: wsAll) own) (hK : va_K D vwCl tys s) (hP : va_P D vwCl (w S) H) (hS : va_S A H0 H locs) {y : MethodName} {bytes : ByteArray} {maxL n index q0 ci a : Nat} {ret : Option FieldType} {rm : Room} {fs : List Value} {C : String} {T : u_T} {N : Nat} {lv : List (Nat × Value)} {r : Int32} (As : List Value)
    (hM : Met l y (Cond.code y bytes maxL ret :: wsAll) rm (PX D w tys S (.ref a :: As)) (Qi D w tys A r S1) 0 0 A)
    (h1 : Cond.methodLink own index y ∈ wsAll) (h2 : Cond.instanceMethod y ∈ wsAll) (h3 : Cond.selects C y y ∈ wsAll) (h4 : Cond.initialized C ∈ wsAll) (h5 : Cond.code y bytes maxL ret ∈ wsAll)
    (he : (w S)[q0]? = some (a, .inr (ci, fs))) (hc : vwCl[ci]? = some (C, T, N)) (hd : y.cls = C ∧ y.cls ≠ "java/lang/invoke/MethodHandle" ∧ y.cls ≠ "java/lang/invoke/VarHandle" ∧ (parseMethodDescriptor y.desc).map (fun d => d.parameters.length) = some n) (hrm : rm.cells = 0) (hrm2 : rm.slots = 0) (hR : rm.frames + 1 ≤ R.frames ∧ 8 + (maxL + 11) + rm.locals ≤ R.locals) (hn : As.length = n) (hl : lv_has ls nL lv) (hst : st0 = As.reverse ++ .ref a :: rest) (hrest : (rest.map fun v => v.category).sum ≤ 8) (hdg : decode cc pc = .ok (.invokevirtual index, 3)) (hroom : cells ≤ R.cells ∧ slots ≤ R.slots)
    (kk : ∀ (H1 : Heap) (locs1 : List Loc), va_P D vwCl (w S1) H1 → va_S A H0 H1 locs1 → W p l e R s m args below meth c H1 locs1 cells slots Q (F0 m (pc + 3) ls (.int r :: rest))) : W p l e R s m args below meth c H locs cells slots Q (F0 m pc ls st0) := by
  subst hst
  refine va_calli (va_runV (As := As) (rest := rest) F hM (cwV n F.2.2.2.2 (gAllV h1 h2 h3 h4 h5) rfl hrm hrm2 hd hR) (g_pre hK hP he hc) rfl hn hl.1 rfl (lv_room hrest) hdg hroom) hS (fun q _ h => h) (fun q h => h) (fun r' u t H1 locs1 ht hvm hw hB hz1 hk1 hS1 => ?_)
  obtain ⟨rfl, rfl⟩ := hw
  subst ht
  exact kk _ locs1 hB.1 hS1
theorem g_callv (F : CallFix p m c cc nL s args (hh :: wsAll) own) (hK : va_K D vwCl tys s) (hP : va_P D vwCl (w S) H) (hS : va_S A H0 H locs) {y : MethodName} {bytes : ByteArray} {maxL n index q0 ci a : Nat} {ret : Option FieldType} {rm : Room} {fs : List Value} {C : String} {T : u_T} {N : Nat} {lv : List (Nat × Value)} (As : List Value)
    (hM : Met l y (Cond.code y bytes maxL ret :: wsAll) rm (PX D w tys S (.ref a :: As)) (Qv D w tys A S1) 0 0 A)
    (h1 : Cond.methodLink own index y ∈ wsAll) (h2 : Cond.instanceMethod y ∈ wsAll) (h3 : Cond.selects C y y ∈ wsAll) (h4 : Cond.initialized C ∈ wsAll) (h5 : Cond.code y bytes maxL ret ∈ wsAll)
    (he : (w S)[q0]? = some (a, .inr (ci, fs))) (hc : vwCl[ci]? = some (C, T, N)) (hd : y.cls = C ∧ y.cls ≠ "java/lang/invoke/MethodHandle" ∧ y.cls ≠ "java/lang/invoke/VarHandle" ∧ (parseMethodDescriptor y.desc).map (fun d => d.parameters.length) = some n) (hrm : rm.cells = 0) (hrm2 : rm.slots = 0) (hR : rm.frames + 1 ≤ R.frames ∧ 8 + (maxL + 11) + rm.locals ≤ R.locals) (hn : As.length = n) (hl : lv_has ls nL lv) (hst : st0 = As.reverse ++ .ref a :: rest) (hrest : (rest.map fun v => v.category).sum ≤ 8) (hdg : decode cc pc = .ok (.invokevirtual index, 3)) (hroom : cells ≤ R.cells ∧ slots ≤ R.slots)
    (kk : ∀ (H1 : Heap) (locs1 : List Loc), va_P D vwCl (w S1) H1 → va_S A H0 H1 locs1 → W p l e R s m args below meth c H1 locs1 cells slots Q (F0 m (pc + 3) ls rest)) : W p l e R s m args below meth c H locs cells slots Q (F0 m pc ls st0) := by
  subst hst
  refine va_callv (va_runV (As := As) (rest := rest) F hM (cwV n F.2.2.2.2 (gAllV h1 h2 h3 h4 h5) rfl hrm hrm2 hd hR) (g_pre hK hP he hc) rfl hn hl.1 rfl (lv_room hrest) hdg hroom) hS (fun q _ h => h) (fun q h => h) (fun u t H1 locs1 ht hvm hw hB hz1 hk1 hS1 => ?_)
  subst hw
  subst ht
  exact kk _ locs1 hB.1 hS1
theorem g_callSi (F : CallFix p m c cc nL s args (hh :: wsAll) own) (hK : va_K D vwCl tys s) (hP : va_P D vwCl (w S) H) (hS : va_S A H0 H locs) {y : MethodName} {bytes : ByteArray} {maxL n index : Nat} {ret : Option FieldType} {rm : Room} {lv : List (Nat × Value)} {r : Int32} (As : List Value)
    (hM : Met l y (Cond.code y bytes maxL ret :: wsAll) rm (PX D w tys S As) (Qi D w tys A r S1) 0 0 A)
    (h1 : Cond.methodLink own index y ∈ wsAll) (h2 : Cond.static y ∈ wsAll) (h4 : Cond.initialized own ∈ wsAll) (h5 : Cond.code y bytes maxL ret ∈ wsAll)
    (hd : y.cls = own ∧ y.cls ≠ "java/lang/invoke/MethodHandle" ∧ y.cls ≠ "java/lang/invoke/VarHandle" ∧ (parseMethodDescriptor y.desc).map (fun d => d.parameters.length) = some n) (hrm : rm.cells = 0) (hrm2 : rm.slots = 0) (hR : rm.frames + 1 ≤ R.frames ∧ 8 + (maxL + 11) + rm.locals ≤ R.locals) (hn : As.length = n) (hl : lv_has ls nL lv) (hst : st0 = As.reverse ++ rest) (hrest : (rest.map fun v => v.category).sum ≤ 8) (hdg : decode cc pc = .ok (.invokestatic index, 3)) (hroom : cells ≤ R.cells ∧ slots ≤ R.slots)
    (kk : ∀ (H1 : Heap) (locs1 : List Loc), va_P D vwCl (w S1) H1 → va_S A H0 H1 locs1 → W p l e R s m args below meth c H1 locs1 cells slots Q (F0 m (pc + 3) ls (.int r :: rest))) : W p l e R s m args below meth c H locs cells slots Q (F0 m pc ls st0) := by
  subst hst
  refine va_calli (va_runS (As := As) (rest := rest) F hM (cwS n F.2.2.2.2 (gAllS h1 h2 h4 h5) rfl hrm hrm2 hd hR) (g_preS hK hP) rfl hn hl.1 rfl (lv_room hrest) hdg hroom) hS (fun q _ h => h) (fun q h => h) (fun r' u t H1 locs1 ht hvm hw hB hz1 hk1 hS1 => ?_)
  obtain ⟨rfl, rfl⟩ := hw
  subst ht
  exact kk _ locs1 hB.1 hS1
theorem g_iret {v r : Int32} (F : CallFix p m c cc nL s args (hh :: wsAll) own) (hr : meth.sig.returnType = some .int) (hlocks : meth.locks = false) (hQ : Q = MQ below (Qi D w tys A r S1) args s cells slots A) (hK : va_K D vwCl tys s) (hP : va_P D vwCl (w S) H) (hS : va_S A s.heap H locs) (hv : v = r) (hs : S = S1) (hdg : decode cc pc = .ok (.ireturn, 1)) : W p l e R s m args below meth c H locs cells slots Q (F0 m pc ls [.int v]) := by
  subst hQ; subst hv; subst hs
  exact W.iret F.1 F.2.1 hr (fun t ht hW => ⟨⟨v, S, rfl, ⟨rfl, rfl⟩, by rw [ht]; exact hP, va_K.moved hW.alike hK⟩, hS.F ht⟩) hS.2.2 hdg hlocks
theorem g_zret {v r : Int32} (F : CallFix p m c cc nL s args (hh :: wsAll) own) (hr : meth.sig.returnType = some .boolean) (hlocks : meth.locks = false) (hQ : Q = MQ below (Qi D w tys A r S1) args s cells slots A) (hK : va_K D vwCl tys s) (hP : va_P D vwCl (w S) H) (hS : va_S A s.heap H locs) (hz : narrow .boolean (.int v) = .int v) (hv : v = r) (hs : S = S1) (hdg : decode cc pc = .ok (.ireturn, 1)) : W p l e R s m args below meth c H locs cells slots Q (F0 m pc ls [.int v]) := by
  subst hQ; subst hv; subst hs
  exact W.zret F.1 F.2.1 hr hz (fun t ht hW => ⟨⟨v, S, rfl, ⟨rfl, rfl⟩, by rw [ht]; exact hP, va_K.moved hW.alike hK⟩, hS.F ht⟩) hS.2.2 hdg hlocks
theorem g_vret (F : CallFix p m c cc nL s args (hh :: wsAll) own) (hr : meth.sig.returnType = none) (hlocks : meth.locks = false) (hQ : Q = MQ below (Qv D w tys A S1) args s cells slots A) (hK : va_K D vwCl tys s) (hP : va_P D vwCl (w S) H) (hS : va_S A s.heap H locs) (hs : S = S1) (hdg : decode cc pc = .ok (.return_, 1)) : W p l e R s m args below meth c H locs cells slots Q (F0 m pc ls []) := by
  subst hQ; subst hs
  exact W.vret F.1 F.2.1 hr (fun t ht hW => ⟨⟨S, rfl, rfl, by rw [ht]; exact hP, va_K.moved hW.alike hK⟩, hS.F ht⟩) hS.2.2 hdg hlocks
end GR
theorem g_met {l : Launch} {D : va_G} {tys : List (ClassId × FieldType)} {w : St → va_W} {S : St} {y : MethodName} {cc : ByteArray} {maxL : Nat} {ret : Option FieldType} {rm : Room} {av : List Value} {Qc : Array Value → State → Outcome → State → Prop} {mc ms : Nat} {free : Addr → Prop} (own : String) (hy : plainName y.cls = true) (hfit : (lg_sl av).length ≤ maxL) (hown : y.cls = own)
    (body : ∀ (p : Program) (e : Env) (s : State) (m : MethodId) (args : Array Value) (below : List Frame) (meth : Method) (c : Code) (ls : Array Slot) (Q : State → Prop), CallFix p m c cc maxL s args (Cond.code y cc maxL ret :: wsAll) own → meth.sig.returnType = ret → meth.locks = false → va_K D vwCl tys s → va_P D vwCl (w S) s.heap → lv_has ls maxL (lv_args 0 av) → Q = MQ below Qc args s mc ms free → W p l e rm s m args below meth c s.heap [] 0 0 Q (F0 m 0 ls [])) :
    Met l y (Cond.code y cc maxL ret :: wsAll) rm (PX D w tys S av) Qc mc ms free := by
  refine Met.ofW (cc := cc) (maxL := maxL) (ret := ret) hy rfl ?_
  intro p e s m args below meth c s₁ B hml hv
  obtain ⟨rfl, hP, hK⟩ := hv
  have hl := lv_entry av (n := maxL) hfit
  rw [lg_entry_eq]
  exact body p e s m _ below meth c _ _ ⟨B.exec, B.bytes, hml, by rw [← hown]; exact findClass_of_methodNamed B.named, atoms_spec (ws := Cond.code y cc maxL ret :: wsAll) B.pre⟩ B.returns B.notSynchronized hK hP hl rfl
def FU : Nat := 1000
def lt {α R : Type} (x : α) (k : α → Option R) : Option R := k x
theorem lt_some {α R : Type} {x : α} {k : α → Option R} {r : R} (h : lt x k = some r) : ∃ y, y = x ∧ k y = some r := ⟨x, rfl, h⟩
theorem lt04 : 0 < 4 := by decide
theorem sw_out4 {x : Int32} (h0 : ¬ x = 0) (h1 : ¬ x = 1) (h2 : ¬ x = 2) (h3 : ¬ x = 3) : x.toInt < 0 ∨ 3 < x.toInt := by
  have k0 : x.toInt ≠ 0 := fun h => h0 (Int32.toInt_inj.mp h)
  have k1 : x.toInt ≠ 1 := fun h => h1 (Int32.toInt_inj.mp h)
  have k2 : x.toInt ≠ 2 := fun h => h2 (Int32.toInt_inj.mp h)
  have k3 : x.toInt ≠ 3 := fun h => h3 (Int32.toInt_inj.mp h)
  omega
