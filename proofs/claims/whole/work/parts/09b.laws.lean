/-! ROWS OF THE LAW'S METHODS: the class at b, the law's own long[1] at o -/
def NCs : List (String × String) := [("java/lang/IllegalArgumentException", "java/lang/IndexOutOfBoundsException"), ("java/lang/IllegalStateException", "java/lang/IndexOutOfBoundsException"), ("java/lang/IllegalStateException", "java/lang/IllegalArgumentException"), ("java/util/NoSuchElementException", "java/lang/IndexOutOfBoundsException"), ("java/lang/IllegalStateException", "java/util/NoSuchElementException"), ("java/util/NoSuchElementException", "java/lang/IllegalArgumentException")]
def NC (U : State) : Prop := ∀ q ∈ NCs, va_Nc q.1 q.2 U
def AL (b o : Nat) : Nat → Prop := fun q => AC b q ∨ q = o
def oW (cJ : ClassId) (o : Nat) (fl : Nat → Int64) : va_W := [(o, .inl (cJ, 1, .inr (.inl fl)))]
def BL (D : va_G) (cI cO cJ : ClassId) (b o : Nat) (u : St × (Nat → Int64)) (t : State) : Prop := (va_P D vwCl (wC cI cO b u.1) t.heap ∧ va_P D vwCl (oW cJ o u.2) t.heap) ∧ va_K D vwCl (tyC cI cO) t ∧ va_K D vwCl [(cJ, .long)] t
def PLw (D : va_G) (cI cO cJ : ClassId) (b o : Nat) (u : St × (Nat → Int64)) (av : List Value) : Array Value → State → Prop := va_Pc av (fun U => BL D cI cO cJ b o u U ∧ EX (AC b) U ∧ NC U)
def QLw (D : va_G) (cI cO cJ : ClassId) (b o : Nat) (r : Int32) (u : St × (Nat → Int64)) : Array Value → State → Outcome → State → Prop := va_Qi (fun r' u' => r' = r ∧ u' = u) (BL D cI cO cJ b o) (AL b o)
def XLw (b o : Nat) : String → State → State → Prop := vx_X (fun _ : Unit => False) (fun _ _ _ => True) (AL b o)
def kc {α : Type} (mc : Nat → Nat) (q : Nat ⊕ α) : Int32 := match q with
  | .inl e => nI (mc e)
  | .inr _ => 0
def ou (q : Nat ⊕ Int32) (fl : Nat → Int64) : Nat → Int64 := match q with
  | .inl _ => fl
  | .inr v => vp_updL fl 0 v.toInt64
theorem NC_moved {u U : State} (hvm : u.vm.Alike U.vm) (h : NC u) : NC U := fun q hq => (h q hq).moved hvm
theorem PLw_blind {D : va_G} {cI cO cJ : ClassId} {b o : Nat} {u : St × (Nat → Int64)} {av : List Value} : FrameBlind (PLw D cI cO cJ b o u av) := fun a U g mk q =>
  ⟨q.1, ⟨q.2.1.1, va_K.moved (u := U) (U := U.calling g mk a) (Vm.Alike.refl U.vm) q.2.1.2.1, va_K.moved (u := U) (U := U.calling g mk a) (Vm.Alike.refl U.vm) q.2.1.2.2⟩, EX_moved (u := U) (U := U.calling g mk a) (State.WarmedH.refl U) (fun _ _ _ => rfl) q.2.2.1, NC_moved (u := U) (U := U.calling g mk a) (Vm.Alike.refl U.vm) q.2.2.2⟩
section LR
variable {p : Program} {l : Launch} {e : Env} {R : Room} {s : State} {m : MethodId} {args : Array Value} {below : List Frame} {meth : Method} {c : Code} {H : Heap} {locs : List Loc} {cells slots : Nat} {Q : State → Prop} {cc : ByteArray} {pc nL : Nat} {ls : Array Slot} {rest st0 : List Value} {own : String} {D : va_G} {S S1 : St} {hh : Cond} {mc ms mcM msM b o : Nat} {cI cO cJ : ClassId} {fl : Nat → Int64}
theorem out_kept {H1 : Heap} (hO : va_P D vwCl (oW cJ o fl) H) (hk : ∀ q : Nat, q < H.size → ¬ AC b q → H1[q]? = H[q]?) (ho : ¬ AC b o) : va_P D vwCl (oW cJ o fl) H1 := by
  refine hO.kept (fun k q hq => hk q.1 (hO k q hq).lt ?_)
  have hkl := (List.getElem?_eq_some_iff.mp hq).1
  have hk0 : k = 0 := by
    have : k < 1 := hkl
    omega
  subst hk0
  injection hq with hq
  rw [← hq]
  exact ho
theorem l_calli (F : CallFix p m c cc nL s args (hh :: wsAll) own) (hX : EX (AC b) s) (ho : ¬ AC b o) (hK : va_K D vwCl (tyC cI cO) s) (hP : va_P D vwCl (wC cI cO b S) s.heap) (hO : va_P D vwCl (oW cJ o fl) s.heap) {y : MethodName} {bytes : ByteArray} {maxL n index : Nat} {ret : Option FieldType} {rm : Room} {lv : List (Nat × Value)} {q : Nat ⊕ Int32} (As : List Value)
    (hM : vx_Met l y (Cond.code y bytes maxL ret :: wsAll) rm (PXt D (wC cI cO b) (tyC cI cO) (AC b) S (.ref (b + 0) :: As)) (Qti D (wC cI cO b) (tyC cI cO) (AC b) q S1) (Qtx D (wC cI cO b) (tyC cI cO) (AC b) (thr q) S1) mc ms (AC b))
    (h1 : Cond.methodLink own index y ∈ wsAll) (h2 : Cond.instanceMethod y ∈ wsAll) (h3 : Cond.selects RX6 y y ∈ wsAll) (h4 : Cond.initialized RX6 ∈ wsAll) (h5 : Cond.code y bytes maxL ret ∈ wsAll)
    (hd : y.cls = RX6 ∧ y.cls ≠ "java/lang/invoke/MethodHandle" ∧ y.cls ≠ "java/lang/invoke/VarHandle" ∧ (parseMethodDescriptor y.desc).map (fun d => d.parameters.length) = some n) (hrm : rm.cells = mc) (hrm2 : rm.slots = ms) (hR : rm.frames + 1 ≤ R.frames ∧ 8 + (maxL + 11) + rm.locals ≤ R.locals) (hn : As.length = n) (hl : lv_has ls nL lv) (hst : st0 = As.reverse ++ .ref (b + 0) :: rest) (hrest : (rest.map fun v => v.category).sum ≤ 8) (hdg : decode cc pc = .ok (.invokevirtual index, 3)) (hroom : 0 + mc ≤ R.cells ∧ 0 + ms ≤ R.slots)
    (kx : ∀ e9, q = .inl e9 → ∀ (H1 : Heap) (locs1 : List Loc) (q9 : Nat) (ce : Cell), va_P D vwCl (wC cI cO b S1) H1 → va_P D vwCl (oW cJ o fl) H1 → va_S (AL b o) s.heap H1 locs1 → H1[q9]? = some ce → ce.vm = .none → s.vm.findClass (exN e9) = some ce.cls → vx_W p l e R s m args below meth c H1 locs1 (0 + mc) (0 + ms) Q (F0 m pc ls rest) q9)
    (kk : ∀ v, q = .inr v → ∀ (H1 : Heap) (locs1 : List Loc), va_P D vwCl (wC cI cO b S1) H1 → va_P D vwCl (oW cJ o fl) H1 → va_S (AL b o) s.heap H1 locs1 → W p l e R s m args below meth c H1 locs1 (0 + mc) (0 + ms) Q (F0 m (pc + 3) ls (.int v :: rest))) : W p l e R s m args below meth c s.heap [] 0 0 Q (F0 m pc ls st0) := by
  subst hst
  refine vx_calli (A0 := AL b o) (H0 := s.heap) (vx_runV (As := As) (rest := rest) F hM (cwV n F.2.2.2.2 (gAllV h1 h2 h3 h4 h5) rfl hrm hrm2 hd hR) (t_pre hX hK hP (va_S.rf) wC_M rfl) rfl hn hl.1 rfl (lv_room hrest) hdg hroom) va_S.rf (fun q _ h => Or.inl h) (fun q h => Or.inl h) (fun q _ h => Or.inl h) (fun E ce q9 u t H1 locs1 ht hvm hpx hB hz hk hS1 hce hcv hcl => ?_) (fun r' u t H1 locs1 ht hvm hw hB hz1 hk1 hS1 => ?_)
  · obtain ⟨⟨e9, g1, g2⟩, g3, -⟩ := hB
    subst hpx
    subst ht
    cases q with
    | inl e8 =>
      cases g1
      exact kx _ rfl _ locs1 q9 ce g3 (out_kept hO hk ho) hS1 hce hcv (by rw [← g2]; exact hcl)
    | inr v => cases g1
  · obtain ⟨g1, rfl⟩ := hw
    subst ht
    exact kk _ g1 _ locs1 hB.1 (out_kept hO hk1 ho) hS1
theorem l_callv (F : CallFix p m c cc nL s args (hh :: wsAll) own) (hX : EX (AC b) s) (ho : ¬ AC b o) (hK : va_K D vwCl (tyC cI cO) s) (hP : va_P D vwCl (wC cI cO b S) s.heap) (hO : va_P D vwCl (oW cJ o fl) s.heap) {y : MethodName} {bytes : ByteArray} {maxL n index : Nat} {ret : Option FieldType} {rm : Room} {lv : List (Nat × Value)} {q : Nat ⊕ Unit} (As : List Value)
    (hM : vx_Met l y (Cond.code y bytes maxL ret :: wsAll) rm (PXt D (wC cI cO b) (tyC cI cO) (AC b) S (.ref (b + 0) :: As)) (Qtv D (wC cI cO b) (tyC cI cO) (AC b) q S1) (Qtx D (wC cI cO b) (tyC cI cO) (AC b) (thr q) S1) mc ms (AC b))
    (h1 : Cond.methodLink own index y ∈ wsAll) (h2 : Cond.instanceMethod y ∈ wsAll) (h3 : Cond.selects RX6 y y ∈ wsAll) (h4 : Cond.initialized RX6 ∈ wsAll) (h5 : Cond.code y bytes maxL ret ∈ wsAll)
    (hd : y.cls = RX6 ∧ y.cls ≠ "java/lang/invoke/MethodHandle" ∧ y.cls ≠ "java/lang/invoke/VarHandle" ∧ (parseMethodDescriptor y.desc).map (fun d => d.parameters.length) = some n) (hrm : rm.cells = mc) (hrm2 : rm.slots = ms) (hR : rm.frames + 1 ≤ R.frames ∧ 8 + (maxL + 11) + rm.locals ≤ R.locals) (hn : As.length = n) (hl : lv_has ls nL lv) (hst : st0 = As.reverse ++ .ref (b + 0) :: rest) (hrest : (rest.map fun v => v.category).sum ≤ 8) (hdg : decode cc pc = .ok (.invokevirtual index, 3)) (hroom : 0 + mc ≤ R.cells ∧ 0 + ms ≤ R.slots)
    (kx : ∀ e9, q = .inl e9 → ∀ (H1 : Heap) (locs1 : List Loc) (q9 : Nat) (ce : Cell), va_P D vwCl (wC cI cO b S1) H1 → va_P D vwCl (oW cJ o fl) H1 → va_S (AL b o) s.heap H1 locs1 → H1[q9]? = some ce → ce.vm = .none → s.vm.findClass (exN e9) = some ce.cls → vx_W p l e R s m args below meth c H1 locs1 (0 + mc) (0 + ms) Q (F0 m pc ls rest) q9)
    (kk : q = .inr () → ∀ (H1 : Heap) (locs1 : List Loc), va_P D vwCl (wC cI cO b S1) H1 → va_P D vwCl (oW cJ o fl) H1 → va_S (AL b o) s.heap H1 locs1 → W p l e R s m args below meth c H1 locs1 (0 + mc) (0 + ms) Q (F0 m (pc + 3) ls rest)) : W p l e R s m args below meth c s.heap [] 0 0 Q (F0 m pc ls st0) := by
  subst hst
  refine vx_callv (A0 := AL b o) (H0 := s.heap) (vx_runV (As := As) (rest := rest) F hM (cwV n F.2.2.2.2 (gAllV h1 h2 h3 h4 h5) rfl hrm hrm2 hd hR) (t_pre hX hK hP (va_S.rf) wC_M rfl) rfl hn hl.1 rfl (lv_room hrest) hdg hroom) va_S.rf (fun q _ h => Or.inl h) (fun q h => Or.inl h) (fun q _ h => Or.inl h) (fun E ce q9 u t H1 locs1 ht hvm hpx hB hz hk hS1 hce hcv hcl => ?_) (fun u t H1 locs1 ht hvm hw hB hz1 hk1 hS1 => ?_)
  · obtain ⟨⟨e9, g1, g2⟩, g3, -⟩ := hB
    subst hpx
    subst ht
    cases q with
    | inl e8 =>
      cases g1
      exact kx _ rfl _ locs1 q9 ce g3 (out_kept hO hk ho) hS1 hce hcv (by rw [← g2]; exact hcl)
    | inr v => cases g1
  · obtain ⟨g1, rfl⟩ := hw
    subst ht
    exact kk g1 _ locs1 hB.1 (out_kept hO hk1 ho) hS1
/-- the answer goes into the law's long -/
theorem l_last (hx : p.tables.exec = Jvm.exec) (hb : c.code = cc) (ho : ¬ AC b o) (hKJ : va_K D vwCl [(cJ, .long)] s) (hP : va_P D vwCl (wC cI cO b S) H) (hO : va_P D vwCl (oW cJ o fl) H) (hS : va_S (AL b o) s.heap H locs) {v : Int64} (hdg : decode cc pc = .ok (.lastore, 1))
    (kk : ∀ (H1 : Heap) (locs1 : List Loc), va_P D vwCl (wC cI cO b S) H1 → va_P D vwCl (oW cJ o (vp_updL fl 0 v)) H1 → va_S (AL b o) s.heap H1 locs1 → W p l e R s m args below meth c H1 locs1 cells slots Q (F0 m (pc + 1) ls rest)) : W p l e R s m args below meth c H locs cells slots Q (F0 m pc ls (.long v :: .int 0 :: .ref o :: rest)) := by
  have hall : va_P D vwCl (oW cJ o fl ++ wC cI cO b S) H := hO.app hP
  have hD : va_D (AL b o) (oW cJ o fl ++ wC cI cO b S) := by
    have hd := wC_D (cI := cI) (cO := cO) (b := b) (S := S)
    have key : ∀ (k : Nat) (q : Nat × va_E), (oW cJ o fl ++ wC cI cO b S)[k]? = some q → (k = 0 ∧ q.1 = o) ∨ (0 < k ∧ (wC cI cO b S)[k - 1]? = some q ∧ AC b q.1) := by
      intro k q h
      cases k with
      | zero => injection h with h; exact Or.inl ⟨rfl, by rw [← h]⟩
      | succ k => exact Or.inr ⟨Nat.succ_pos k, h, hd.2 k q h⟩
    refine ⟨fun i j p q hi hj h => ?_, fun k q h => ?_⟩
    · rcases key i p hi with ⟨i1, i2⟩ | ⟨i1, i2, i3⟩ <;> rcases key j q hj with ⟨j1, j2⟩ | ⟨j1, j2, j3⟩
      · omega
      · exact absurd (by rw [← i2, h]; exact j3) ho
      · exact absurd (by rw [← j2, ← h]; exact i3) ho
      · have := hd.1 _ _ p q i2 j2 h
        omega
    · rcases key k q h with ⟨k1, k2⟩ | ⟨k1, k2, k3⟩
      · exact Or.inr k2
      · exact Or.inl k3
  refine va_last hx hb hKJ hall hD hS 0 0 rfl rfl (i := 0) (show vp_in (nI 0) 1 from nI_in (by decide) (by decide)) hdg (fun H1 locs1 h1 h2 h3 => ?_)
  have h1 : va_P D vwCl (oW cJ o (vp_updL fl 0 v) ++ wC cI cO b S) H1 := h1
  exact kk H1 locs1 (fun k q h => h1 (k + 1) q h) (fun k q h => h1 k q (by rw [List.getElem?_append_left (List.getElem?_eq_some_iff.mp h).1]; exact h)) h3
theorem l_iret {v r : Int32} {u : St × (Nat → Int64)} (F : CallFix p m c cc nL s args (hh :: wsAll) own) (hr : meth.sig.returnType = some .int) (hlocks : meth.locks = false) (hQ : Q = vx_MQ below (QLw D cI cO cJ b o r u) (XLw b o) args s mcM msM (AL b o)) (hm : cells ≤ mcM ∧ slots ≤ msM) (hK : va_K D vwCl (tyC cI cO) s) (hKJ : va_K D vwCl [(cJ, .long)] s) (hP : va_P D vwCl (wC cI cO b u.1) H) (hO : va_P D vwCl (oW cJ o u.2) H) (hS : va_S (AL b o) s.heap H locs) (hv : v = r) (hdg : decode cc pc = .ok (.ireturn, 1)) : W p l e R s m args below meth c H locs cells slots Q (F0 m pc ls [.int v]) := by
  subst hQ; subst hv
  refine W.widen hm.1 hm.2 (vx_ret ?_)
  exact W.iret F.1 F.2.1 hr (fun t ht hW => ⟨⟨v, u, rfl, ⟨rfl, rfl⟩, ⟨by rw [ht]; exact hP, by rw [ht]; exact hO⟩, va_K.moved hW.alike hK, va_K.moved hW.alike hKJ⟩, hS.F ht⟩) hS.2.2 hdg hlocks
end LR
theorem l_met {l : Launch} {D : va_G} {cI cO cJ : ClassId} {b o : Nat} {u : St × (Nat → Int64)} {y : MethodName} {cc : ByteArray} {maxL : Nat} {ret : Option FieldType} {rm : Room} {av : List Value} {Qc : Array Value → State → Outcome → State → Prop} {XC : String → State → State → Prop} {mc ms : Nat} {free : Nat → Prop} {hh : List (Nat × Nat × Nat × Nat)} (own : String) (hy : plainName y.cls = true) (hfit : (lg_sl av).length ≤ maxL) (hown : y.cls = own)
    (body : ∀ (p : Program) (e : Env) (s : State) (m : MethodId) (args : Array Value) (below : List Frame) (meth : Method) (c : Code) (ls : Array Slot) (Q : State → Prop), CallFix p m c cc maxL s args (Cond.codeWith y cc maxL ret hh :: wsAll) own → meth.sig.returnType = ret → meth.locks = false → c.exceptionTable.toList = tableOf hh → BL D cI cO cJ b o u s → EX (AC b) s → NC s → lv_has ls maxL (lv_args 0 av) → Q = vx_MQ below Qc XC args s mc ms free → W p l e rm s m args below meth c s.heap [] 0 0 Q (F0 m 0 ls [])) :
    vx_Met l y (Cond.codeWith y cc maxL ret hh :: wsAll) rm (PLw D cI cO cJ b o u av) Qc XC mc ms free := by
  refine vx_ofWH (cc := cc) (maxL := maxL) (ret := ret) (hh := hh) hy rfl ?_
  intro p e s m args below meth c s₁ B hml hv
  obtain ⟨rfl, hB, hX, hN⟩ := hv
  have hl := lv_entry av (n := maxL) hfit
  rw [lg_entry_eq]
  have hts := atoms_spec (ws := Cond.codeWith y cc maxL ret hh :: wsAll) B.pre
  exact body p e s m _ below meth c _ _ ⟨B.exec, B.bytes, hml, by rw [← hown]; exact findClass_of_methodNamed B.named, hts⟩ B.returns B.notSynchronized (vx_table (x := y) B (hts _ List.mem_cons_self)) hB hX hN hl rfl
