/-! ROWS FOR CONSTRUCTORS: the cells b, b+1 .. b+n-1 as f says; each new one is the next -/
def pW (b : Nat) (f : Nat → va_E) (n : Nat) : va_W := (List.range n).map (fun i => (b + i, f i))
def AP (b : Nat) : Nat → Prop := fun q => b ≤ q
def fu (f : Nat → va_E) (k : Nat) (e : va_E) : Nat → va_E := fun i => if i = k then e else f i
theorem pW_at {b n k : Nat} {f : Nat → va_E} (h : k < n) : (pW b f n)[k]? = some (b + k, f k) := by
  unfold pW
  rw [List.getElem?_map, List.getElem?_range h]
  rfl
theorem pW_len {b n : Nat} {f : Nat → va_E} : (pW b f n).length = n := by simp [pW]
theorem pW_some {b n k : Nat} {f : Nat → va_E} {q : Nat × va_E} (h : (pW b f n)[k]? = some q) : k < n ∧ q = (b + k, f k) := by
  have hk := (List.getElem?_eq_some_iff.mp h).1
  rw [pW_len] at hk
  rw [pW_at hk] at h
  injection h with h
  exact ⟨hk, h.symm⟩
theorem pW_congr {b n : Nat} {f g : Nat → va_E} (h : ∀ i, i < n → f i = g i) : pW b f n = pW b g n := by
  unfold pW
  exact List.map_congr_left (fun i hi => by rw [h i (List.mem_range.mp hi)])
theorem pW_snoc {b n : Nat} {f : Nat → va_E} {e : va_E} : pW b f n ++ [(b + n, e)] = pW b (fu f n e) (n + 1) := by
  have h1 : pW b (fu f n e) n = pW b f n := pW_congr (fun i hi => if_neg (by omega))
  have h2 : pW b (fu f n e) (n + 1) = pW b (fu f n e) n ++ [(b + n, fu f n e n)] := by
    unfold pW
    rw [List.range_succ, List.map_append]
    rfl
  rw [h2, h1]
  show _ = _ ++ [(b + n, if n = n then e else f n)]
  rw [if_pos rfl]
theorem pW_set {b n k : Nat} {f : Nat → va_E} {e : va_E} (hk : k < n) : (pW b f n).set k (b + k, e) = pW b (fu f k e) n := by
  refine List.ext_getElem? (fun i => ?_)
  rw [List.getElem?_set]
  by_cases hi : k = i
  · subst hi
    rw [if_pos rfl, if_pos (by rw [pW_len]; exact hk), pW_at hk]
    show _ = some (b + k, if k = k then e else f k)
    rw [if_pos rfl]
  · rw [if_neg hi]
    by_cases hn : i < n
    · rw [pW_at hn, pW_at hn]
      show _ = some (b + i, if i = k then e else f i)
      rw [if_neg (fun h => hi h.symm)]
    · rw [List.getElem?_eq_none (by rw [pW_len]; omega), List.getElem?_eq_none (by rw [pW_len]; omega)]
theorem pW_D {b n : Nat} {f : Nat → va_E} : va_D (AP b) (pW b f n) := by
  refine ⟨fun i j p q hi hj h => ?_, fun k q h => ?_⟩
  · obtain ⟨h1, rfl⟩ := pW_some hi
    obtain ⟨h2, rfl⟩ := pW_some hj
    have h : b + i = b + j := h
    omega
  · obtain ⟨h1, rfl⟩ := pW_some h
    exact Nat.le_add_right _ _
/-- what a constructor begins with, what it leaves -/
def BZ (D : va_G) (tys : List (ClassId × FieldType)) (b : Nat) (f : Nat → va_E) (n : Nat) (U : State) : Prop := U.heap.size = b + n ∧ va_P D vwCl (pW b f n) U.heap ∧ va_K D vwCl tys U
def PZ (D : va_G) (tys : List (ClassId × FieldType)) (b : Nat) (f : Nat → va_E) (n : Nat) (av : List Value) : Array Value → State → Prop := va_Pc av (BZ D tys b f n)
def QZ (D : va_G) (tys : List (ClassId × FieldType)) (b : Nat) (f : Nat → va_E) (n : Nat) : Array Value → State → Outcome → State → Prop := va_Qv (fun _ : Unit => True) (fun _ t => va_P D vwCl (pW b f n) t.heap ∧ va_K D vwCl tys t) (AP b)
theorem PZ_blind {D : va_G} {tys : List (ClassId × FieldType)} {b n : Nat} {f : Nat → va_E} {av : List Value} : FrameBlind (PZ D tys b f n av) := fun a U g mk q => ⟨q.1, q.2.1, q.2.2.1, va_K.moved (u := U) (U := U.calling g mk a) (Vm.Alike.refl U.vm) q.2.2.2⟩
section ZR
variable {p : Program} {l : Launch} {e : Env} {R : Room} {s : State} {m : MethodId} {args : Array Value} {below : List Frame} {meth : Method} {c : Code} {H H0 : Heap} {locs : List Loc} {cells slots : Nat} {Q : State → Prop} {cc : ByteArray} {pc nL : Nat} {ls : Array Slot} {rest st0 : List Value} {own : String} {D : va_G} {tys : List (ClassId × FieldType)} {hh : Cond} {b n : Nat} {f : Nat → va_E}
theorem z_size {g : JFrame} (kk : H.size ≤ s.heap.size + cells → W p l e R s m args below meth c H locs cells slots Q g) : W p l e R s m args below meth c H locs cells slots Q g := fun T hT X => kk (by have := X.heapSize; rw [hT] at this; exact this) T hT X
theorem z_sizeE {g : JFrame} (hP : va_P D vwCl (pW b f n) H) (h0 : 0 < n) (hsz : s.heap.size + cells = b + n) (kk : H.size = b + n → W p l e R s m args below meth c H locs cells slots Q g) : W p l e R s m args below meth c H locs cells slots Q g := by
  refine z_size (fun h => kk ?_)
  have h1 := (hP (n - 1) _ (pW_at (by omega))).lt
  have h1 : b + (n - 1) < H.size := h1
  omega
/-- the new cell's place -/
theorem z_place {q : Nat} {x : va_E} {H1 : Heap} (h1 : va_P D vwCl (pW b f n ++ [(q, x)]) H1) (h2 : va_D (AP b) (pW b f n ++ [(q, x)])) (h3 : H1.size ≤ b + n + 1) : q = b + n := by
  have hat : (pW b f n ++ [(q, x)])[n]? = some (q, x) := by rw [List.getElem?_append_right (by rw [pW_len]; exact Nat.le_refl _), pW_len, Nat.sub_self]; rfl
  have a1 : q < H1.size := (h1 n _ hat).lt
  have a2 : b ≤ q := h2.2 n _ hat
  rcases Nat.lt_or_ge q (b + n) with r | r
  · exfalso
    have hi : (pW b f n ++ [(q, x)])[q - b]? = some (b + (q - b), f (q - b)) := by rw [List.getElem?_append_left (by rw [pW_len]; omega)]; exact pW_at (by omega)
    have := h2.1 (q - b) n _ _ hi hat (show b + (q - b) = q by omega)
    omega
  · omega
theorem z_new (F : CallFix p m c cc nL s args (hh :: wsAll) own) (hK : va_K D vwCl tys s) (hP : va_P D vwCl (pW b f n) H) (hS : va_S (AP b) H0 H locs) (hb0 : b ≤ H0.size) (hsz : s.heap.size + cells = b + n) {C : String} {T : u_T} {N ci index : Nat} (hin : ∀ x ∈ u_ws C T N, x ∈ wsAll) (ty0 : Nat → FieldType) (hty : ∀ k, k < N → parseFieldDescriptor (T k).2.2.1 = some (ty0 k)) (hcl : Cond.classLink own index C ∈ wsAll) (hinst : Cond.instantiable C N ∈ wsAll) (hini : Cond.initialized C ∈ wsAll) (hc : vwCl[ci]? = some (C, T, N)) {fs : List Value} (hfs : ∀ j, j < N → defaultValue (ty0 j) = vp_V fs j) (hcells : cells + 1 ≤ R.cells) (hslots : slots + N ≤ R.slots) (hdg : decode cc pc = .ok (.new index, 3))
    (kk : ∀ (H1 : Heap), va_P D vwCl (pW b (fu f n (.inr (ci, fs))) (n + 1)) H1 → va_S (AP b) H0 H1 locs → W p l e R s m args below meth c H1 locs (cells + 1) (slots + N) Q (F0 m (pc + 3) ls (.ref (b + n) :: rest))) : W p l e R s m args below meth c H locs cells slots Q (F0 m pc ls rest) := by
  refine va_new F.1 F.2.1 F.2.2.2.2 (fun x h => List.mem_cons_of_mem _ (hin x h)) ty0 hty F.2.2.2.1 (F.2.2.2.2 _ (List.mem_cons_of_mem _ hcl)) (F.2.2.2.2 _ (List.mem_cons_of_mem _ hinst)) (F.2.2.2.2 _ (List.mem_cons_of_mem _ hini)) hK hP pW_D hS (fun q hq => Nat.le_trans hb0 hq) hc hfs hcells hslots hdg (fun q H1 h1 h2 h3 => ?_)
  refine z_size (fun h4 => ?_)
  have hq := z_place h1 h2 (by omega)
  subst hq
  rw [pW_snoc] at h1
  exact kk H1 h1 h3
theorem z_newi (F : CallFix p m c cc nL s args (hh :: wsAll) own) (hK : va_K D vwCl tys s) (hP : va_P D vwCl (pW b f n) H) (hS : va_S (AP b) H0 H locs) (hb0 : b ≤ H0.size) (hsz : s.heap.size + cells = b + n) {t0 : Nat} {cI : ClassId} (ht : tys[t0]? = some (cI, .int)) {x : Int32} {N : Nat} (hn : ¬ x < 0) (hN : x.toNatClampNeg = N) (hN2 : N ≤ 10000) (hcells : cells + 1 ≤ R.cells) (hslots : slots + N ≤ R.slots) (hdg : decode cc pc = .ok (.newarray .int, 2))
    (kk : ∀ (H1 : Heap), va_P D vwCl (pW b (fu f n (.inl (cI, N, .inl (fun _ => 0)))) (n + 1)) H1 → va_S (AP b) H0 H1 locs → W p l e R s m args below meth c H1 locs (cells + 1) (slots + N) Q (F0 m (pc + 2) ls (.ref (b + n) :: rest))) : W p l e R s m args below meth c H locs cells slots Q (F0 m pc ls (.int x :: rest)) := by
  refine va_newa (atype := .int) (ty := .int) (a0 := (N, .inl (fun _ => 0))) F.1 F.2.1 (F.2.2.2.2 _ (List.mem_cons_of_mem _ wd_47)) rfl hK hP pW_D hS (fun q hq => Nat.le_trans hb0 hq) (fun _ => rfl) hn hN (by show N * 4 ≤ _; omega) hcells hslots hdg (fun q cA H1 h0 h1 h2 h3 => ?_)
  refine z_size (fun h4 => ?_)
  have hq := z_place h1 h2 (by omega)
  have hc1 := (h0.2 tys.length (cA, .int) (by simp)).2
  have hc2 := (hK.2 t0 (cI, .int) ht).2
  have hc : cA = cI := by
    unfold va_RA at hc1 hc2
    exact Option.some.inj (hc1.symm.trans hc2)
  subst hq
  subst hc
  rw [pW_snoc] at h1
  exact kk H1 h1 h3
theorem z_newz (F : CallFix p m c cc nL s args (hh :: wsAll) own) (hK : va_K D vwCl tys s) (hP : va_P D vwCl (pW b f n) H) (hS : va_S (AP b) H0 H locs) (hb0 : b ≤ H0.size) (hsz : s.heap.size + cells = b + n) {t0 : Nat} {cI : ClassId} (ht : tys[t0]? = some (cI, .boolean)) {x : Int32} {N : Nat} (hn : ¬ x < 0) (hN : x.toNatClampNeg = N) (hN2 : N ≤ 10000) (hcells : cells + 1 ≤ R.cells) (hslots : slots + N ≤ R.slots) (hdg : decode cc pc = .ok (.newarray .boolean, 2))
    (kk : ∀ (H1 : Heap), va_P D vwCl (pW b (fu f n (.inl (cI, N, .inl (fun _ => 0)))) (n + 1)) H1 → va_S (AP b) H0 H1 locs → W p l e R s m args below meth c H1 locs (cells + 1) (slots + N) Q (F0 m (pc + 2) ls (.ref (b + n) :: rest))) : W p l e R s m args below meth c H locs cells slots Q (F0 m pc ls (.int x :: rest)) := by
  refine va_newa (atype := .boolean) (ty := .boolean) (a0 := (N, .inl (fun _ => 0))) F.1 F.2.1 (F.2.2.2.2 _ (List.mem_cons_of_mem _ wd_846)) rfl hK hP pW_D hS (fun q hq => Nat.le_trans hb0 hq) (fun _ => rfl) hn hN (by show N * 1 ≤ _; omega) hcells hslots hdg (fun q cA H1 h0 h1 h2 h3 => ?_)
  refine z_size (fun h4 => ?_)
  have hq := z_place h1 h2 (by omega)
  have hc1 := (h0.2 tys.length (cA, .boolean) (by simp)).2
  have hc2 := (hK.2 t0 (cI, .boolean) ht).2
  have hc : cA = cI := by
    unfold va_RA at hc1 hc2
    exact Option.some.inj (hc1.symm.trans hc2)
  subst hq
  subst hc
  rw [pW_snoc] at h1
  exact kk H1 h1 h3
/-- a final field is set -/
theorem z_put (F : CallFix p m c cc nL s args (hh :: wsAll) own) (hname : meth.name = "<init>") (hK : va_K D vwCl tys s) (hP : va_P D vwCl (pW b f n) H) (hS : va_S (AP b) H0 H locs) {C : String} {T : u_T} {N ci index : Nat} (hin : ∀ x ∈ u_ws C T N, x ∈ wsAll) (ty0 : Nat → FieldType) (hty : ∀ k, k < N → parseFieldDescriptor (T k).2.2.1 = some (ty0 k)) (hnm : ∀ a, a < N → ∀ b, b < N → a ≠ b → (T a).2.1 ≠ (T b).2.1) {k : Nat} (hk : k < n) {fs : List Value} (he : f k = .inr (ci, fs)) (hc : vwCl[ci]? = some (C, T, N)) (j : Nat) (hj : j < N) (hlink : Cond.fieldLink own index (T j).1 (T j).2.1 (T j).2.2.1 ∈ wsAll) (hfin : (T j).2.2.2 = true) (hdecl : (T j).1 = own) {ty : FieldType} {v : Value} (hd : parseFieldDescriptor (T j).2.2.1 = some ty) (hnw : narrow ty v = v) (hfit : fits ty v = true) (hl : j < fs.length) (hdg : decode cc pc = .ok (.putfield index, 3))
    (kk : ∀ (H1 : Heap) (locs1 : List Loc), va_P D vwCl (pW b (fu f k (.inr (ci, fs.set j v))) n) H1 → va_S (AP b) H0 H1 locs1 → W p l e R s m args below meth c H1 locs1 cells slots Q (F0 m (pc + 3) ls rest)) : W p l e R s m args below meth c H locs cells slots Q (F0 m pc ls (v :: .ref (b + k) :: rest)) := by
  refine va_putF F.1 F.2.1 F.2.2.2.2 (fun x h => List.mem_cons_of_mem _ (hin x h)) ty0 hty hnm F.2.2.2.1 hK hP pW_D hS k (by rw [pW_at hk, he]) hc j hj (F.2.2.2.2 _ (List.mem_cons_of_mem _ hlink)) (fun _ h => h) hfin hname hdecl hd hnw hfit hl hdg (fun H1 locs1 h1 h2 h3 => ?_)
  rw [pW_set hk] at h1
  exact kk H1 locs1 h1 h3
theorem z_call (F : CallFix p m c cc nL s args (hh :: wsAll) own) (hK : va_K D vwCl tys s) (hP : va_P D vwCl (pW b f n) H) (hS : va_S (AP b) H0 H locs) (h0 : 0 < n) (hsz : s.heap.size + cells = b + n) {y : MethodName} {bytes : ByteArray} {maxL na index n2 mc ms k : Nat} {f2 : Nat → va_E} {rm : Room} {lv : List (Nat × Value)} (As : List Value)
    (hM : Met l y (Cond.code y bytes maxL none :: wsAll) rm (PZ D tys b f n (.ref (b + k) :: As)) (QZ D tys b f2 n2) mc ms (AP b))
    (h1 : Cond.methodLink own index y ∈ wsAll) (h2 : Cond.instanceMethod y ∈ wsAll) (h4 : Cond.initialized y.cls ∈ wsAll) (h5 : Cond.code y bytes maxL none ∈ wsAll)
    (hd : y.name = "<init>" ∧ y.cls ≠ "java/lang/invoke/MethodHandle" ∧ y.cls ≠ "java/lang/invoke/VarHandle" ∧ (parseMethodDescriptor y.desc).map (fun d => d.parameters.length) = some na) (hrm : rm.cells = mc) (hrm2 : rm.slots = ms) (hR : rm.frames + 1 ≤ R.frames ∧ 8 + (maxL + 11) + rm.locals ≤ R.locals) (hn : As.length = na) (hl : lv_has ls nL lv) (hst : st0 = As.reverse ++ .ref (b + k) :: rest) (hrest : (rest.map fun v => v.category).sum ≤ 8) (hdg : decode cc pc = .ok (.invokespecial index, 3)) (hroom : cells + mc ≤ R.cells ∧ slots + ms ≤ R.slots)
    (kk : ∀ (H1 : Heap) (locs1 : List Loc), va_P D vwCl (pW b f2 n2) H1 → va_S (AP b) H0 H1 locs1 → W p l e R s m args below meth c H1 locs1 (cells + mc) (slots + ms) Q (F0 m (pc + 3) ls rest)) : W p l e R s m args below meth c H locs cells slots Q (F0 m pc ls st0) := by
  subst hst
  refine z_sizeE hP h0 hsz (fun hsE => ?_)
  refine va_callv (va_runI (As := As) (rest := rest) F hM (cwI na F.2.2.2.2 (gAll h5) rfl hrm hrm2 (F.2.2.2.2 _ (List.mem_cons_of_mem _ h4)) (F.2.2.2.2 _ (List.mem_cons_of_mem _ h1)) (F.2.2.2.2 _ (List.mem_cons_of_mem _ h2)) hd.1 hd.2 hR) ⟨PZ_blind, fun U hU hW => ⟨rfl, by rw [hU]; exact hsE, by rw [hU]; exact hP, va_K.moved hW.alike hK⟩⟩ rfl hn hl.1 rfl (lv_room hrest) hdg hroom) hS (fun q _ h => h) (fun q h => h) (fun u t H1 locs1 ht hvm hw hB hz1 hk1 hS1 => ?_)
  subst ht
  exact kk _ locs1 hB.1 hS1
theorem z_vret (F : CallFix p m c cc nL s args (hh :: wsAll) own) (hr : meth.sig.returnType = none) (hlocks : meth.locks = false) {mc ms : Nat} (hQ : Q = MQ below (QZ D tys b f n) args s mc ms (AP b)) (hc : cells = mc) (hs2 : slots = ms) (hK : va_K D vwCl tys s) (hP : va_P D vwCl (pW b f n) H) (hS : va_S (AP b) s.heap H locs) (hdg : decode cc pc = .ok (.return_, 1)) : W p l e R s m args below meth c H locs cells slots Q (F0 m pc ls []) := by
  subst hQ; subst hc; subst hs2
  exact W.vret F.1 F.2.1 hr (fun t ht hW => ⟨⟨(), rfl, trivial, by rw [ht]; exact hP, va_K.moved hW.alike hK⟩, hS.F ht⟩) hS.2.2 hdg hlocks
theorem z_obj (F : CallFix p m c cc nL s args (hh :: wsAll) own) {a index : Nat} (h1 : Cond.methodLink own index Lib.objectInit ∈ wsAll) {lv : List (Nat × Value)} (hl : lv_has ls nL lv) (hdg : decode cc pc = .ok (.invokespecial index, 3)) (hf : 1 ≤ R.frames) (hlo : (rest.map fun v => v.category).sum + 12 ≤ R.locals)
    (kk : W p l e R s m args below meth c H locs cells slots Q (F0 m (pc + 3) ls rest)) : W p l e R s m args below meth c H locs cells slots Q (F0 m pc ls (.ref a :: rest)) :=
  W.objInit F.1 F.2.1 F.2.2.2.1 (F.2.2.2.2 _ (List.mem_cons_of_mem _ h1)) (F.2.2.2.2 _ (List.mem_cons_of_mem _ wd_23)) (F.2.2.2.2 _ (List.mem_cons_of_mem _ wd_24)) rfl (hl.1.trans F.2.2.1.symm) rfl hdg hf (by show 2 * 0 + _ + 12 ≤ _; omega) kk
end ZR
theorem z_met {l : Launch} {D : va_G} {tys : List (ClassId × FieldType)} {b n : Nat} {f : Nat → va_E} {y : MethodName} {cc : ByteArray} {maxL : Nat} {rm : Room} {av : List Value} {Qc : Array Value → State → Outcome → State → Prop} {mc ms : Nat} {free : Addr → Prop} (own : String) (hy : plainName y.cls = true) (hname : y.name = "<init>") (hfit : (lg_sl av).length ≤ maxL) (hown : y.cls = own)
    (body : ∀ (p : Program) (e : Env) (s : State) (m : MethodId) (args : Array Value) (below : List Frame) (meth : Method) (c : Code) (ls : Array Slot) (Q : State → Prop), CallFix p m c cc maxL s args (Cond.code y cc maxL none :: wsAll) own → meth.name = "<init>" → meth.sig.returnType = none → meth.locks = false → s.heap.size = b + n → va_K D vwCl tys s → va_P D vwCl (pW b f n) s.heap → lv_has ls maxL (lv_args 0 av) → Q = MQ below Qc args s mc ms free → W p l e rm s m args below meth c s.heap [] 0 0 Q (F0 m 0 ls [])) :
    Met l y (Cond.code y cc maxL none :: wsAll) rm (PZ D tys b f n av) Qc mc ms free := by
  refine Met.ofW (cc := cc) (maxL := maxL) (ret := none) hy rfl ?_
  intro p e s m args below meth c s₁ B hml hv
  obtain ⟨rfl, hsz, hP, hK⟩ := hv
  have hl := lv_entry av (n := maxL) hfit
  rw [lg_entry_eq]
  exact body p e s m _ below meth c _ _ ⟨B.exec, B.bytes, hml, by rw [← hown]; exact findClass_of_methodNamed B.named, atoms_spec (ws := Cond.code y cc maxL none :: wsAll) B.pre⟩ ((name_of_methodNamed B.named B.method).1.trans hname) B.returns B.notSynchronized hsz hK hP hl rfl
