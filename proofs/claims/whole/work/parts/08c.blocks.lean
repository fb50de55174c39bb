/-! WHAT THE CLASS IS BEFORE ANY CALL, and blocks of its constructors -/
def S0C : St := (fun _ => 0, fun k i => if i < ln k then -1 else 0)
def gC (cI cO : ClassId) (b : Nat) : Nat → va_E := cellC cI cO b S0C
def bld (f : Nat → va_E) (k ci : Nat) (fs : List Value) (g : Nat → va_E) : Nat → va_E := fun i => if i < k then f i else if i = k then .inr (ci, fs) else g i
def mix (f : Nat → va_E) (k : Nat) (g : Nat → va_E) : Nat → va_E := fun i => if i < k then f i else g i
section BLD
variable {f g : Nat → va_E} {k ci : Nat} {fs : List Value}
theorem bld_k : bld f k ci fs g k = .inr (ci, fs) := by unfold bld; rw [if_neg (Nat.lt_irrefl k), if_pos rfl]
theorem bld_gt {i : Nat} (h : k < i) : bld f k ci fs g i = g i := by unfold bld; rw [if_neg (by omega), if_neg (by omega)]
theorem bld_lt {i : Nat} (h : i < k) : bld f k ci fs g i = f i := by unfold bld; rw [if_pos h]
theorem bld_put {fs2 : List Value} : fu (bld f k ci fs g) k (.inr (ci, fs2)) = bld f k ci fs2 g := by
  funext i
  by_cases h : i = k
  · rw [h, fu_eq, bld_k]
  · rw [fu_ne h]
    unfold bld
    rw [if_neg h, if_neg h]
theorem bld_end (h : g k = .inr (ci, fs)) : bld f k ci fs g = mix f k g := by
  funext i
  unfold bld mix
  by_cases h1 : i < k
  · rw [if_pos h1, if_pos h1]
  · rw [if_neg h1, if_neg h1]
    by_cases h2 : i = k
    · rw [if_pos h2, h2, h]
    · rw [if_neg h2]
theorem bld_start {b : Nat} : pW b (fu f k (.inr (ci, fs))) (k + 1) = pW b (bld f k ci fs g) (k + 1) := by
  refine pW_congr (fun i hi => ?_)
  by_cases h : i = k
  · rw [h, fu_eq, bld_k]
  · rw [fu_ne h, bld_lt (by omega)]
/-- a part that stands at n is as g has it: so is the whole -/
theorem bld_part {b n n2 : Nat} {e : va_E} (hk : k < n) : pW b (mix (fu (bld f k ci fs g) n e) n g) n2 = pW b (bld f k ci fs g) n2 := by
  refine pW_congr (fun i hi => ?_)
  unfold mix
  by_cases h : i < n
  · rw [if_pos h, fu_ne (by omega)]
  · rw [if_neg h, bld_gt (by omega)]
end BLD
section BLK
variable {p : Program} {l : Launch} {e : Env} {R : Room} {s : State} {m : MethodId} {args : Array Value} {below : List Frame} {meth : Method} {c : Code} {H H0 : Heap} {locs : List Loc} {cells slots : Nat} {Q : State → Prop} {cc : ByteArray} {pc nL : Nat} {ls : Array Slot} {rest st0 : List Value} {own : String} {D : va_G} {tys : List (ClassId × FieldType)} {hh : Cond} {b n : Nat} {f g : Nat → va_E}
theorem z_newd (F : CallFix p m c cc nL s args (hh :: wsAll) own) (hK : va_K D vwCl tys s) (hP : va_P D vwCl (pW b f n) H) (hS : va_S (AP b) H0 H locs) (hb0 : b ≤ H0.size) (hsz : s.heap.size + cells = b + n) {C : String} {T : u_T} {N ci index : Nat} (hin : ∀ x ∈ u_ws C T N, x ∈ wsAll) (ty0 : Nat → FieldType) (hty : ∀ k, k < N → parseFieldDescriptor (T k).2.2.1 = some (ty0 k)) (hcl : Cond.classLink own index C ∈ wsAll) (hinst : Cond.instantiable C N ∈ wsAll) (hini : Cond.initialized C ∈ wsAll) (hc : vwCl[ci]? = some (C, T, N)) {fs : List Value} (hfs : ∀ j, j < N → defaultValue (ty0 j) = vp_V fs j) (hcells : cells + 1 ≤ R.cells) (hslots : slots + N ≤ R.slots) (hdg : decode cc pc = .ok (.new index, 3)) (hdg2 : decode cc (pc + 3) = .ok (.dup, 1))
    (kk : ∀ (H1 : Heap), va_P D vwCl (pW b (fu f n (.inr (ci, fs))) (n + 1)) H1 → va_S (AP b) H0 H1 locs → W p l e R s m args below meth c H1 locs (cells + 1) (slots + N) Q (F0 m (pc + 3 + 1) ls (.ref (b + n) :: .ref (b + n) :: rest))) : W p l e R s m args below meth c H locs cells slots Q (F0 m pc ls rest) :=
  z_new F hK hP hS hb0 hsz hin ty0 hty hcl hinst hini hc hfs hcells hslots hdg (fun H1 h1 h2 => lv_dup F.1 F.2.1 hdg2 rfl (kk H1 h1 h2))
/-- new Numbers(N) comes to the field j -/
theorem z_numB (F : CallFix p m c cc nL s args (hh :: wsAll) own) (hname : meth.name = "<init>") {cI : ClassId} (ht : tys[0]? = some (cI, .int)) {k ci N : Nat} {fs : List Value} (hkn : k < n) (hN : N ≤ 540) (g1 : g n = .inr (2, [.ref (b + (n + 1)), .int 0])) (g2 : g (n + 1) = .inl (cI, N, .inl (fun i => if i < N then -1 else 0)))
    (hK : va_K D vwCl tys s) (hP : va_P D vwCl (pW b (fu (bld f k ci fs g) n (.inr (2, [.null, .int 0]))) (n + 1)) H) (hS : va_S (AP b) H0 H locs) (hsz : s.heap.size + cells = b + (n + 1)) {lv : List (Nat × Value)} (hl : lv_has ls nL lv)
    {C : String} {T : u_T} {NF index ifld : Nat} (hin : ∀ x ∈ u_ws C T NF, x ∈ wsAll) (ty0 : Nat → FieldType) (hty : ∀ k, k < NF → parseFieldDescriptor (T k).2.2.1 = some (ty0 k)) (hnm : ∀ a, a < NF → ∀ b, b < NF → a ≠ b → (T a).2.1 ≠ (T b).2.1) (hc : vwCl[ci]? = some (C, T, NF)) (j : Nat) (hj : j < NF) (hlink : Cond.fieldLink own ifld (T j).1 (T j).2.1 (T j).2.2.1 ∈ wsAll) (hfin : (T j).2.2.2 = true) (hdecl : (T j).1 = own) (hd : parseFieldDescriptor (T j).2.2.1 = some (.object RX2)) (hlen : j < fs.length)
    (hml : Cond.methodLink own index yX2_init ∈ wsAll) (hR : (rm_X2_init N).frames + 1 ≤ R.frames ∧ 8 + (3 + 11) + (rm_X2_init N).locals ≤ R.locals) (hroom : cells + 1 ≤ R.cells ∧ slots + N ≤ R.slots) (hrest : (rest.map fun v => v.category).sum ≤ 6)
    (hdg : decode cc pc = .ok (.invokespecial index, 3)) (hdg2 : decode cc (pc + 3) = .ok (.putfield ifld, 3))
    (kk : ∀ (H1 : Heap) (locs1 : List Loc), va_P D vwCl (pW b (bld f k ci (fs.set j (.ref (b + n))) g) (n + 2)) H1 → va_S (AP b) H0 H1 locs1 → W p l e R s m args below meth c H1 locs1 (cells + 1) (slots + N) Q (F0 m (pc + 3 + 3) ls rest)) : W p l e R s m args below meth c H locs cells slots Q (F0 m pc ls (.int (nI N) :: .ref (b + n) :: .ref (b + n) :: .ref (b + k) :: rest)) := by
  refine z_call (na := 1) F hK hP hS (by omega) hsz [.int (nI N)] (c_X2_init l D cI cI ht b n N hN _ fu_eq) hml wd_34 wd_3 wd_35 hd_X2_init rfl rfl hR rfl hl (rest := .ref (b + n) :: .ref (b + k) :: rest) rfl ?_ hdg hroom (fun H1 locs1 hP hS => ?_)
  · rw [List.map_cons, List.map_cons, List.sum_cons, List.sum_cons]
    show 1 + (1 + (rest.map fun v => v.category).sum) ≤ 8
    omega
  · have e1 : pW b (fN cI b n N (fu (bld f k ci fs g) n (.inr (2, [.null, .int 0])))) (n + 2) = pW b (bld f k ci fs g) (n + 2) := by
      refine pW_congr (fun i hi => ?_)
      unfold fN
      by_cases h1 : i = n + 1
      · rw [h1, fu_eq, bld_gt (by omega), g2]
      · rw [fu_ne h1]
        by_cases h2 : i = n
        · rw [h2, fu_eq, bld_gt hkn, g1]
        · rw [fu_ne h2, fu_ne h2]
    rw [e1] at hP
    refine z_put F hname hK hP hS hin ty0 hty hnm (by omega) bld_k hc j hj hlink hfin hdecl hd rfl rfl hlen hdg2 (fun H2 locs2 hP hS => ?_)
    rw [bld_put] at hP
    exact kk H2 locs2 hP hS
/-- a part's constructor, and the part comes to the field j -/
theorem z_part (F : CallFix p m c cc nL s args (hh :: wsAll) own) (hname : meth.name = "<init>") {k ci n2 : Nat} {fs : List Value} {ef : va_E} (hkn : k < n) (hn2 : n < n2) (hK : va_K D vwCl tys s) (hP : va_P D vwCl (pW b (fu (bld f k ci fs g) n ef) (n + 1)) H) (hS : va_S (AP b) H0 H locs) (hsz : s.heap.size + cells = b + (n + 1)) {lv : List (Nat × Value)} (hl : lv_has ls nL lv)
    {C : String} {T : u_T} {NF index ifld : Nat} (hin : ∀ x ∈ u_ws C T NF, x ∈ wsAll) (ty0 : Nat → FieldType) (hty : ∀ k, k < NF → parseFieldDescriptor (T k).2.2.1 = some (ty0 k)) (hnm : ∀ a, a < NF → ∀ b, b < NF → a ≠ b → (T a).2.1 ≠ (T b).2.1) (hc : vwCl[ci]? = some (C, T, NF)) (j : Nat) (hj : j < NF) (hlink : Cond.fieldLink own ifld (T j).1 (T j).2.1 (T j).2.2.1 ∈ wsAll) (hfin : (T j).2.2.2 = true) (hdecl : (T j).1 = own) {o : String} (hd : parseFieldDescriptor (T j).2.2.1 = some (.object o)) (hlen : j < fs.length)
    {y : MethodName} {bytes : ByteArray} {maxL na mc ms : Nat} {rm : Room} (As : List Value) (hM : Met l y (Cond.code y bytes maxL none :: wsAll) rm (PZ D tys b (fu (bld f k ci fs g) n ef) (n + 1) (.ref (b + n) :: As)) (QZ D tys b (mix (fu (bld f k ci fs g) n ef) n g) n2) mc ms (AP b))
    (h1 : Cond.methodLink own index y ∈ wsAll) (h2 : Cond.instanceMethod y ∈ wsAll) (h4 : Cond.initialized y.cls ∈ wsAll) (h5 : Cond.code y bytes maxL none ∈ wsAll) (hdy : y.name = "<init>" ∧ y.cls ≠ "java/lang/invoke/MethodHandle" ∧ y.cls ≠ "java/lang/invoke/VarHandle" ∧ (parseMethodDescriptor y.desc).map (fun d => d.parameters.length) = some na) (hrm : rm.cells = mc) (hrm2 : rm.slots = ms) (hR : rm.frames + 1 ≤ R.frames ∧ 8 + (maxL + 11) + rm.locals ≤ R.locals) (hna : As.length = na) (hroom : cells + mc ≤ R.cells ∧ slots + ms ≤ R.slots) (hrest : (rest.map fun v => v.category).sum ≤ 6)
    (hst : st0 = As.reverse ++ .ref (b + n) :: .ref (b + n) :: .ref (b + k) :: rest) (hdg : decode cc pc = .ok (.invokespecial index, 3)) (hdg2 : decode cc (pc + 3) = .ok (.putfield ifld, 3))
    (kk : ∀ (H1 : Heap) (locs1 : List Loc), va_P D vwCl (pW b (bld f k ci (fs.set j (.ref (b + n))) g) n2) H1 → va_S (AP b) H0 H1 locs1 → W p l e R s m args below meth c H1 locs1 (cells + mc) (slots + ms) Q (F0 m (pc + 3 + 3) ls rest)) : W p l e R s m args below meth c H locs cells slots Q (F0 m pc ls st0) := by
  refine z_call F hK hP hS (by omega) hsz As hM h1 h2 h4 h5 hdy hrm hrm2 hR hna hl (rest := .ref (b + n) :: .ref (b + k) :: rest) hst ?_ hdg hroom (fun H1 locs1 hP hS => ?_)
  · rw [List.map_cons, List.map_cons, List.sum_cons, List.sum_cons]
    show 1 + (1 + (rest.map fun v => v.category).sum) ≤ 8
    omega
  · rw [bld_part hkn] at hP
    refine z_put F hname hK hP hS hin ty0 hty hnm (by omega) bld_k hc j hj hlink hfin hdecl hd rfl rfl hlen hdg2 (fun H2 locs2 hP hS => ?_)
    rw [bld_put] at hP
    exact kk H2 locs2 hP hS
end BLK
section GCELLS
variable {cI cO : ClassId} {b : Nat}
theorem gC_of {k : Nat} {x : va_E} (hk : k < 136) (h : (wC cI cO b S0C)[k]? = some (b + k, x)) : gC cI cO b k = x := by
  rw [wC_at hk] at h
  injection h with h
  exact (Prod.mk.inj h).2
theorem gC_N {k : Nat} (h : nK k = true) : gC cI cO b k = .inr (2, [.ref (b + (k + 1)), .int 0]) := gC_of (by have := (nK_lt h).1; omega) (wC_N h)
theorem gC_A {k : Nat} (h : nK k = true) (hl : ln k = 90) : gC cI cO b (k + 1) = .inl (cI, 90, .inl (fun i => if i < 90 then -1 else 0)) := by
  rw [gC_of (by have := (nK_lt h).1; omega) (wC_A h), hl]
  have : ga S0C k = (fun i => if i < 90 then -1 else 0) := by
    show (fun i => if i < ln k then (-1 : Int32) else 0) = _
    rw [hl]
  rw [this]
theorem gC_A5 {k : Nat} (h : nK k = true) (hl : ln k = 540) : gC cI cO b (k + 1) = .inl (cI, 540, .inl (fun i => if i < 540 then -1 else 0)) := by
  rw [gC_of (by have := (nK_lt h).1; omega) (wC_A h), hl]
  have : ga S0C k = (fun i => if i < 540 then -1 else 0) := by
    show (fun i => if i < ln k then (-1 : Int32) else 0) = _
    rw [hl]
  rw [this]
end GCELLS
