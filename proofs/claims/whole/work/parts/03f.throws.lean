section
variable {p : Program} {l : Launch} {e : Env} {R : Room} {s : State} {m : MethodId} {args : Array Value} {below : List Frame} {meth : Method} {c : Code} {H : Heap} {locs : List Loc} {cells slots : Nat} {Q : State → Prop}
variable {mc ms : Nat} {free : Addr → Prop} {A0 A1 : Nat → Prop} {H0 : Heap} {a : Array Value} {pc : Nat} {ls : Array Slot} {st0 rest : List Value}
/-- vx_callr: vx_callv of the printed rows, turned to a reference that comes back -/
theorem vx_callr {S SX : Type} {post : S → Prop} {px : SX → Prop} {B : S → Nat → State → Prop} {BX : String → SX → State → Prop} {AX : Nat → Prop} (hr : vx_Run p l e R s m args below meth c H locs cells slots mc ms (F0 m pc ls st0) rest (va_Qr post B A1 a) (vx_X px BX AX) free) (hS : va_S A0 H0 H locs) (hA : ∀ q, q < H.size → A1 q → A0 q) (hf : ∀ q, free q → A0 q) (hAX : ∀ q, q < H.size → AX q → A0 q)
    (kx : ∀ (E : String) (ce : Cell) (q9 : Addr) (u : SX) (t : State) (H1 : Heap) (locs1 : List Loc), t.heap = H1 → s.vm.Alike t.vm → px u → BX E u t → H.size ≤ H1.size → (∀ q : Nat, q < H.size → ¬ AX q → H1[q]? = H[q]?) → va_S A0 H0 H1 locs1 → H1[q9]? = some ce → ce.vm = .none → s.vm.findClass E = some ce.cls → vx_W p l e R s m args below meth c H1 locs1 (cells + mc) (slots + ms) Q (F0 m pc ls rest) q9)
    (kk : ∀ (u : S) (ra : Nat) (t : State) (H1 : Heap) (locs1 : List Loc), t.heap = H1 → s.vm.Alike t.vm → post u → B u ra t → H.size ≤ H1.size → (∀ q : Nat, q < H.size → ¬ A1 q → H1[q]? = H[q]?) → va_S A0 H0 H1 locs1 → W p l e R s m args below meth c H1 locs1 (cells + mc) (slots + ms) Q (F0 m (pc + 3) ls (.ref ra :: rest))) : W p l e R s m args below meth c H locs cells slots Q (F0 m pc ls st0) := by
  intro T hT X
  rcases hr T hT X with ⟨v, st₀, t, T', L, h0, X', hL, e1, e2, ⟨⟨u, ra, hv, hp, hb⟩, hF⟩, st⟩ | ⟨q, st₀, t, T', L, E, ce, h0, X', hL, e1, e2, ⟨u, hp, hb, hF⟩, hce, hcv, hcl, st⟩
  · cases hv
    obtain ⟨k1, k2, k3⟩ := vx_keep h0 e1 hS hA hf hL hF
    obtain ⟨t2, a1, b1⟩ := kk u ra t T'.heap (locs ++ L) e1.symm (by rw [← e2]; exact X'.warmed.alike) hp hb k1 k2 k3 T' rfl X'
    exact ⟨t2, st t2 a1, b1⟩
  · obtain ⟨k1, k2, k3⟩ := vx_keep h0 e1 hS hAX hf hL hF
    obtain ⟨t2, a1, b1⟩ := kx E ce q u t T'.heap (locs ++ L) e1.symm (by rw [← e2]; exact X'.warmed.alike) hp hb k1 k2 k3 (by rw [e1]; exact hce) hcv hcl T' rfl X'
    exact ⟨t2, st.trans a1, b1⟩
end
/-! METHODS THAT THROW: what a throw rests on, and rows -/
def thr {α : Type} : Nat ⊕ α → Option Nat
  | .inl e => some e
  | .inr _ => none
theorem cx_some' {α R : Type} {x : Option (Nat ⊕ α)} {kt : Nat → Option R} {k : α → Option R} {r : R} (h : cx x kt k = some r) : ∃ q, x = some q ∧ q.elim kt k = some r := Option.bind_eq_some_iff.mp h
def EX (A : Nat → Prop) (U : State) : Prop :=
  (∀ q ∈ exCast, va_Nw (.castable q.1 q.2) U) ∧ (∀ y ∈ exDecl, va_Nw (.declares y) U) ∧
  vx_Zq Bundle.tN "UNASSIGNED_STACK" Bundle.steD A U U.heap ∧ vx_Zq Bundle.tN "SUPPRESSED_SENTINEL" Bundle.listD A U U.heap ∧ ∀ q ∈ exStr, ∃ sa, vk_R RX6 q.1 q.2 sa U
theorem EX_moved {A : Nat → Prop} {u U : State} (hW : u.WarmedH U.vm) (hh : ∀ a : Nat, a < u.heap.size → ¬ A a → U.heap[a]? = u.heap[a]?) (h : EX A u) : EX A U := by
  obtain ⟨h1, h2, h3, h4, h5⟩ := h
  refine ⟨fun q hq => va_Nw.warmC hW (h1 q hq), fun y hy => va_Nw.warmD hW (h2 y hy), vx_Zq.moved hW.alike (h3.kept hh), vx_Zq.moved hW.alike (h4.kept hh), fun q hq => ?_⟩
  obtain ⟨sa, h⟩ := h5 q hq
  exact ⟨sa, vk_R.warm hW h⟩
theorem EX_narrow {A B : Nat → Prop} {U : State} (hAB : ∀ q, B q → A q) (h : EX A U) : EX B U := ⟨h.1, h.2.1, h.2.2.1.narrow hAB, h.2.2.2.1.narrow hAB, h.2.2.2.2⟩
def PXt (D : va_G) (w : St → va_W) (tys : List (ClassId × FieldType)) (A : Nat → Prop) (S : St) (av : List Value) : Array Value → State → Prop := va_Pc av (fun U => BX D w tys S U ∧ EX A U)
def Qti (D : va_G) (w : St → va_W) (tys : List (ClassId × FieldType)) (A : Nat → Prop) (q : Nat ⊕ Int32) (S1 : St) : Array Value → State → Outcome → State → Prop := va_Qi (fun r' S' => q = .inr r' ∧ S' = S1) (BX D w tys) A
def Qtv (D : va_G) (w : St → va_W) (tys : List (ClassId × FieldType)) (A : Nat → Prop) (q : Nat ⊕ Unit) (S1 : St) : Array Value → State → Outcome → State → Prop := va_Qv (fun S' => q = .inr () ∧ S' = S1) (BX D w tys) A
def Qtr (D : va_G) (w : St → va_W) (tys : List (ClassId × FieldType)) (A : Nat → Prop) (b : Nat) (q : Nat ⊕ Nat) (S1 : St) : Array Value → State → Outcome → State → Prop := va_Qr (fun S' => S' = S1) (fun S' a t => (∃ z, q = .inr z ∧ a = b + oS z) ∧ BX D w tys S' t) A
def Qtx (D : va_G) (w : St → va_W) (tys : List (ClassId × FieldType)) (A : Nat → Prop) (th : Option Nat) (S1 : St) : String → State → State → Prop := vx_X (fun S' => S' = S1) (fun E S' t => (∃ e, th = some e ∧ E = exN e) ∧ BX D w tys S' t) A
theorem PXt_blind {D : va_G} {w : St → va_W} {tys : List (ClassId × FieldType)} {A : Nat → Prop} {S : St} {av : List Value} : FrameBlind (PXt D w tys A S av) := fun a U g mk q =>
  ⟨q.1, ⟨q.2.1.1, va_K.moved (u := U) (U := U.calling g mk a) (Vm.Alike.refl U.vm) q.2.1.2⟩, EX_moved (u := U) (U := U.calling g mk a) (State.WarmedH.refl U) (fun _ _ _ => rfl) q.2.2⟩
section TR
variable {p : Program} {l : Launch} {e : Env} {R : Room} {s : State} {m : MethodId} {args : Array Value} {below : List Frame} {meth : Method} {c : Code} {H : Heap} {locs : List Loc} {cells slots : Nat} {Q : State → Prop} {cc : ByteArray} {pc nL : Nat} {ls : Array Slot} {rest st0 : List Value} {own : String} {D : va_G} {tys : List (ClassId × FieldType)} {w : St → va_W} {A : Nat → Prop} {S S1 S0 : St} {hh : Cond} {Qc0 : Array Value → State → Outcome → State → Prop} {th : Option Nat} {mc ms mcM msM : Nat}
theorem t_pre {k : Nat} {ci a : Nat} {fs : List Value} {q : vw_C} {As : List Value} (hX : EX A s) (hK : va_K D vwCl tys s) (hP : va_P D vwCl (w S) H) (hS : va_S A s.heap H locs) (he : (w S)[k]? = some (a, .inr (ci, fs))) (hc : vwCl[ci]? = some q) : PreV s H q.1 a (PXt D w tys A S (.ref a :: As)) As :=
  ⟨PXt_blind, va_recv hK hP hc he, fun U hU hW => ⟨rfl, ⟨by rw [hU]; exact hP, va_K.moved hW.alike hK⟩, EX_moved hW (by rw [hU]; exact hS.2.1) hX⟩⟩
/-- a throw that goes on to the caller -/
theorem t_out {E : String} {ce : Cell} {q9 e9 : Nat} {t : State} (hlocks : meth.locks = false) (hnt : ∀ x ∈ c.exceptionTable.toList, False) (hQ : Q = vx_MQ below Qc0 (Qtx D w tys A th S0) args s mcM msM A) (hm : cells ≤ mcM ∧ slots ≤ msM) (hK : va_K D vwCl tys s) (ht : t.heap = H) (hB : va_P D vwCl (w S0) t.heap) (hS : va_S A s.heap H locs) (hth : th = some e9) (hE : E = exN e9) (hce : H[q9]? = some ce) (hcv : ce.vm = .none) (hcl : s.vm.findClass E = some ce.cls) : vx_W p l e R s m args below meth c H locs cells slots Q (F0 m pc ls rest) q9 := by
  subst hQ
  refine vx_out (fun x hx => (hnt x hx).elim) hlocks hce hcv hcl (fun t' ht' hvm' => ⟨S0, rfl, ⟨⟨e9, hth, hE⟩, ?_, va_K.moved hvm' hK⟩, hS.F ht'⟩) hS.2.2 hm.1 hm.2
  rw [ht', ← ht]
  exact hB
theorem t_calli (F : CallFix p m c cc nL s args (hh :: wsAll) own) (hX : EX A s) (hlocks : meth.locks = false) (hnt : ∀ x ∈ c.exceptionTable.toList, False) (hQ : Q = vx_MQ below Qc0 (Qtx D w tys A th S0) args s mcM msM A) (hK : va_K D vwCl tys s) (hP : va_P D vwCl (w S) H) (hS : va_S A s.heap H locs) {y : MethodName} {bytes : ByteArray} {maxL n index q0 ci a : Nat} {ret : Option FieldType} {rm : Room} {fs : List Value} {C : String} {T : u_T} {N : Nat} {lv : List (Nat × Value)} {q : Nat ⊕ Int32} (As : List Value)
    (hM : vx_Met l y (Cond.code y bytes maxL ret :: wsAll) rm (PXt D w tys A S (.ref a :: As)) (Qti D w tys A q S1) (Qtx D w tys A (thr q) S1) mc ms A)
    (h1 : Cond.methodLink own index y ∈ wsAll) (h2 : Cond.instanceMethod y ∈ wsAll) (h3 : Cond.selects C y y ∈ wsAll) (h4 : Cond.initialized C ∈ wsAll) (h5 : Cond.code y bytes maxL ret ∈ wsAll)
    (he : (w S)[q0]? = some (a, .inr (ci, fs))) (hc : vwCl[ci]? = some (C, T, N)) (hd : y.cls = C ∧ y.cls ≠ "java/lang/invoke/MethodHandle" ∧ y.cls ≠ "java/lang/invoke/VarHandle" ∧ (parseMethodDescriptor y.desc).map (fun d => d.parameters.length) = some n) (hrm : rm.cells = mc) (hrm2 : rm.slots = ms) (hR : rm.frames + 1 ≤ R.frames ∧ 8 + (maxL + 11) + rm.locals ≤ R.locals) (hn : As.length = n) (hl : lv_has ls nL lv) (hst : st0 = As.reverse ++ .ref a :: rest) (hrest : (rest.map fun v => v.category).sum ≤ 8) (hdg : decode cc pc = .ok (.invokevirtual index, 3)) (hroom : cells + mc ≤ R.cells ∧ slots + ms ≤ R.slots) (hm : cells + mc ≤ mcM ∧ slots + ms ≤ msM)
    (kx : ∀ e9, q = .inl e9 → th = some e9 ∧ S1 = S0)
    (kk : ∀ v, q = .inr v → ∀ (H1 : Heap) (locs1 : List Loc), va_P D vwCl (w S1) H1 → va_S A s.heap H1 locs1 → W p l e R s m args below meth c H1 locs1 (cells + mc) (slots + ms) Q (F0 m (pc + 3) ls (.int v :: rest))) : W p l e R s m args below meth c H locs cells slots Q (F0 m pc ls st0) := by
  subst hst
  refine vx_calli (vx_runV (As := As) (rest := rest) F hM (cwV n F.2.2.2.2 (gAllV h1 h2 h3 h4 h5) rfl hrm hrm2 hd hR) (t_pre hX hK hP hS he hc) rfl hn hl.1 rfl (lv_room hrest) hdg hroom) hS (fun q _ h => h) (fun q h => h) (fun q _ h => h) (fun E ce q9 u t H1 locs1 ht hvm hpx hB hz hk hS1 hce hcv hcl => ?_) (fun r' u t H1 locs1 ht hvm hw hB hz1 hk1 hS1 => ?_)
  · obtain ⟨⟨e9, g1, g2⟩, g3, -⟩ := hB
    subst hpx
    cases q with
    | inl e8 =>
      cases g1
      obtain ⟨k1, rfl⟩ := kx _ rfl
      exact t_out hlocks hnt hQ hm hK ht g3 hS1 k1 g2 hce hcv hcl
    | inr v => cases g1
  · obtain ⟨g1, rfl⟩ := hw
    subst ht
    exact kk _ g1 _ locs1 hB.1 hS1
theorem t_callv (F : CallFix p m c cc nL s args (hh :: wsAll) own) (hX : EX A s) (hlocks : meth.locks = false) (hnt : ∀ x ∈ c.exceptionTable.toList, False) (hQ : Q = vx_MQ below Qc0 (Qtx D w tys A th S0) args s mcM msM A) (hK : va_K D vwCl tys s) (hP : va_P D vwCl (w S) H) (hS : va_S A s.heap H locs) {y : MethodName} {bytes : ByteArray} {maxL n index q0 ci a : Nat} {ret : Option FieldType} {rm : Room} {fs : List Value} {C : String} {T : u_T} {N : Nat} {lv : List (Nat × Value)} {q : Nat ⊕ Unit} (As : List Value)
    (hM : vx_Met l y (Cond.code y bytes maxL ret :: wsAll) rm (PXt D w tys A S (.ref a :: As)) (Qtv D w tys A q S1) (Qtx D w tys A (thr q) S1) mc ms A)
    (h1 : Cond.methodLink own index y ∈ wsAll) (h2 : Cond.instanceMethod y ∈ wsAll) (h3 : Cond.selects C y y ∈ wsAll) (h4 : Cond.initialized C ∈ wsAll) (h5 : Cond.code y bytes maxL ret ∈ wsAll)
    (he : (w S)[q0]? = some (a, .inr (ci, fs))) (hc : vwCl[ci]? = some (C, T, N)) (hd : y.cls = C ∧ y.cls ≠ "java/lang/invoke/MethodHandle" ∧ y.cls ≠ "java/lang/invoke/VarHandle" ∧ (parseMethodDescriptor y.desc).map (fun d => d.parameters.length) = some n) (hrm : rm.cells = mc) (hrm2 : rm.slots = ms) (hR : rm.frames + 1 ≤ R.frames ∧ 8 + (maxL + 11) + rm.locals ≤ R.locals) (hn : As.length = n) (hl : lv_has ls nL lv) (hst : st0 = As.reverse ++ .ref a :: rest) (hrest : (rest.map fun v => v.category).sum ≤ 8) (hdg : decode cc pc = .ok (.invokevirtual index, 3)) (hroom : cells + mc ≤ R.cells ∧ slots + ms ≤ R.slots) (hm : cells + mc ≤ mcM ∧ slots + ms ≤ msM)
    (kx : ∀ e9, q = .inl e9 → th = some e9 ∧ S1 = S0)
    (kk : q = .inr () → ∀ (H1 : Heap) (locs1 : List Loc), va_P D vwCl (w S1) H1 → va_S A s.heap H1 locs1 → W p l e R s m args below meth c H1 locs1 (cells + mc) (slots + ms) Q (F0 m (pc + 3) ls rest)) : W p l e R s m args below meth c H locs cells slots Q (F0 m pc ls st0) := by
  subst hst
  refine vx_callv (vx_runV (As := As) (rest := rest) F hM (cwV n F.2.2.2.2 (gAllV h1 h2 h3 h4 h5) rfl hrm hrm2 hd hR) (t_pre hX hK hP hS he hc) rfl hn hl.1 rfl (lv_room hrest) hdg hroom) hS (fun q _ h => h) (fun q h => h) (fun q _ h => h) (fun E ce q9 u t H1 locs1 ht hvm hpx hB hz hk hS1 hce hcv hcl => ?_) (fun u t H1 locs1 ht hvm hw hB hz1 hk1 hS1 => ?_)
  · obtain ⟨⟨e9, g1, g2⟩, g3, -⟩ := hB
    subst hpx
    cases q with
    | inl e8 =>
      cases g1
      obtain ⟨k1, rfl⟩ := kx _ rfl
      exact t_out hlocks hnt hQ hm hK ht g3 hS1 k1 g2 hce hcv hcl
    | inr v => cases g1
  · obtain ⟨g1, rfl⟩ := hw
    subst ht
    exact kk g1 _ locs1 hB.1 hS1
theorem t_callr {b : Nat} (F : CallFix p m c cc nL s args (hh :: wsAll) own) (hX : EX A s) (hlocks : meth.locks = false) (hnt : ∀ x ∈ c.exceptionTable.toList, False) (hQ : Q = vx_MQ below Qc0 (Qtx D w tys A th S0) args s mcM msM A) (hK : va_K D vwCl tys s) (hP : va_P D vwCl (w S) H) (hS : va_S A s.heap H locs) {y : MethodName} {bytes : ByteArray} {maxL n index q0 ci a : Nat} {ret : Option FieldType} {rm : Room} {fs : List Value} {C : String} {T : u_T} {N : Nat} {lv : List (Nat × Value)} {q : Nat ⊕ Nat} (As : List Value)
    (hM : vx_Met l y (Cond.code y bytes maxL ret :: wsAll) rm (PXt D w tys A S (.ref a :: As)) (Qtr D w tys A b q S1) (Qtx D w tys A (thr q) S1) mc ms A)
    (h1 : Cond.methodLink own index y ∈ wsAll) (h2 : Cond.instanceMethod y ∈ wsAll) (h3 : Cond.selects C y y ∈ wsAll) (h4 : Cond.initialized C ∈ wsAll) (h5 : Cond.code y bytes maxL ret ∈ wsAll)
    (he : (w S)[q0]? = some (a, .inr (ci, fs))) (hc : vwCl[ci]? = some (C, T, N)) (hd : y.cls = C ∧ y.cls ≠ "java/lang/invoke/MethodHandle" ∧ y.cls ≠ "java/lang/invoke/VarHandle" ∧ (parseMethodDescriptor y.desc).map (fun d => d.parameters.length) = some n) (hrm : rm.cells = mc) (hrm2 : rm.slots = ms) (hR : rm.frames + 1 ≤ R.frames ∧ 8 + (maxL + 11) + rm.locals ≤ R.locals) (hn : As.length = n) (hl : lv_has ls nL lv) (hst : st0 = As.reverse ++ .ref a :: rest) (hrest : (rest.map fun v => v.category).sum ≤ 8) (hdg : decode cc pc = .ok (.invokevirtual index, 3)) (hroom : cells + mc ≤ R.cells ∧ slots + ms ≤ R.slots) (hm : cells + mc ≤ mcM ∧ slots + ms ≤ msM)
    (kx : ∀ e9, q = .inl e9 → th = some e9 ∧ S1 = S0)
    (kk : ∀ z, q = .inr z → ∀ (H1 : Heap) (locs1 : List Loc), va_P D vwCl (w S1) H1 → va_S A s.heap H1 locs1 → W p l e R s m args below meth c H1 locs1 (cells + mc) (slots + ms) Q (F0 m (pc + 3) ls (.ref (b + oS z) :: rest))) : W p l e R s m args below meth c H locs cells slots Q (F0 m pc ls st0) := by
  subst hst
  refine vx_callr (vx_runV (As := As) (rest := rest) F hM (cwV n F.2.2.2.2 (gAllV h1 h2 h3 h4 h5) rfl hrm hrm2 hd hR) (t_pre hX hK hP hS he hc) rfl hn hl.1 rfl (lv_room hrest) hdg hroom) hS (fun q _ h => h) (fun q h => h) (fun q _ h => h) (fun E ce q9 u t H1 locs1 ht hvm hpx hB hz hk hS1 hce hcv hcl => ?_) (fun u ra t H1 locs1 ht hvm hw hB hz1 hk1 hS1 => ?_)
  · obtain ⟨⟨e9, g1, g2⟩, g3, -⟩ := hB
    subst hpx
    cases q with
    | inl e8 =>
      cases g1
      obtain ⟨k1, rfl⟩ := kx _ rfl
      exact t_out hlocks hnt hQ hm hK ht g3 hS1 k1 g2 hce hcv hcl
    | inr v => cases g1
  · obtain ⟨⟨z, g1, rfl⟩, g2⟩ := hB
    subst hw
    subst ht
    exact kk _ g1 _ locs1 g2.1 hS1
theorem t_throw (F : CallFix p m c cc nL s args (hh :: wsAll) own) (hfl : l.stackTraces = false) (hX : EX A s) (hlocks : meth.locks = false) (hnt : ∀ x ∈ c.exceptionTable.toList, False) (hQ : Q = vx_MQ below Qc0 (Qtx D w tys A th S0) args s mcM msM A) (hK : va_K D vwCl tys s) (hP : va_P D vwCl (w S) H) (hS : va_S A s.heap H locs) {cls text : String} {ik is ic e9 : Nat} {lv : List (Nat × Value)} (hown : own = RX6) (hcls : cls = exN e9) (hth : th = some e9) (hs : S = S0) (hstr : (is, text) ∈ exStr) (hk : Cond.classLink own ik cls ∈ wsAll) (hini : Cond.initialized cls ∈ wsAll)
    (hat : ∀ {U : State} {ar : Array Value}, (∀ x ∈ wsAll, x.before ar U = true) → EX A U → (Bundle.fit cls = true ∧ (∀ n ∈ ["java/lang/RuntimeException", "java/lang/Exception"], Bundle.fit n = true) ∧ (∀ x ∈ vx_atS own ic cls ["java/lang/RuntimeException", "java/lang/Exception"], x.before ar U = true) ∧ ∀ x ∈ Cond.classLink own ik cls :: Cond.initialized cls :: vx_atS own ic cls ["java/lang/RuntimeException", "java/lang/Exception"], vx_ot x = true))
    (hl : lv_has ls nL lv)
    (d0 : decode cc pc = .ok (.new ik, 3)) (d3 : decode cc (pc + 3) = .ok (.dup, 1)) (d4 : decode cc (pc + 4) = .ok (.ldc is, 2)) (d6 : decode cc (pc + 6) = .ok (.invokespecial ic, 3)) (d9 : decode cc (pc + 9) = .ok (.athrow, 1))
    (hRf : 5 < R.frames) (hRl : (rest.map fun v => v.category).sum + 82 ≤ R.locals) (hRc : cells + 1 ≤ R.cells) (hRs : slots + 6 ≤ R.slots) (hm : cells + 1 ≤ mcM ∧ slots + 6 ≤ msM) : W p l e R s m args below meth c H locs cells slots Q (F0 m pc ls rest) := by
  subst hQ; subst hs; subst hown
  have hts : ∀ x ∈ wsAll, x.before args s = true := fun x h => F.2.2.2.2 x (List.mem_cons_of_mem _ h)
  obtain ⟨g1, g2, g3, g4⟩ := hat hts hX
  obtain ⟨sa, hsa⟩ := hX.2.2.2.2 _ hstr
  refine vx_throwS F.1 F.2.1 hfl F.2.2.2.1 g1 g2 (hts _ hk) (hts _ hini) hsa g3 g4 hX.2.2.1 hX.2.2.2.1 hS (hl.1.trans F.2.2.1.symm) d0 d3 d4 d6 d9 (fun x hx => (hnt x hx).elim) hRf hRl hRc hRs hlocks (fun t hvm hz hq => ⟨S, rfl, ⟨⟨e9, hth, hcls⟩, hP.kept (fun k q hk => hq q.1 ((hP k q hk).lt)), va_K.moved hvm hK⟩, Nat.le_trans hS.1 hz, fun q h1 h2 => ?_⟩) hS.2.2 hm.1 hm.2
  rw [hq q (Nat.lt_of_lt_of_le h1 hS.1)]
  exact hS.2.1 q h1 h2
theorem t_throwX (F : CallFix p m c cc nL s args (hh :: wsAll) own) (hfl : l.stackTraces = false) (hX : EX A s) (hlocks : meth.locks = false) (hnt : ∀ x ∈ c.exceptionTable.toList, False) (hQ : Q = vx_MQ below Qc0 (Qtx D w tys A th S0) args s mcM msM A) (hK : va_K D vwCl tys s) (hP : va_P D vwCl (w S) H) (hS : va_S A s.heap H locs) {cls text : String} {ik is ic e9 ix : Nat} {rx : ByteArray} (x0 : decode rx 0 = .ok (.aload_n 0, 1)) (x1 : decode rx 1 = .ok (.aload_n 1, 1)) (x2 : decode rx 2 = .ok (.invokespecial ix, 3)) (x5 : decode rx 5 = .ok (.return_, 1)) {lv : List (Nat × Value)} (hown : own = RX6) (hcls : cls = exN e9) (hth : th = some e9) (hs : S = S0) (hstr : (is, text) ∈ exStr) (hk : Cond.classLink own ik cls ∈ wsAll) (hini : Cond.initialized cls ∈ wsAll)
    (hat : ∀ {U : State} {ar : Array Value}, (∀ x ∈ wsAll, x.before ar U = true) → EX A U → (Bundle.fit cls = true ∧ (∀ n ∈ ["java/lang/RuntimeException", "java/lang/Exception"], Bundle.fit n = true) ∧ (∀ x ∈ xs_at own ic cls ix rx "java/lang/RuntimeException" ["java/lang/Exception"], x.before ar U = true) ∧ ∀ x ∈ Cond.classLink own ik cls :: Cond.initialized cls :: xs_at own ic cls ix rx "java/lang/RuntimeException" ["java/lang/Exception"], vx_ot x = true))
    (hl : lv_has ls nL lv)
    (d0 : decode cc pc = .ok (.new ik, 3)) (d3 : decode cc (pc + 3) = .ok (.dup, 1)) (d4 : decode cc (pc + 4) = .ok (.ldc is, 2)) (d6 : decode cc (pc + 6) = .ok (.invokespecial ic, 3)) (d9 : decode cc (pc + 9) = .ok (.athrow, 1))
    (hRf : 5 < R.frames) (hRl : (rest.map fun v => v.category).sum + 82 ≤ R.locals) (hRc : cells + 1 ≤ R.cells) (hRs : slots + 6 ≤ R.slots) (hm : cells + 1 ≤ mcM ∧ slots + 6 ≤ msM) : W p l e R s m args below meth c H locs cells slots Q (F0 m pc ls rest) := by
  subst hQ; subst hs; subst hown
  have hts : ∀ x ∈ wsAll, x.before args s = true := fun x h => F.2.2.2.2 x (List.mem_cons_of_mem _ h)
  obtain ⟨g1, g2, g3, g4⟩ := hat hts hX
  obtain ⟨sa, hsa⟩ := hX.2.2.2.2 _ hstr
  refine x_throwS F.1 F.2.1 hfl x0 x1 x2 x5 F.2.2.2.1 g1 (g2 _ (by simp)) (fun n hn => g2 n (List.mem_cons_of_mem _ hn)) (hts _ hk) (hts _ hini) hsa g3 g4 hX.2.2.1 hX.2.2.2.1 hS (hl.1.trans F.2.2.1.symm) d0 d3 d4 d6 d9 (fun x hx => (hnt x hx).elim) hRf hRl hRc hRs hlocks (fun t hvm hz hq => ⟨S, rfl, ⟨⟨e9, hth, hcls⟩, hP.kept (fun k q hk => hq q.1 ((hP k q hk).lt)), va_K.moved hvm hK⟩, Nat.le_trans hS.1 hz, fun q h1 h2 => ?_⟩) hS.2.2 hm.1 hm.2
  rw [hq q (Nat.lt_of_lt_of_le h1 hS.1)]
  exact hS.2.1 q h1 h2
theorem t_iret {v : Int32} {r : Nat ⊕ Int32} {XC : String → State → State → Prop} (F : CallFix p m c cc nL s args (hh :: wsAll) own) (hr : meth.sig.returnType = some .int) (hlocks : meth.locks = false) (hQ : Q = vx_MQ below (Qti D w tys A r S1) XC args s mcM msM A) (hm : cells ≤ mcM ∧ slots ≤ msM) (hK : va_K D vwCl tys s) (hP : va_P D vwCl (w S) H) (hS : va_S A s.heap H locs) (hv : .inr v = r) (hs : S = S1) (hdg : decode cc pc = .ok (.ireturn, 1)) : W p l e R s m args below meth c H locs cells slots Q (F0 m pc ls [.int v]) := by
  subst hQ; subst hv; subst hs
  refine W.widen hm.1 hm.2 (vx_ret ?_)
  exact W.iret F.1 F.2.1 hr (fun t ht hW => ⟨⟨v, S, rfl, ⟨rfl, rfl⟩, by rw [ht]; exact hP, va_K.moved hW.alike hK⟩, hS.F ht⟩) hS.2.2 hdg hlocks
theorem t_vret {r : Nat ⊕ Unit} {XC : String → State → State → Prop} (F : CallFix p m c cc nL s args (hh :: wsAll) own) (hr : meth.sig.returnType = none) (hlocks : meth.locks = false) (hQ : Q = vx_MQ below (Qtv D w tys A r S1) XC args s mcM msM A) (hm : cells ≤ mcM ∧ slots ≤ msM) (hK : va_K D vwCl tys s) (hP : va_P D vwCl (w S) H) (hS : va_S A s.heap H locs) (hv : .inr () = r) (hs : S = S1) (hdg : decode cc pc = .ok (.return_, 1)) : W p l e R s m args below meth c H locs cells slots Q (F0 m pc ls []) := by
  subst hQ; subst hv; subst hs
  refine W.widen hm.1 hm.2 (vx_ret ?_)
  exact W.vret F.1 F.2.1 hr (fun t ht hW => ⟨⟨S, rfl, ⟨rfl, rfl⟩, by rw [ht]; exact hP, va_K.moved hW.alike hK⟩, hS.F ht⟩) hS.2.2 hdg hlocks
theorem t_rret {b z : Nat} {C : String} {r : Nat ⊕ Nat} {XC : String → State → State → Prop} (F : CallFix p m c cc nL s args (hh :: wsAll) own) (hr : meth.sig.returnType = some (.object C)) (hlocks : meth.locks = false) (hQ : Q = vx_MQ below (Qtr D w tys A b r S1) XC args s mcM msM A) (hm : cells ≤ mcM ∧ slots ≤ msM) (hK : va_K D vwCl tys s) (hP : va_P D vwCl (w S) H) (hS : va_S A s.heap H locs) (hv : .inr z = r) (hs : S = S1) (hdg : decode cc pc = .ok (.areturn, 1)) : W p l e R s m args below meth c H locs cells slots Q (F0 m pc ls [.ref (b + oS z)]) := by
  subst hQ; subst hv; subst hs
  refine W.widen hm.1 hm.2 (vx_ret ?_)
  exact W.aret F.1 F.2.1 hr (Or.inl ⟨C, rfl⟩) (Or.inr ⟨_, rfl⟩) (fun t ht hW => ⟨⟨S, b + oS z, rfl, rfl, ⟨z, rfl, rfl⟩, by rw [ht]; exact hP, va_K.moved hW.alike hK⟩, hS.F ht⟩) hS.2.2 hdg hlocks
end TR
theorem t_met {l : Launch} {D : va_G} {tys : List (ClassId × FieldType)} {w : St → va_W} {S : St} {y : MethodName} {cc : ByteArray} {maxL : Nat} {ret : Option FieldType} {rm : Room} {av : List Value} {Qc : Array Value → State → Outcome → State → Prop} {XC : String → State → State → Prop} {mc ms : Nat} {A free : Nat → Prop} (own : String) (hy : plainName y.cls = true) (hfit : (lg_sl av).length ≤ maxL) (hown : y.cls = own)
    (body : ∀ (p : Program) (e : Env) (s : State) (m : MethodId) (args : Array Value) (below : List Frame) (meth : Method) (c : Code) (ls : Array Slot) (Q : State → Prop), CallFix p m c cc maxL s args (Cond.code y cc maxL ret :: wsAll) own → meth.sig.returnType = ret → meth.locks = false → (∀ x ∈ c.exceptionTable.toList, False) → EX A s → va_K D vwCl tys s → va_P D vwCl (w S) s.heap → lv_has ls maxL (lv_args 0 av) → Q = vx_MQ below Qc XC args s mc ms free → W p l e rm s m args below meth c s.heap [] 0 0 Q (F0 m 0 ls [])) :
    vx_Met l y (Cond.code y cc maxL ret :: wsAll) rm (PXt D w tys A S av) Qc XC mc ms free := by
  refine vx_ofW (cc := cc) (maxL := maxL) (ret := ret) hy rfl ?_
  intro p e s m args below meth c s₁ B hml hnt hv
  obtain ⟨rfl, ⟨hP, hK⟩, hX⟩ := hv
  have hl := lv_entry av (n := maxL) hfit
  rw [lg_entry_eq]
  exact body p e s m _ below meth c _ _ ⟨B.exec, B.bytes, hml, by rw [← hown]; exact findClass_of_methodNamed B.named, atoms_spec (ws := Cond.code y cc maxL ret :: wsAll) B.pre⟩ B.returns B.notSynchronized hnt hX hK hP hl rfl
theorem vp_lt {i : Int32} {n : Nat} (h : vp_in i n) : i.toNatClampNeg < n := Nat.not_le.mp fun q => h (Or.inr q)
theorem at_1 {A : Nat → Prop} {U : State} {ar : Array Value} (hts : ∀ x ∈ wsAll, x.before ar U = true) (hX : EX A U) : Bundle.fit "java/lang/IndexOutOfBoundsException" = true ∧ (∀ n ∈ ["java/lang/RuntimeException", "java/lang/Exception"], Bundle.fit n = true) ∧ (∀ x ∈ vx_atS RX6 115 "java/lang/IndexOutOfBoundsException" ["java/lang/RuntimeException", "java/lang/Exception"], x.before ar U = true) ∧ ∀ x ∈ Cond.classLink RX6 111 "java/lang/IndexOutOfBoundsException" :: Cond.initialized "java/lang/IndexOutOfBoundsException" :: vx_atS RX6 115 "java/lang/IndexOutOfBoundsException" ["java/lang/RuntimeException", "java/lang/Exception"], vx_ot x = true :=
  ⟨by decide +kernel, by decide +kernel, vx_hat (B := exB1) (fun w hw => hts w (exSX_in w (at_sub1 w hw))) at_b1 (vx_c (va_Nw.use rfl (hX.1 ("java/lang/IndexOutOfBoundsException", "java/lang/IndexOutOfBoundsException") (by decide +kernel))) (vx_c (va_Nw.use rfl (hX.2.1 ⟨"java/lang/RuntimeException", "<init>", "(Ljava/lang/String;)V"⟩ (by decide +kernel))) (vx_c (va_Nw.use rfl (hX.2.1 ⟨"java/lang/Exception", "<init>", "(Ljava/lang/String;)V"⟩ (by decide +kernel))) (vx_c (va_Nw.use rfl (hX.2.1 ⟨"java/lang/Throwable", "<init>", "(Ljava/lang/String;)V"⟩ (by decide +kernel))) vx_n)))), at_o1⟩
theorem at_2 {A : Nat → Prop} {U : State} {ar : Array Value} (hts : ∀ x ∈ wsAll, x.before ar U = true) (hX : EX A U) : Bundle.fit "java/lang/IllegalArgumentException" = true ∧ (∀ n ∈ ["java/lang/RuntimeException", "java/lang/Exception"], Bundle.fit n = true) ∧ (∀ x ∈ vx_atS RX6 50 "java/lang/IllegalArgumentException" ["java/lang/RuntimeException", "java/lang/Exception"], x.before ar U = true) ∧ ∀ x ∈ Cond.classLink RX6 46 "java/lang/IllegalArgumentException" :: Cond.initialized "java/lang/IllegalArgumentException" :: vx_atS RX6 50 "java/lang/IllegalArgumentException" ["java/lang/RuntimeException", "java/lang/Exception"], vx_ot x = true :=
  ⟨by decide +kernel, by decide +kernel, vx_hat (B := exB2) (fun w hw => hts w (exSX_in w (at_sub2 w hw))) at_b2 (vx_c (va_Nw.use rfl (hX.1 ("java/lang/IllegalArgumentException", "java/lang/IllegalArgumentException") (by decide +kernel))) (vx_c (va_Nw.use rfl (hX.2.1 ⟨"java/lang/RuntimeException", "<init>", "(Ljava/lang/String;)V"⟩ (by decide +kernel))) (vx_c (va_Nw.use rfl (hX.2.1 ⟨"java/lang/Exception", "<init>", "(Ljava/lang/String;)V"⟩ (by decide +kernel))) (vx_c (va_Nw.use rfl (hX.2.1 ⟨"java/lang/Throwable", "<init>", "(Ljava/lang/String;)V"⟩ (by decide +kernel))) vx_n)))), at_o2⟩
theorem at_3 {A : Nat → Prop} {U : State} {ar : Array Value} (hts : ∀ x ∈ wsAll, x.before ar U = true) (hX : EX A U) : Bundle.fit "java/lang/IllegalStateException" = true ∧ (∀ n ∈ ["java/lang/RuntimeException", "java/lang/Exception"], Bundle.fit n = true) ∧ (∀ x ∈ vx_atS RX6 101 "java/lang/IllegalStateException" ["java/lang/RuntimeException", "java/lang/Exception"], x.before ar U = true) ∧ ∀ x ∈ Cond.classLink RX6 97 "java/lang/IllegalStateException" :: Cond.initialized "java/lang/IllegalStateException" :: vx_atS RX6 101 "java/lang/IllegalStateException" ["java/lang/RuntimeException", "java/lang/Exception"], vx_ot x = true :=
  ⟨by decide +kernel, by decide +kernel, vx_hat (B := exB3) (fun w hw => hts w (exSX_in w (at_sub3 w hw))) at_b3 (vx_c (va_Nw.use rfl (hX.1 ("java/lang/IllegalStateException", "java/lang/IllegalStateException") (by decide +kernel))) (vx_c (va_Nw.use rfl (hX.2.1 ⟨"java/lang/RuntimeException", "<init>", "(Ljava/lang/String;)V"⟩ (by decide +kernel))) (vx_c (va_Nw.use rfl (hX.2.1 ⟨"java/lang/Exception", "<init>", "(Ljava/lang/String;)V"⟩ (by decide +kernel))) (vx_c (va_Nw.use rfl (hX.2.1 ⟨"java/lang/Throwable", "<init>", "(Ljava/lang/String;)V"⟩ (by decide +kernel))) vx_n)))), at_o3⟩
theorem at_4 {A : Nat → Prop} {U : State} {ar : Array Value} (hts : ∀ x ∈ wsAll, x.before ar U = true) (hX : EX A U) : Bundle.fit "java/util/NoSuchElementException" = true ∧ (∀ n ∈ ["java/lang/RuntimeException", "java/lang/Exception"], Bundle.fit n = true) ∧ (∀ x ∈ xs_at RX6 176 "java/util/NoSuchElementException" 13 prog_19_method_4_code "java/lang/RuntimeException" ["java/lang/Exception"], x.before ar U = true) ∧ ∀ x ∈ Cond.classLink RX6 172 "java/util/NoSuchElementException" :: Cond.initialized "java/util/NoSuchElementException" :: xs_at RX6 176 "java/util/NoSuchElementException" 13 prog_19_method_4_code "java/lang/RuntimeException" ["java/lang/Exception"], vx_ot x = true :=
  ⟨by decide +kernel, by decide +kernel, vx_hat (B := exB4) (fun w hw => hts w (exSX_in w (at_sub4 w hw))) at_b4 (vx_c (va_Nw.use rfl (hX.1 ("java/util/NoSuchElementException", "java/util/NoSuchElementException") (by decide +kernel))) (vx_c (va_Nw.use rfl (hX.2.1 ⟨"java/lang/RuntimeException", "<init>", "(Ljava/lang/String;)V"⟩ (by decide +kernel))) (vx_c (va_Nw.use rfl (hX.2.1 ⟨"java/lang/Exception", "<init>", "(Ljava/lang/String;)V"⟩ (by decide +kernel))) (vx_c (va_Nw.use rfl (hX.2.1 ⟨"java/lang/Throwable", "<init>", "(Ljava/lang/String;)V"⟩ (by decide +kernel))) vx_n)))), at_o4⟩
theorem th_p {α : Type} {e9 : Nat} {r : Nat ⊕ α} (h : some (Sum.inl e9 : Nat ⊕ α) = some r) : thr r = some e9 := by cases h; rfl
theorem th_i {α β : Type} {e9 : Nat} {r : Nat ⊕ α} {S S1 : β} (h : some ((Sum.inl e9 : Nat ⊕ α), S) = some (r, S1)) : thr r = some e9 ∧ S = S1 := by cases h; exact ⟨rfl, rfl⟩
theorem el_l {α R : Type} {q : Nat ⊕ α} {kt : Nat → Option R} {k : α → Option R} {r : R} {e9 : Nat} (hv : q = .inl e9) (hf : q.elim kt k = some r) : kt e9 = some r := by subst hv; exact hf
theorem el_r {α R : Type} {q : Nat ⊕ α} {kt : Nat → Option R} {k : α → Option R} {r : R} {v : α} (hv : q = .inr v) (hf : q.elim kt k = some r) : k v = some r := by subst hv; exact hf
theorem nsee_0 : decode prog_19_method_4_code 0 = .ok (.aload_n 0, 1) := by decide +kernel
theorem nsee_1 : decode prog_19_method_4_code 1 = .ok (.aload_n 1, 1) := by decide +kernel
theorem nsee_2 : decode prog_19_method_4_code 2 = .ok (.invokespecial 13, 3) := by decide +kernel
theorem nsee_5 : decode prog_19_method_4_code 5 = .ok (.return_, 1) := by decide +kernel
theorem g_aald {p : Program} {l : Launch} {e : Env} {R : Room} {s : State} {m : MethodId} {args : Array Value} {below : List Frame} {meth : Method} {c : Code} {H : Heap} {locs : List Loc} {cells slots : Nat} {Q : State → Prop} {cc : ByteArray} {pc : Nat} {ls : Array Slot} {rest : List Value} {D : va_G} {cI cO : ClassId} {b : Nat} {S : St} (hx : p.tables.exec = Jvm.exec) (hb : c.code = cc) (hK : va_K D vwCl (tyC cI cO) s) (hP : va_P D vwCl (wC cI cO b S) H) {i : Int32} (hin : vp_in i 4) (hdg : decode cc pc = .ok (.aaload, 1))
    (kk : W p l e R s m args below meth c H locs cells slots Q (F0 m (pc + 1) ls (.ref (b + oS i.toNatClampNeg) :: rest))) : W p l e R s m args below meth c H locs cells slots Q (F0 m pc ls (.int i :: .ref (b + 20) :: rest)) :=
  va_aldq hx hb hK hP 20 1 wC_AA rfl hin hdg kk
