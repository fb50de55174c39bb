/-! ROWS OF THE LAW'S BODY: class at b, model at bm, the long at o; what a call leaves alone -/
def fr1 (A : Nat → Prop) (H H1 : Heap) : Prop := ∀ q : Nat, q < H.size → ¬ A q → H1[q]? = H[q]?
theorem wk_kept {D : va_G} {A B : Nat → Prop} {ws : va_W} {H H1 : Heap} (h : va_P D vwCl ws H) (hD : va_D B ws) (hd : ∀ q, B q → ¬ A q) (hf : fr1 A H H1) : va_P D vwCl ws H1 := h.kept (fun k q hq => hf q.1 (h k q hq).lt (hd _ (hD.2 k q hq)))
theorem oW_D {cJ : ClassId} {o : Nat} {fl : Nat → Int64} : va_D (fun q => q = o) (oW cJ o fl) := by
  have key : ∀ (k : Nat) (q : Nat × va_E), (oW cJ o fl)[k]? = some q → k = 0 ∧ q.1 = o := by
    intro k q h
    cases k with
    | zero => injection h with h; exact ⟨rfl, by rw [← h]⟩
    | succ k => cases h
  exact ⟨fun i j p q hi hj _ => by rw [(key i p hi).1, (key j q hj).1], fun k q h => (key k q h).2⟩
section LB
variable {p : Program} {l : Launch} {e : Env} {R : Room} {s : State} {m : MethodId} {args : Array Value} {below : List Frame} {meth : Method} {c : Code} {H H0 : Heap} {locs : List Loc} {cells slots : Nat} {Q : State → Prop} {cc : ByteArray} {pc nL : Nat} {ls : Array Slot} {rest st0 : List Value} {own : String} {D : va_G} {tys : List (ClassId × FieldType)} {w : St → va_W} {A A0 : Nat → Prop} {S S1 : St} {hh : Cond}
theorem w_calli (F : CallFix p m c cc nL s args (hh :: wsAll) own) (hK : va_K D vwCl tys s) (hP : va_P D vwCl (w S) H) (hS : va_S A0 H0 H locs) (hA : ∀ q, A q → A0 q) {y : MethodName} {bytes : ByteArray} {maxL n index q0 ci a : Nat} {ret : Option FieldType} {rm : Room} {fs : List Value} {C : String} {T : u_T} {N : Nat} {lv : List (Nat × Value)} {r : Int32} (As : List Value)
    (hM : Met l y (Cond.code y bytes maxL ret :: wsAll) rm (PX D w tys S (.ref a :: As)) (Qi D w tys A r S1) 0 0 A)
    (h1 : Cond.methodLink own index y ∈ wsAll) (h2 : Cond.instanceMethod y ∈ wsAll) (h3 : Cond.selects C y y ∈ wsAll) (h4 : Cond.initialized C ∈ wsAll) (h5 : Cond.code y bytes maxL ret ∈ wsAll)
    (he : (w S)[q0]? = some (a, .inr (ci, fs))) (hc : vwCl[ci]? = some (C, T, N)) (hd : y.cls = C ∧ y.cls ≠ "java/lang/invoke/MethodHandle" ∧ y.cls ≠ "java/lang/invoke/VarHandle" ∧ (parseMethodDescriptor y.desc).map (fun d => d.parameters.length) = some n) (hrm : rm.cells = 0) (hrm2 : rm.slots = 0) (hR : rm.frames + 1 ≤ R.frames ∧ 8 + (maxL + 11) + rm.locals ≤ R.locals) (hn : As.length = n) (hl : lv_has ls nL lv) (hst : st0 = As.reverse ++ .ref a :: rest) (hrest : (rest.map fun v => v.category).sum ≤ 8) (hdg : decode cc pc = .ok (.invokevirtual index, 3)) (hroom : cells ≤ R.cells ∧ slots ≤ R.slots)
    (kk : ∀ (H1 : Heap) (locs1 : List Loc), va_P D vwCl (w S1) H1 → fr1 A H H1 → va_S A0 H0 H1 locs1 → W p l e R s m args below meth c H1 locs1 cells slots Q (F0 m (pc + 3) ls (.int r :: rest))) : W p l e R s m args below meth c H locs cells slots Q (F0 m pc ls st0) := by
  subst hst
  refine va_calli (va_runV (As := As) (rest := rest) F hM (cwV n F.2.2.2.2 (gAllV h1 h2 h3 h4 h5) rfl hrm hrm2 hd hR) (g_pre hK hP he hc) rfl hn hl.1 rfl (lv_room hrest) hdg hroom) hS (fun q _ h => hA q h) (fun q h => hA q h) (fun r' u t H1 locs1 ht hvm hw hB hz1 hk1 hS1 => ?_)
  obtain ⟨rfl, rfl⟩ := hw
  subst ht
  exact kk _ locs1 hB.1 hk1 hS1
theorem w_callv (F : CallFix p m c cc nL s args (hh :: wsAll) own) (hK : va_K D vwCl tys s) (hP : va_P D vwCl (w S) H) (hS : va_S A0 H0 H locs) (hA : ∀ q, A q → A0 q) {y : MethodName} {bytes : ByteArray} {maxL n index q0 ci a : Nat} {ret : Option FieldType} {rm : Room} {fs : List Value} {C : String} {T : u_T} {N : Nat} {lv : List (Nat × Value)} (As : List Value)
    (hM : Met l y (Cond.code y bytes maxL ret :: wsAll) rm (PX D w tys S (.ref a :: As)) (Qv D w tys A S1) 0 0 A)
    (h1 : Cond.methodLink own index y ∈ wsAll) (h2 : Cond.instanceMethod y ∈ wsAll) (h3 : Cond.selects C y y ∈ wsAll) (h4 : Cond.initialized C ∈ wsAll) (h5 : Cond.code y bytes maxL ret ∈ wsAll)
    (he : (w S)[q0]? = some (a, .inr (ci, fs))) (hc : vwCl[ci]? = some (C, T, N)) (hd : y.cls = C ∧ y.cls ≠ "java/lang/invoke/MethodHandle" ∧ y.cls ≠ "java/lang/invoke/VarHandle" ∧ (parseMethodDescriptor y.desc).map (fun d => d.parameters.length) = some n) (hrm : rm.cells = 0) (hrm2 : rm.slots = 0) (hR : rm.frames + 1 ≤ R.frames ∧ 8 + (maxL + 11) + rm.locals ≤ R.locals) (hn : As.length = n) (hl : lv_has ls nL lv) (hst : st0 = As.reverse ++ .ref a :: rest) (hrest : (rest.map fun v => v.category).sum ≤ 8) (hdg : decode cc pc = .ok (.invokevirtual index, 3)) (hroom : cells ≤ R.cells ∧ slots ≤ R.slots)
    (kk : ∀ (H1 : Heap) (locs1 : List Loc), va_P D vwCl (w S1) H1 → fr1 A H H1 → va_S A0 H0 H1 locs1 → W p l e R s m args below meth c H1 locs1 cells slots Q (F0 m (pc + 3) ls rest)) : W p l e R s m args below meth c H locs cells slots Q (F0 m pc ls st0) := by
  subst hst
  refine va_callv (va_runV (As := As) (rest := rest) F hM (cwV n F.2.2.2.2 (gAllV h1 h2 h3 h4 h5) rfl hrm hrm2 hd hR) (g_pre hK hP he hc) rfl hn hl.1 rfl (lv_room hrest) hdg hroom) hS (fun q _ h => hA q h) (fun q h => hA q h) (fun u t H1 locs1 ht hvm hw hB hz1 hk1 hS1 => ?_)
  subst hw
  subst ht
  exact kk _ locs1 hB.1 hk1 hS1
/-- a method of the law that may catch -/
theorem w_callL (F : CallFix p m c cc nL s args (hh :: wsAll) own) {cI cO cJ : ClassId} {b o : Nat} {fl : Nat → Int64} {u1 : St × (Nat → Int64)} (hK : va_K D vwCl (tyC cI cO) s) (hKJ : va_K D vwCl [(cJ, .long)] s) (hP : va_P D vwCl (wC cI cO b S) H) (hO : va_P D vwCl (oW cJ o fl) H) (hS : va_S A0 s.heap H locs) (hX : EX A0 s) (hN : NC s) (hA : ∀ q, AL b o q → A0 q) (hA0 : ∀ q, q < s.heap.size → ¬ A0 q) {y : MethodName} {bytes : ByteArray} {maxL n index mc ms : Nat} {ret : Option FieldType} {rm : Room} {lv : List (Nat × Value)} {r : Int32} {ht9 : List (Nat × Nat × Nat × Nat)} (As : List Value)
    (hM : vx_Met l y (Cond.codeWith y bytes maxL ret ht9 :: wsAll) rm (PLw D cI cO cJ b o (S, fl) As) (QLw D cI cO cJ b o r u1) (XLw b o) mc ms (AL b o))
    (h1 : Cond.methodLink own index y ∈ wsAll) (h2 : Cond.static y ∈ wsAll) (h4 : Cond.initialized y.cls ∈ wsAll) (h5 : Cond.codeWith y bytes maxL ret ht9 ∈ wsAll)
    (hd : y.cls ≠ "java/lang/invoke/MethodHandle" ∧ y.cls ≠ "java/lang/invoke/VarHandle" ∧ (parseMethodDescriptor y.desc).map (fun d => d.parameters.length) = some n) (hrm : rm.cells = mc) (hrm2 : rm.slots = ms) (hR : rm.frames + 1 ≤ R.frames ∧ 8 + (maxL + 11) + rm.locals ≤ R.locals) (hn : As.length = n) (hl : lv_has ls nL lv) (hst : st0 = As.reverse ++ rest) (hrest : (rest.map fun v => v.category).sum ≤ 8) (hdg : decode cc pc = .ok (.invokestatic index, 3)) (hroom : cells + mc ≤ R.cells ∧ slots + ms ≤ R.slots)
    (kk : ∀ (H1 : Heap) (locs1 : List Loc), va_P D vwCl (wC cI cO b u1.1) H1 → va_P D vwCl (oW cJ o u1.2) H1 → fr1 (AL b o) H H1 → va_S A0 s.heap H1 locs1 → W p l e R s m args below meth c H1 locs1 (cells + mc) (slots + ms) Q (F0 m (pc + 3) ls (.int r :: rest))) : W p l e R s m args below meth c H locs cells slots Q (F0 m pc ls st0) := by
  subst hst
  have k : ∀ {w : Cond}, w ∈ wsAll → w ∈ hh :: wsAll ∧ ((w.onTables && w.keeps) = true ∨ ∃ ty, w = .arrayClass ty) := fun hw => ⟨List.mem_cons_of_mem _ hw, good_of_word (List.mem_filter.mp hw).2⟩
  have hT : GoodIn (hh :: wsAll) (va_wsS own index y (Cond.codeWith y bytes maxL ret ht9 :: wsAll)) := by
    intro x hx
    rcases List.mem_append.mp hx with hx | hx
    · simp only [List.mem_cons, List.not_mem_nil, or_false] at hx
      rcases hx with rfl | rfl | rfl
      · exact k h1
      · exact k h2
      · exact k h4
    · exact gAll h5 x hx
  refine vx_calli (A0 := A0) (H0 := s.heap) (vx_runSX (As := As) (rest := rest) F hM (vx_cwSW n F.2.2.2.2 hT rfl hrm hrm2 hd hR) ⟨PLw_blind, fun U hU hW => ⟨rfl, ⟨⟨by rw [hU]; exact hP, by rw [hU]; exact hO⟩, va_K.moved hW.alike hK, va_K.moved hW.alike hKJ⟩, EX_moved hW (fun a ha _ => by rw [hU]; exact hS.2.1 a ha (hA0 a ha)) (EX_narrow (fun q hq => hA q (Or.inl hq)) hX), NC_moved hW.alike hN⟩⟩ rfl hn hl.1 rfl (lv_room hrest) hdg hroom) hS (fun q _ h => hA q h) (fun q h => hA q h) (fun q _ h => hA q h) (fun E ce q9 u t H1 locs1 ht hvm hpx hB hz hk hS1 hce hcv hcl => hpx.elim) (fun r' u t H1 locs1 ht hvm hw hB hz1 hk1 hS1 => ?_)
  obtain ⟨rfl, rfl⟩ := hw
  subst ht
  exact kk _ locs1 hB.1.1 hB.1.2 hk1 hS1
end LB
/-! which exceptions a call may throw -/
theorem pif_or {R : Type} {c : Prop} {a b : R} {P : R → Prop} (h1 : P a) (h2 : P b) : P (pif c a b) := by
  by_cases h : c
  · rw [pif_pos h]; exact h1
  · rw [pif_neg h]; exact h2
def cod (L : List Nat) (q : An) : Prop := ∀ e, q.1 = .inl e → e ∈ L
theorem cod_l {L : List Nat} {e : Nat} {H : Hs} (h : e ∈ L) : cod L (.inl e, H) := fun e' h' => by injection h' with h'; rw [← h']; exact h
theorem cod_r {L : List Nat} {v : Int32} {H : Hs} : cod L (.inr v, H) := fun e' h' => nomatch h'
section COD
variable {H : Hs} {x1 x2 x3 x4 : Int32}
theorem k_ins : cod [1, 2, 3] (aIns H x1 x2 x3 x4) := pif_or (cod_l (by decide)) (pif_or (cod_l (by decide)) (pif_or (cod_l (by decide)) (pif_or (cod_l (by decide)) cod_r)))
theorem k_rem : cod [1, 4, 3] (aRem H x1 x2) := pif_or (cod_l (by decide)) (pif_or (cod_l (by decide)) (pif_or (cod_l (by decide)) (pif_or (cod_l (by decide)) cod_r)))
theorem k_not : cod [1, 2, 4, 3] (aNot H x1 x2 x3) := pif_or (cod_l (by decide)) (pif_or (cod_l (by decide)) (pif_or (cod_l (by decide)) (pif_or (cod_l (by decide)) (pif_or (cod_l (by decide)) cod_r))))
theorem k_mov : cod [1, 4, 3] (aMov H x1 x2 x3) := pif_or (cod_l (by decide)) (pif_or (cod_l (by decide)) (pif_or (cod_l (by decide)) (pif_or (cod_l (by decide)) (pif_or (cod_l (by decide)) cod_r))))
theorem k_syn : cod [1] (aSyn H x1 x2) := pif_or (cod_l (by decide)) cod_r
theorem k_pri : cod [3] (aPri H) := pif_or cod_r (cod_l (by decide))
theorem k_dif : cod [1] (aDif H x1) := pif_or (cod_l (by decide)) cod_r
theorem k_lin : cod [1] (aLin H x1) := pif_or (cod_l (by decide)) cod_r
theorem k_lat : cod [1, 2] (aLat H x1 x2 x3) := pif_or (cod_l (by decide)) (pif_or (cod_l (by decide)) (pif_or (cod_l (by decide)) cod_r))
theorem k_ane : cod [1] (aAne H x1 x2) := pif_or (cod_l (by decide)) (pif_or (cod_l (by decide)) cod_r)
theorem k_nat : cod [1] (aNat H x1 x2) := pif_or (cod_l (by decide)) (pif_or (cod_l (by decide)) cod_r)
theorem k_pag : cod [1] (aPag H x1) := pif_or (cod_l (by decide)) cod_r
theorem k_ahe : cod [1] (aAhe H x1 x2) := pif_or (cod_l (by decide)) (pif_or (cod_l (by decide)) cod_r)
theorem k_kno : cod [1] (aKno H x1) := pif_or (cod_l (by decide)) cod_r
end COD
