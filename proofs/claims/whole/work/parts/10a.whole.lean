/-! THE CLAIM OUT OF ONE WALK OF THE LAW'S BODY. Your part is whole_start (and what it stands on); all else here is the same for every law, but numbers. -/
def R_law : String := "MergeparlourLaw"
def lw_P (b : Addr) (xs : List Int32) (args : Array Value) (s : State) : Prop := args = #[.ref b] ∧ s.IntsAt b xs ∧ xs.length ≤ 2560 ∧ (Jvm.Cond.and given_1 narrow_1).before args s = true
def lw_Q (_ : Array Value) (s : State) (o : Outcome) (t : State) : Prop := o = .returned (some (.int 1)) ∧ Framed s o t [] 601024 7293034
def lw_Z (below : List Frame) (a : Array Value) (s : State) : State → Prop := fun t => ∃ o, t.status = .running ∧ Ended t below o ∧ lw_Q a s o t
/-- the law's own end, with 1 on the stack, nothing written that was there before, its room as the claim has it -/
theorem lw_ret {p : Program} {l : Launch} {e : Env} {s : State} {m : MethodId} {below : List Frame} {meth : Method} {c : Code} {b : Nat} (hx : p.tables.exec = Jvm.exec) (hb : c.code = code) (hr : meth.sig.returnType = ret) (hlocks : meth.locks = false) {pc : Nat} {H : Heap} {ls : Array Slot} (hdg : decode code pc = .ok (.ireturn, 1)) : W p l e room_1 s m #[Value.ref b] below meth c H [] 601024 7293034 (lw_Z below #[Value.ref b] s) (F0 m pc ls [.int 1]) := by
  intro T hT X
  obtain ⟨fs, hret, hrun, hended, hW, hframe⟩ := X.leave (v := some (.int 1)) (hlocks := hlocks) (fun h => by rw [hr] at h; cases h)
  have hmeth' : T.vm.method? m = some meth := X.method'
  refine ⟨T.setFrames fs, ?_, .returned (some (.int 1)), hrun, hended, rfl, ⟨_, rfl⟩, hW, hframe⟩
  jvm_step X.here [X.here.top, hx, hb, hdg, hmeth', hr, ret, narrow_b1]
  (try refine ⟨rfl, ?_⟩); (try refine ⟨rfl, ?_⟩)
  first | (intro acts; rw [hret _ acts rfl rfl rfl]) | rw [hret _ _ rfl rfl rfl]
  exact Steps.refl _
/-- what holds at the law's entry: the machine, the code, the tables' words (any of lw_tbl by 'hts w (by decide +kernel)'), the script of L ints xs at the cell b, what the Statement gives of the start (any of its parts by flat_of_before) -/
def lw_At (p : Program) (s : State) (m : MethodId) (meth : Method) (c : Code) (b L : Nat) (xs : Nat → Int32) : Prop :=
  p.tables.exec = Jvm.exec ∧ c.code = code ∧ meth.sig.returnType = ret ∧ c.maxLocals = 7 ∧ s.vm.findClass R_law = some m.cls ∧ (∀ w ∈ lw_tbl, w.before #[Value.ref b] s = true) ∧ va_X b L xs s s.heap ∧ b < s.heap.size ∧ meth.locks = false ∧ (Jvm.Cond.and given_1 narrow_1).before #[Value.ref b] s = true
section ZX
variable {p : Program} {l : Launch} {e : Env} {R : Room} {s : State} {m : MethodId} {args : Array Value} {below : List Frame} {meth : Method} {c : Code} {H H0 : Heap} {locs : List Loc} {cells slots : Nat} {Q : State → Prop} {cc : ByteArray} {pc nL : Nat} {ls : Array Slot} {rest st0 : List Value} {own : String} {D : va_G} {tys : List (ClassId × FieldType)} {hh : Cond} {b n : Nat} {f : Nat → va_E}
theorem z_callY (F : CallFix p m c cc nL s args (hh :: wsAll) own) (hXF : XF s) (hK : va_K D vwCl tys s) (hP : va_P D vwCl (pW b f n) H) (hS : va_S (AP b) H0 H locs) (h0 : 0 < n) (hsz : s.heap.size + cells = b + n) {y : MethodName} {bytes : ByteArray} {maxL na index n2 mc ms k : Nat} {f2 : Nat → va_E} {rm : Room} {lv : List (Nat × Value)} (As : List Value)
    (hM : Met l y (Cond.code y bytes maxL none :: wsAll) rm (PY D tys b f n XF (.ref (b + k) :: As)) (QZ D tys b f2 n2) mc ms (AP b))
    (h1 : Cond.methodLink own index y ∈ wsAll) (h2 : Cond.instanceMethod y ∈ wsAll) (h4 : Cond.initialized y.cls ∈ wsAll) (h5 : Cond.code y bytes maxL none ∈ wsAll)
    (hd : y.name = "<init>" ∧ y.cls ≠ "java/lang/invoke/MethodHandle" ∧ y.cls ≠ "java/lang/invoke/VarHandle" ∧ (parseMethodDescriptor y.desc).map (fun d => d.parameters.length) = some na) (hrm : rm.cells = mc) (hrm2 : rm.slots = ms) (hR : rm.frames + 1 ≤ R.frames ∧ 8 + (maxL + 11) + rm.locals ≤ R.locals) (hn : As.length = na) (hl : lv_has ls nL lv) (hst : st0 = As.reverse ++ .ref (b + k) :: rest) (hrest : (rest.map fun v => v.category).sum ≤ 8) (hdg : decode cc pc = .ok (.invokespecial index, 3)) (hroom : cells + mc ≤ R.cells ∧ slots + ms ≤ R.slots)
    (kk : ∀ (H1 : Heap) (locs1 : List Loc), va_P D vwCl (pW b f2 n2) H1 → va_S (AP b) H0 H1 locs1 → W p l e R s m args below meth c H1 locs1 (cells + mc) (slots + ms) Q (F0 m (pc + 3) ls rest)) : W p l e R s m args below meth c H locs cells slots Q (F0 m pc ls st0) := by
  subst hst
  refine z_sizeE hP h0 hsz (fun hsE => ?_)
  refine va_callv (va_runI (As := As) (rest := rest) F hM (cwI na F.2.2.2.2 (gAll h5) rfl hrm hrm2 (F.2.2.2.2 _ (List.mem_cons_of_mem _ h4)) (F.2.2.2.2 _ (List.mem_cons_of_mem _ h1)) (F.2.2.2.2 _ (List.mem_cons_of_mem _ h2)) hd.1 hd.2 hR) ⟨fun a U g mk q => ⟨q.1, ⟨q.2.1.1, q.2.1.2.1, va_K.moved (u := U) (U := U.calling g mk a) (Vm.Alike.refl U.vm) q.2.1.2.2⟩, va_Nw.warmM (s := U) (U := U.calling g mk a) (State.WarmedH.refl U) q.2.2.1, va_AO.moved (u := U) (U := U.calling g mk a) (Vm.Alike.refl U.vm) q.2.2.2⟩, fun U hU hW => ⟨rfl, ⟨by rw [hU]; exact hsE, by rw [hU]; exact hP, va_K.moved hW.alike hK⟩, va_Nw.warmM hW hXF.1, va_AO.moved hW.alike hXF.2⟩⟩ rfl hn hl.1 rfl (lv_room hrest) hdg hroom) hS (fun q _ h => h) (fun q h => h) (fun u t H1 locs1 ht hvm hw hB hz1 hk1 hS1 => ?_)
  subst ht
  exact kk _ locs1 hB.1 hS1
theorem z_newl (F : CallFix p m c cc nL s args (hh :: wsAll) own) (hK : va_K D vwCl tys s) (hP : va_P D vwCl (pW b f n) H) (hS : va_S (AP b) H0 H locs) (hb0 : b ≤ H0.size) (hsz : s.heap.size + cells = b + n) {t0 : Nat} {cI : ClassId} (ht : tys[t0]? = some (cI, .long)) {x : Int32} {N : Nat} (hn : ¬ x < 0) (hN : x.toNatClampNeg = N) (hN2 : N ≤ 10000) (hcells : cells + 1 ≤ R.cells) (hslots : slots + N ≤ R.slots) (hdg : decode cc pc = .ok (.newarray .long, 2))
    (kk : ∀ (H1 : Heap), va_P D vwCl (pW b (fu f n (.inl (cI, N, .inr (.inl (fun _ => 0))))) (n + 1)) H1 → va_S (AP b) H0 H1 locs → W p l e R s m args below meth c H1 locs (cells + 1) (slots + N) Q (F0 m (pc + 2) ls (.ref (b + n) :: rest))) : W p l e R s m args below meth c H locs cells slots Q (F0 m pc ls (.int x :: rest)) := by
  refine va_newa (atype := .long) (ty := .long) (a0 := (N, .inr (.inl (fun _ => 0)))) F.1 F.2.1 (F.2.2.2.2 _ (List.mem_cons_of_mem _ wd_985)) rfl hK hP pW_D hS (fun q hq => Nat.le_trans hb0 hq) (fun _ => rfl) hn hN (by show N * 8 ≤ _; omega) hcells hslots hdg (fun q cA H1 h0 h1 h2 h3 => ?_)
  refine z_size (fun h4 => ?_)
  have hq := z_place h1 h2 (by omega)
  have hc1 := (h0.2 tys.length (cA, .long) (by simp)).2
  have hc2 := (hK.2 t0 (cI, .long) ht).2
  have hc : cA = cI := by
    unfold va_RA at hc1 hc2
    exact Option.some.inj (hc1.symm.trans hc2)
  subst hq
  subst hc
  rw [pW_snoc] at h1
  exact kk H1 h1 h3
end ZX
theorem k_prim {s : State} {args : Array Value} {ty : FieldType} (h : (Cond.arrayClass ty).before args s = true) (hp : ∀ cA, s.vm.findClass ("[" ++ ty.toString) = some cA → va_RA s cA ty) : ∃ cA : ClassId, ArrOfT s cA ty ∧ va_RA s cA ty := by
  obtain ⟨c, k, comp, h1, h2, h3⟩ := Cond.arrayClass_spec h
  exact ⟨c, fun n z => ⟨fun k h => (by cases h), k, h2, comp, h3⟩, hp c h1⟩
theorem k_site {s : State} {args : Array Value} (h : (Cond.arrayOver (.object "Mergeparlour$Site")).before args s = true) : ∃ cA : ClassId, ArrOfT s cA (.object "Mergeparlour$Site") ∧ va_RA s cA (.object "Mergeparlour$Site") := by
  obtain ⟨comp, c, k, h1, h2, h3, h4, h5⟩ := Cond.arrayOver_spec h
  exact ⟨c, fun n z => ⟨fun k h => (by cases h), k, h3, comp, h4⟩, k, comp, h3, h4, h1, h5⟩
/-- class and model side by side -/
def gAll2 (cI cO cZ : ClassId) (b : Nat) : Nat → va_E := fun i => if i < 136 then gC cI cO b i else cellM cI cZ (b + 136) S0M (i - 136)
set_option maxHeartbeats 8000000 in
set_option maxRecDepth 100000 in
/-- THE LAW, from its entry -/
theorem whole_start {p : Program} {e : Env} {s : State} {m : MethodId} {below : List Frame} {meth : Method} {c : Code} (l : Launch) (hflags : l.flags = flags0) {b L : Nat} {xs : Nat → Int32} (hL : L ≤ 2560) (C0 : lw_At p s m meth c b L xs) : W p l e room_1 s m #[Value.ref b] below meth c s.heap [] 0 0 (lw_Z below #[Value.ref b] s) (entryFrame m ([Value.ref b] : List Value).toArray 7) := by
  obtain ⟨hx, hb, hr, hml, hown, hts, hX, hbl, hlocks, hgv⟩ := id C0
  have hfl : l.stackTraces = false := by
    unfold Launch.stackTraces
    rw [hflags]
    decide +kernel
  have F : CallFix p m c code 7 s #[Value.ref b] (Cond.initialized "MergeparlourLaw" :: wsAll) RL := ⟨hx, hb, hml, hown, fun w hw => (List.mem_cons.mp hw).elim (fun h => by rw [h]; exact hts _ (wsAll_in _ wd_0)) (fun h => hts w (wsAll_in w h))⟩
  have tA : ∀ (i : Nat) (w : Cond), tables_1[i]? = some w → w.before #[Value.ref b] s = true := fun i w h => hts w (List.mem_append_right _ (List.mem_of_getElem? h))
  obtain ⟨c0, iS0, hKn0⟩ := u_known (ws := lw_tbl) (C := RX0) (T := TX0) (N := 6) (n := 6) hts (fun w h => wsAll_in w (inA0 w h)) (hts _ (wsAll_in _ wd_116))
  obtain ⟨c1, iS1, hKn1⟩ := u_known (ws := lw_tbl) (C := RX1) (T := TX1) (N := 9) (n := 9) hts (fun w h => wsAll_in w (inA1 w h)) (hts _ (wsAll_in _ wd_26))
  obtain ⟨c2, iS2, hKn2⟩ := u_known (ws := lw_tbl) (C := RX2) (T := TX2) (N := 2) (n := 2) hts (fun w h => wsAll_in w (inA2 w h)) (hts _ (wsAll_in _ wd_32))
  obtain ⟨c3, iS3, hKn3⟩ := u_known (ws := lw_tbl) (C := RX3) (T := TX3) (N := 4) (n := 4) hts (fun w h => wsAll_in w (inA3 w h)) (hts _ (wsAll_in _ wd_164))
  obtain ⟨c4, iS4, hKn4⟩ := u_known (ws := lw_tbl) (C := RX4) (T := TX4) (N := 6) (n := 6) hts (fun w h => wsAll_in w (inA4 w h)) (hts _ (wsAll_in _ wd_78))
  obtain ⟨c5, iS5, hKn5⟩ := u_known (ws := lw_tbl) (C := RX5) (T := TX5) (N := 7) (n := 7) hts (fun w h => wsAll_in w (inA5 w h)) (hts _ (wsAll_in _ wd_86))
  obtain ⟨c6, iS6, hKn6⟩ := u_known (ws := lw_tbl) (C := RX6) (T := TX6) (N := 3) (n := 3) hts (fun w h => wsAll_in w (inA6 w h)) (hts _ (wsAll_in _ wd_18))
  obtain ⟨c7, iS7, hKn7⟩ := u_known (ws := lw_tbl) (C := RX7) (T := TX7) (N := 31) (n := 31) hts (fun w h => wsAll_in w (inA7 w h)) (hts _ (wsAll_in _ wd_747))
  obtain ⟨D, hKc⟩ : ∃ D : va_G, ∀ (k : Nat) (q : vw_C), vwCl[k]? = some q → u_Kn s q.1 q.2.1 q.2.2 (D.1 k) (D.2 k) := by
    refine ⟨(fun k => [c0, c1, c2, c3, c4, c5, c6, c7].getD k c0, fun k => [iS0, iS1, iS2, iS3, iS4, iS5, iS6, iS7].getD k iS0), ?_⟩
    intro k q hq
    match k, hq with
    | 0, hq => cases hq; exact hKn0
    | 1, hq => cases hq; exact hKn1
    | 2, hq => cases hq; exact hKn2
    | 3, hq => cases hq; exact hKn3
    | 4, hq => cases hq; exact hKn4
    | 5, hq => cases hq; exact hKn5
    | 6, hq => cases hq; exact hKn6
    | 7, hq => cases hq; exact hKn7
    | k + 8, hq => simp [vwCl] at hq
  obtain ⟨cI, aI, rI⟩ := k_prim (ty := .int) (hts _ (wsAll_in _ wd_47)) (fun _ h => h)
  obtain ⟨cZ, aZ, rZ⟩ := k_prim (ty := .boolean) (hts _ (wsAll_in _ wd_846)) (fun _ h => h)
  obtain ⟨cJ, aJ, rJ⟩ := k_prim (ty := .long) (hts _ (wsAll_in _ wd_985)) (fun _ h => h)
  have hover := tA 77 (.arrayOver (.object "Mergeparlour$Site")) (by decide +kernel)
  obtain ⟨cO, aO, rO⟩ := k_site hover
  have hnest := tA 27 nestL (by decide +kernel)
  have hXF : XF s := ⟨va_Nw.of rfl hnest, va_AO.of hover⟩
  have hK : va_K D vwCl (tyC cI cO) s := ⟨hKc, fun k q h => by
    match k, h with
    | 0, h => cases h; exact ⟨aI, rI⟩
    | 1, h => cases h; exact ⟨aO, rO⟩⟩
  have hKM : va_K D vwCl (tyM cI cZ) s := ⟨hKc, fun k q h => by
    match k, h with
    | 0, h => cases h; exact ⟨aI, rI⟩
    | 1, h => cases h; exact ⟨aZ, rZ⟩⟩
  have hKJ : va_K D vwCl [(cJ, .long)] s := ⟨hKc, fun k q h => by
    match k, h with
    | 0, h => cases h; exact ⟨aJ, rJ⟩⟩
  have hS : va_S (AP s.heap.size) s.heap s.heap [] := va_S.rf
  have hl := lv_entry ([.ref b]) (n := 7) (Nat.le_of_ble_eq_true rfl)
  rw [lg_entry_eq]
  generalize (lg_sl ([.ref b]) ++ List.replicate (7 - (lg_sl ([.ref b])).length) Slot.unset).toArray = ls at hl ⊢
  have hl : lv_has ls 7 [(0, .ref b)] := hl
  obtain ⟨f, hf⟩ : ∃ f : Nat → va_E, f = fun _ => .inr (0, []) := ⟨_, rfl⟩
  have hP : va_P D vwCl (pW s.heap.size f 0) s.heap := fun k q h => by simp [pW] at h
  refine z_newd (ci := 6) F hK hP hS (Nat.le_refl _) rfl inA6 tyX6 tyX6_ok wd_17 wd_18 wd_1 rfl dfX6 (Nat.le_of_ble_eq_true rfl) (Nat.le_of_ble_eq_true rfl) dL_law_0 dL_law_3 (fun H hP hS => ?_)
  refine z_callY (na := 0) (k := 0) F hXF hK hP hS (by omega) (by omega) [] (c_X6_init l D cI cO s.heap.size (fu _ _ _) fu_eq) wd_19 wd_20 wd_1 wd_21 hd_X6_init rfl rfl ⟨Nat.le_of_ble_eq_true rfl, Nat.le_of_ble_eq_true rfl⟩ rfl hl (rest := [.ref (s.heap.size + 0)]) rfl (Nat.le_of_ble_eq_true rfl) dL_law_4 ⟨Nat.le_of_ble_eq_true rfl, Nat.le_of_ble_eq_true rfl⟩ (fun H locs hP hS => ?_)
  refine lv_astore_n (lv' := [(1, .ref (s.heap.size + 0)), (0, .ref b)]) hx hb dL_law_7 rfl hl (by decide) rfl (fun ls hl => ?_)
  refine z_newd (ci := 7) F hK hP hS (Nat.le_refl _) (by omega) inA7 tyX7 tyX7_ok wd_746 wd_747 wd_9 rfl dfX7 (Nat.le_of_ble_eq_true rfl) (Nat.le_of_ble_eq_true rfl) dL_law_8 dL_law_11 (fun H hP hS => ?_)
  have hPm : va_P D vwCl (pW (s.heap.size + 136) (fun _ => .inr (7, [.int 0, .int 0, .null, .null, .null, .null, .null, .int 0, .null, .null, .null, .null, .int 0, .null, .null, .null, .null, .null, .null, .int 0, .null, .null, .null, .int 0, .null, .null, .int 0, .null, .null, .null, .int 0])) 1) H := by
    intro k q h
    obtain ⟨hk, rfl⟩ := pW_some h
    have hk0 : k = 0 := by omega
    subst hk0
    have := hP 136 _ (pW_at (by decide))
    rw [fu_eq] at this
    exact this
  have hPc : va_P D vwCl (wC cI cO s.heap.size S0C) H := by
    intro k q h
    have hk : k < 136 := by rw [← wC_len (cI := cI) (cO := cO) (b := s.heap.size) (S := S0C)]; exact (List.getElem?_eq_some_iff.mp h).1
    rw [wC_at hk] at h
    injection h with h
    have := hP k _ (pW_at (by omega))
    rw [fu_ne (by omega)] at this
    rw [← h]
    exact this
  refine z_size (fun hs1 => ?_)
  have hs2 : H.size = s.heap.size + 136 + 1 := by
    have h1 := (hPm 0 _ (pW_at (by decide))).lt
    have h1 : s.heap.size + 136 + 0 < H.size := h1
    omega
  refine va_callv (A0 := AP s.heap.size) (H0 := s.heap) (va_runI (As := []) (rest := [.ref (s.heap.size + 136)]) F (c_X7_init l D cI cZ (s.heap.size + 136) (fun _ => .inr (7, [.int 0, .int 0, .null, .null, .null, .null, .null, .int 0, .null, .null, .null, .null, .int 0, .null, .null, .null, .null, .null, .null, .int 0, .null, .null, .null, .int 0, .null, .null, .int 0, .null, .null, .null, .int 0])) rfl) (cwI 0 F.2.2.2.2 (gAll wd_750) rfl rfl rfl (F.2.2.2.2 _ (List.mem_cons_of_mem _ wd_9)) (F.2.2.2.2 _ (List.mem_cons_of_mem _ wd_748)) (F.2.2.2.2 _ (List.mem_cons_of_mem _ wd_749)) hd_X7_init.1 hd_X7_init.2 ⟨Nat.le_of_ble_eq_true rfl, Nat.le_of_ble_eq_true rfl⟩) ⟨PZ_blind, fun U hU hW => ⟨rfl, by rw [hU]; exact hs2, by rw [hU]; exact hPm, va_K.moved hW.alike hKM⟩⟩ rfl rfl hl.1 rfl (lv_room (Nat.le_of_ble_eq_true rfl)) dL_law_12 ⟨Nat.le_of_ble_eq_true rfl, Nat.le_of_ble_eq_true rfl⟩) hS (fun q _ h => by unfold AP at h ⊢; omega) (fun q h => by unfold AP at h ⊢; omega) (fun u t H1 locs1 ht hvm hw hB hz1 hk1 hS => ?_)
  subst ht
  have hPm := hB.1
  rw [wM_pW] at hPm
  have hPc : va_P D vwCl (wC cI cO s.heap.size S0C) t.heap := wk_kept hPc wC_D (fun q h1 h2 => by unfold AC at h1; unfold AP at h2; omega) hk1
  refine lv_astore_n (lv' := [(2, .ref (s.heap.size + 136 + 0)), (1, .ref (s.heap.size + 0)), (0, .ref b)]) hx hb dL_law_15 rfl hl (by decide) rfl (fun ls hl => ?_)
  refine lv_iconst (v := nI 1) hx hb dL_law_16 (by decide) ?_
  have hP2 : va_P D vwCl (pW s.heap.size (gAll2 cI cO cZ s.heap.size) 160) t.heap := by
    intro k q h
    obtain ⟨hk, rfl⟩ := pW_some h
    unfold gAll2
    by_cases h1 : k < 136
    · rw [if_pos h1]
      exact hPc k _ (wC_at h1)
    · rw [if_neg h1]
      have := hPm (k - 136) _ (wM_at (by omega))
      rw [show s.heap.size + 136 + (k - 136) = s.heap.size + k by omega] at this
      exact this
  refine z_newl (t0 := 0) (N := 1) F hKJ hP2 hS (Nat.le_refl _) (by omega) rfl (nI_pos (by decide)) (nI_clamp (by decide)) (by decide) (Nat.le_of_ble_eq_true rfl) (Nat.le_of_ble_eq_true rfl) dL_law_17 (fun H hP hS => ?_)
  refine lv_astore_n (lv' := [(3, .ref (s.heap.size + 160)), (2, .ref (s.heap.size + 136 + 0)), (1, .ref (s.heap.size + 0)), (0, .ref b)]) hx hb dL_law_19 rfl hl (by decide) rfl (fun ls hl => ?_)
  refine lv_iconst (v := nI 0) hx hb dL_law_20 (by decide) ?_
  refine lv_istore (lv' := ltop s b (5 * 0)) hx hb dL_law_21 hl (by decide) rfl (fun ls hl => ?_)
  have hPc : va_P D vwCl (wC cI cO s.heap.size S0C) H := by
    intro k q h
    have hk : k < 136 := by rw [← wC_len (cI := cI) (cO := cO) (b := s.heap.size) (S := S0C)]; exact (List.getElem?_eq_some_iff.mp h).1
    rw [wC_at hk] at h
    injection h with h
    have := hP k _ (pW_at (by omega))
    rw [fu_ne (by omega)] at this
    unfold gAll2 at this
    rw [if_pos hk] at this
    rw [← h]
    exact this
  have hPm : va_P D vwCl (wM cI cZ (s.heap.size + 136) S0M) H := by
    intro k q h
    have hk : k < 24 := by rw [← wM_len (cI := cI) (cZ := cZ) (b := s.heap.size + 136) (S := S0M)]; exact (List.getElem?_eq_some_iff.mp h).1
    rw [wM_at hk] at h
    injection h with h
    have := hP (k + 136) _ (pW_at (by omega))
    rw [fu_ne (by omega)] at this
    unfold gAll2 at this
    rw [if_neg (by omega), Nat.add_sub_cancel, show s.heap.size + (k + 136) = s.heap.size + 136 + k by omega] at this
    rw [← h]
    exact this
  have hPo : va_P D vwCl (oW cJ (s.heap.size + 160) (fun _ => 0)) H := by
    intro k q h
    have hk : k = 0 := by
      have : k < 1 := (List.getElem?_eq_some_iff.mp h).1
      omega
    subst hk
    injection h with h
    have := hP 160 _ (pW_at (by decide))
    rw [fu_eq] at this
    rw [← h]
    exact this
  have hC : LC p l s m #[Value.ref b] c D cI cO cJ cZ b L xs := ⟨F, hfl, ex_start hts hgv, nc_start hgv, hK, hKJ, hKM, hX, hbl, hL⟩
  refine W.widen (k := 161 + 5 * 0) (n := 11316 + 30 * 0) (Nat.le_of_ble_eq_true rfl) (Nat.le_of_ble_eq_true rfl) ?_
  refine law_loop hC (fun H locs ls cells slots hS h1 h2 => ?_) 513 0 (by omega) (by omega) H _ ls S0C (fun _ => 0) S0M H0s ⟨hPc, hPo, hPm, hS, RC0, RM0⟩ hl
  refine lv_iconst (v := 1) hx hb dL_law_1084 (by decide) ?_
  refine va_forget (fun q hq => hS.2.2 q hq) ?_
  refine W.widen (k := 601024) (n := 7293034) h1 h2 ?_
  exact lw_ret hx hb hr hlocks dL_law_1085
-- ===== YOUR PART ENDS =====
set_option maxHeartbeats 4000000 in
theorem lw_walk (l : Launch) (hflags : l.flags = flags0) (b : Addr) (xs : List Int32) : MetFree l x (headSpec (Jvm.Cond.code x code maxLocals ret :: tables_1) room_1) (lw_P b xs) (fun _ _ _ _ _ => True) lw_Q := by
  refine MetFree.of_bodyS (code := code) (maxLocals := maxLocals) (ret := ret) (by decide) ?_ ?_
  · intro args s m h hn
    obtain ⟨meth, c, h1, h2, h3, h4, h5, h6, -, -⟩ := Cond.code_spec hn (atoms_spec (ws := Jvm.Cond.code x code maxLocals ret :: tables_1) h _ List.mem_cons_self)
    exact ⟨meth, c, h1, h2, h3, h4, h5, h6⟩
  · intro p e s m args below meth c s₁ B hml0 hP _
    obtain ⟨rfl, hx, hbd, hgv⟩ := hP
    obtain ⟨scr, harrAt, hlist, hof, hsmall⟩ := hx
    obtain ⟨hcb, hkn, -, -⟩ := State.arrayAt?_spec harrAt
    have hown : s.vm.findClass R_law = some m.cls := findClass_of_methodNamed B.named
    have hts0 : ∀ c ∈ (Jvm.Cond.code x code maxLocals ret :: tables_1), c.before #[Value.ref b] s = true := atoms_spec (ws := Jvm.Cond.code x code maxLocals ret :: tables_1) B.pre
    have hts : ∀ w ∈ lw_tbl, w.before #[Value.ref b] s = true := k2_hts_sels lw_privs (fun w hw => hts0 w (List.mem_cons_of_mem _ hw)) lw_privs_ok
    have hml : c.maxLocals = 7 := B.maxLocals_eq (hts0 _ List.mem_cons_self)
    have X₀ : Stand p l e room_1 s m #[Value.ref b] below meth c s₁ [] 0 0 := Stand.of_body B
    have hh0 : s₁.heap = s.heap := by rw [B.state]; rfl
    have hsz : scr.slots.size = xs.length := by rw [← Array.length_toList, hlist, List.length_map]
    have hval : ∀ j : Nat, j < xs.length → scr.slots[j]? = some (.int (xs.getD j 0)) := fun j hj => by
      rw [← Array.getElem?_toList, hlist]
      simp [hj]
    have hbl : b < s.heap.size := (Array.getElem?_eq_some_iff.mp hcb).1
    have hX : va_X b xs.length (fun j => xs.getD j 0) s s.heap := ⟨scr, hcb, hof, hkn, hsz, hval⟩
    have K : W p l e room_1 s m #[Value.ref b] below meth c s₁.heap [] 0 0 (lw_Z below #[Value.ref b] s) (entryFrame m ([Value.ref b] : List Value).toArray 7) := by
      rw [hh0]
      exact whole_start l hflags hbd ⟨B.exec, B.bytes, B.returns, hml, hown, hts, hX, hbl, B.notSynchronized, hgv⟩
    obtain ⟨t, a1, o, b1, b2, b3⟩ := K s₁ rfl X₀
    exact ⟨t, o, a1, b1, b2, b3⟩
theorem lw_pre_spec {args : Array Value} {s : State} (h : (Jvm.Cond.and given_1 narrow_1).before args s = true) (hr : rest_1_c.before args s = true) : ∃ (b : Addr) (xs : List Int32), lw_P b xs args s := by
  have hs := flat_of_before _ h
  have hq := flat_of_before _ hr
  have hc : (Cond.count 1).before args s = true := hs _ (by decide +kernel)
  have harr : (Cond.arrayOf (.arg 0) .int).before args s = true := hs _ (by decide +kernel)
  have hle : (Cond.le (.length (.arg 0)) (.int 2560)).before args s = true := hs _ (by decide +kernel)
  have hlen : (Cond.isInt (.length (.arg 0))).before args s = true := hq _ (by decide +kernel)
  have hall : (Cond.all (.arg 0) (.isInt (.elem (.arg 0) (.index 0)))).before args s = true := hq _ (by decide +kernel)
  obtain ⟨b, xs, hb, hx⟩ := State.ints_of_pre rfl harr hlen hall
  have hsm : xs.length < 2 ^ 31 := hx.choose_spec.2.2.2
  have hev : (Term.length (.arg 0)).eval args s none [] s = some (.int xs.length.toInt32) := hx.length_eval hb
  have hv := Cond.le_ints hev (show (Term.int 2560).eval args s none [] s = some (.int 2560) from rfl)
  have hd : xs.length.toInt32 ≤ 2560 := by
    simpa [Cond.before, Cond.holds, hv] using hle
  have hN : xs.length ≤ 2560 := (Int32.ofNat_le_ofNat hsm (by decide)).mp (show Int32.ofNat xs.length ≤ Int32.ofNat 2560 from hd)
  exact ⟨b, xs, Cond.one_arg hc (show args[0]? = some (.ref b) from hb), hx, hN, h⟩
theorem lw_comes (l : Launch) (hflags : l.flags = flags0) : Comes l x (Jvm.Cond.code x code maxLocals ret :: tables_1) room_1 (fun tb e args s => Calls_1 tb e args s ∧ rest_1 tb e args s ∧ Pre_1 tb e args s)
    (fun _ _ args s o t => lw_Q args s o t) := by
  intro p e ha hc hk s m args below hf hfit hheap happ hpre
  obtain ⟨b, xs, hP⟩ := lw_pre_spec hpre.2.2 hpre.2.1
  obtain ⟨k, o, h1, h2, h3, hQ⟩ := lw_walk l hflags b xs p e ha hc hk s m args below hf ((Spec.applies_iff_loose hf).mp happ).1 hP trivial
  exact ⟨k, o, h1, h2, h3, hQ⟩
theorem lw_frame {s t : State} {o : Outcome} {args : Array Value} (h : Framed s o t [] 601024 7293034) :
    Framed s o t (fieldLocs frame_1_writes args s ++ arrayLocs frame_1_arrays args s ++ staticLocs frame_1_statics s) 601024 7293034 := h
theorem lw_limb (L : Cond) (hL : ∀ (args : Array Value) (s t : State), L.after args s (.returned (some (.int 1))) t = true) :
    ArmFor flags0 classFile x code maxLocals ret World_1 tables_1 room_1 Calls_1 rest_1 Pre_1
      (fun tb e a s o t => postC L tb e a s o t ∧ Framed s o t (fieldLocs frame_1_writes a s ++ arrayLocs frame_1_arrays a s ++ staticLocs frame_1_statics s) 601024 7293034) := by
  intro l hflags _ _ p e ha hc hk s m args below hf hfit hheap happ hpre
  obtain ⟨k, o, h1, h2, h3, rfl, hF⟩ := lw_comes l hflags p e ha hc hk s m args below hf hfit hheap happ hpre
  exact ⟨k, _, h1, h2, h3, hL args s _, lw_frame hF⟩
theorem i_vc : Claimed_1_1 ∧ Claimed_1_2 := ⟨lw_limb limb_1_1 (fun args s t => by simp [limb_1_1, Cond.after, Cond.holds, Cond.value]), lw_limb limb_1_2 (fun args s t => Cond.after_iff.mpr (by
  first | (rw [show limb_1_2 = Cond.eq .result (.int 1) from rfl, Cond.eq_ints (x := 1) (y := 1) rfl rfl]; simp; done) | (simp [limb_1_2, Cond.value, Term.eval]; done)))⟩
