/-! contracts of the reference -/
abbrev rm_X7_thrown : Room := { frames := 0, cells := 0, slots := 0, locals := 0 }
theorem hd_X7_thrown : yX7_thrown.cls = RX7 ∧ yX7_thrown.cls ≠ "java/lang/invoke/MethodHandle" ∧ yX7_thrown.cls ≠ "java/lang/invoke/VarHandle" ∧ (parseMethodDescriptor yX7_thrown.desc).map (fun d => d.parameters.length) = some 0 := by decide +kernel
set_option maxRecDepth 100000 in
set_option maxHeartbeats 4000000 in
theorem c_X7_thrown (l : Launch) (D : va_G) (cI cO : ClassId) (b : Nat) (S : St) (r : Int32) (hf : f_X7_thrown S = some r) : Met l yX7_thrown (Cond.code yX7_thrown cX7_thrown 1 (some .int) :: wsAll) rm_X7_thrown (PX D (wM cI cO b) (tyM cI cO) S [.ref (b + 0)]) (Qi D (wM cI cO b) (tyM cI cO) (AM b) r S) 0 0 (AM b) := by
  unfold f_X7_thrown at hf
  refine g_met RX7 (by decide +kernel) (Nat.le_of_ble_eq_true rfl) rfl ?_
  intro p e s m args below meth c ls Q F hr hlocks hK hP hl hQ
  have hx := F.1
  have hb := F.2.1
  have hS : va_S (AM b) s.heap s.heap [] := va_S.rf
  have hl : lv_has ls 1 [(0, .ref (b + 0))] := hl
  refine lv_aload_n hx hb dX7_thrown_0 rfl (lv_at hl 0 rfl) ?_
  refine g_get F hK hP inA7 0 wM_o rfl 0 (by decide) wd_752 (v := .int (gi S 0)) rfl dX7_thrown_1 ?_
  exact g_iret F hr hlocks hQ hK hP hS (Option.some.inj hf) rfl dX7_thrown_4
abbrev rm_X7_goesWell : Room := { frames := 0, cells := 0, slots := 0, locals := 0 }
theorem hd_X7_goesWell : yX7_goesWell.cls = RX7 ∧ yX7_goesWell.cls ≠ "java/lang/invoke/MethodHandle" ∧ yX7_goesWell.cls ≠ "java/lang/invoke/VarHandle" ∧ (parseMethodDescriptor yX7_goesWell.desc).map (fun d => d.parameters.length) = some 1 := by decide +kernel
set_option maxRecDepth 100000 in
set_option maxHeartbeats 4000000 in
theorem c_X7_goesWell (l : Launch) (D : va_G) (cI cO : ClassId) (b : Nat) (S : St) (x1 : Int32) (r : Int32) (S1 : St) (hf : f_X7_goesWell S x1 = some (r, S1)) : Met l yX7_goesWell (Cond.code yX7_goesWell cX7_goesWell 2 (some .boolean) :: wsAll) rm_X7_goesWell (PX D (wM cI cO b) (tyM cI cO) S [.ref (b + 0), .int x1]) (Qi D (wM cI cO b) (tyM cI cO) (AM b) r S1) 0 0 (AM b) := by
  unfold f_X7_goesWell at hf
  refine g_met RX7 (by decide +kernel) (Nat.le_of_ble_eq_true rfl) rfl ?_
  intro p e s m args below meth c ls Q F hr hlocks hK hP hl hQ
  have hx := F.1
  have hb := F.2.1
  have hS : va_S (AM b) s.heap s.heap [] := va_S.rf
  have hl : lv_has ls 2 [(0, .ref (b + 0)), (1, .int x1)] := hl
  refine lv_aload_n hx hb dX7_goesWell_0 rfl (lv_at hl 0 rfl) ?_
  refine lv_iload_n hx hb dX7_goesWell_1 rfl (lv_at hl 1 rfl) ?_
  obtain ⟨S_2, eS_2, hf⟩ := lt_some hf
  refine g_puti (S1 := S_2) F hK hP wM_D hS inA7 tyX7 tyX7_ok nmX7 0 wM_o rfl 0 (by decide) wd_752 rfl (by decide +kernel) (Nat.le_of_ble_eq_true rfl) (by rw [eS_2]; exact wM_si_0) dX7_goesWell_2 (fun H locs hP hS => ?_)
  refine lv_iload_n hx hb dX7_goesWell_5 rfl (lv_at hl 1 rfl) ?_
  refine lv_if_ne (tgt := 13) hx hb dX7_goesWell_6 (by decide) (fun q => ?_) (fun q => ?_)
  · replace hf := ite_t q hf
    refine lv_iconst (v := 0) hx hb dX7_goesWell_13 (by decide) ?_
    exact g_zret F hr hlocks hQ hK hP hS rfl (Prod.mk.inj (Option.some.inj hf)).1 (Prod.mk.inj (Option.some.inj hf)).2 dX7_goesWell_14
  · replace hf := ite_f (fun h => h q) hf
    refine lv_iconst (v := 1) hx hb dX7_goesWell_9 (by decide) ?_
    refine lv_goto (tgt := 14) hx hb dX7_goesWell_10 (by decide) ?_
    exact g_zret F hr hlocks hQ hK hP hS rfl (Prod.mk.inj (Option.some.inj hf)).1 (Prod.mk.inj (Option.some.inj hf)).2 dX7_goesWell_14
abbrev rm_X7_in : Room := { frames := 0, cells := 0, slots := 0, locals := 0 }
theorem hd_X7_in : yX7_in.cls = RX7 ∧ yX7_in.cls ≠ "java/lang/invoke/MethodHandle" ∧ yX7_in.cls ≠ "java/lang/invoke/VarHandle" ∧ (parseMethodDescriptor yX7_in.desc).map (fun d => d.parameters.length) = some 3 := by decide +kernel
set_option maxRecDepth 100000 in
set_option maxHeartbeats 4000000 in
theorem c_X7_in (l : Launch) (D : va_G) (cI cO : ClassId) (b : Nat) (S : St) (x0 : Int32) (x1 : Int32) (x2 : Int32) (r : Int32) (hf : f_X7_in S x0 x1 x2 = some r) : Met l yX7_in (Cond.code yX7_in cX7_in 3 (some .boolean) :: wsAll) rm_X7_in (PX D (wM cI cO b) (tyM cI cO) S [.int x0, .int x1, .int x2]) (Qi D (wM cI cO b) (tyM cI cO) (AM b) r S) 0 0 (AM b) := by
  unfold f_X7_in at hf
  refine g_met RX7 (by decide +kernel) (Nat.le_of_ble_eq_true rfl) rfl ?_
  intro p e s m args below meth c ls Q F hr hlocks hK hP hl hQ
  have hx := F.1
  have hb := F.2.1
  have hS : va_S (AM b) s.heap s.heap [] := va_S.rf
  have hl : lv_has ls 3 [(0, .int x0), (1, .int x1), (2, .int x2)] := hl
  refine lv_iload_n hx hb dX7_in_0 rfl (lv_at hl 0 rfl) ?_
  refine lv_iload_n hx hb dX7_in_1 rfl (lv_at hl 1 rfl) ?_
  obtain ⟨J14, eJ14, hf⟩ := jn_some hf
  have kJ14 : ∀ (H : Heap) (locs : List Loc) (ls : Array Slot), J14 = some r → va_P D vwCl ((wM cI cO b) S) H → va_S (AM b) s.heap H locs → lv_has ls 3 [] → W p l e rm_X7_in s m args below meth c H locs 0 0 Q (F0 m 14 ls []) := by
    intro  H locs ls hf hP hS hl
    rw [eJ14] at hf
    refine lv_iconst (v := 0) hx hb dX7_in_14 (by decide) ?_
    exact g_zret F hr hlocks hQ hK hP hS rfl (Option.some.inj hf) rfl dX7_in_15
  clear eJ14
  refine lv_icmp_lt (tgt := 14) hx hb dX7_in_2 (by decide) (fun q => ?_) (fun q => ?_)
  · replace hf := ite_t q hf
    exact kJ14 _ _ _ hf hP hS (lv_sub hl [] rfl)
  · replace hf := ite_f q hf
    refine lv_iload_n hx hb dX7_in_5 rfl (lv_at hl 0 rfl) ?_
    refine lv_iload_n hx hb dX7_in_6 rfl (lv_at hl 2 rfl) ?_
    refine lv_icmp_gt (tgt := 14) hx hb dX7_in_7 (by decide) (fun q => ?_) (fun q => ?_)
    · replace hf := ite_t q hf
      exact kJ14 _ _ _ hf hP hS (lv_sub hl [] rfl)
    · replace hf := ite_f q hf
      refine lv_iconst (v := 1) hx hb dX7_in_10 (by decide) ?_
      refine lv_goto (tgt := 15) hx hb dX7_in_11 (by decide) ?_
      exact g_zret F hr hlocks hQ hK hP hS rfl (Option.some.inj hf) rfl dX7_in_15
abbrev rm_X7_isSite : Room := { frames := 1, cells := 0, slots := 0, locals := 22 }
theorem hd_X7_isSite : yX7_isSite.cls = RX7 ∧ yX7_isSite.cls ≠ "java/lang/invoke/MethodHandle" ∧ yX7_isSite.cls ≠ "java/lang/invoke/VarHandle" ∧ (parseMethodDescriptor yX7_isSite.desc).map (fun d => d.parameters.length) = some 1 := by decide +kernel
set_option maxRecDepth 100000 in
set_option maxHeartbeats 4000000 in
theorem c_X7_isSite (l : Launch) (D : va_G) (cI cO : ClassId) (b : Nat) (S : St) (x0 : Int32) (r : Int32) (hf : f_X7_isSite S x0 = some r) : Met l yX7_isSite (Cond.code yX7_isSite cX7_isSite 1 (some .boolean) :: wsAll) rm_X7_isSite (PX D (wM cI cO b) (tyM cI cO) S [.int x0]) (Qi D (wM cI cO b) (tyM cI cO) (AM b) r S) 0 0 (AM b) := by
  unfold f_X7_isSite at hf
  refine g_met RX7 (by decide +kernel) (Nat.le_of_ble_eq_true rfl) rfl ?_
  intro p e s m args below meth c ls Q F hr hlocks hK hP hl hQ
  have hx := F.1
  have hb := F.2.1
  have hS : va_S (AM b) s.heap s.heap [] := va_S.rf
  have hl : lv_has ls 1 [(0, .int x0)] := hl
  refine lv_iload_n hx hb dX7_isSite_0 rfl (lv_at hl 0 rfl) ?_
  refine lv_iconst (v := 0) hx hb dX7_isSite_1 (by decide) ?_
  refine lv_iconst (v := 3) hx hb dX7_isSite_2 (by decide) ?_
  obtain ⟨v3, q3, hf⟩ := cl_some hf
  refine g_callSi F hK hP hS [.int x0, .int (0 : Int32), .int (3 : Int32)] (c_X7_in l D cI cO b S x0 (0 : Int32) (3 : Int32) v3 q3) wd_858 wd_859 wd_9 wd_860 hd_X7_in rfl rfl ⟨Nat.le_of_ble_eq_true rfl, Nat.le_of_ble_eq_true rfl⟩ rfl hl (rest := []) rfl (Nat.le_of_ble_eq_true rfl) dX7_isSite_3 ⟨Nat.zero_le _, Nat.zero_le _⟩ (fun H locs hP hS => ?_)
  obtain ⟨hz9, hf⟩ := bz_some hf
  exact g_zret F hr hlocks hQ hK hP hS hz9 (Option.some.inj hf) rfl dX7_isSite_6
abbrev rm_X7_knowsLine : Room := { frames := 1, cells := 0, slots := 0, locals := 22 }
theorem hd_X7_knowsLine : yX7_knowsLine.cls = RX7 ∧ yX7_knowsLine.cls ≠ "java/lang/invoke/MethodHandle" ∧ yX7_knowsLine.cls ≠ "java/lang/invoke/VarHandle" ∧ (parseMethodDescriptor yX7_knowsLine.desc).map (fun d => d.parameters.length) = some 2 := by decide +kernel
set_option maxRecDepth 100000 in
set_option maxHeartbeats 4000000 in
theorem c_X7_knowsLine (l : Launch) (D : va_G) (cI cO : ClassId) (b : Nat) (S : St) (x1 : Int32) (x2 : Int32) (r : Int32) (hf : f_X7_knowsLine S x1 x2 = some r) : Met l yX7_knowsLine (Cond.code yX7_knowsLine cX7_knowsLine 3 (some .boolean) :: wsAll) rm_X7_knowsLine (PX D (wM cI cO b) (tyM cI cO) S [.ref (b + 0), .int x1, .int x2]) (Qi D (wM cI cO b) (tyM cI cO) (AM b) r S) 0 0 (AM b) := by
  unfold f_X7_knowsLine at hf
  refine g_met RX7 (by decide +kernel) (Nat.le_of_ble_eq_true rfl) rfl ?_
  intro p e s m args below meth c ls Q F hr hlocks hK hP hl hQ
  have hx := F.1
  have hb := F.2.1
  have hS : va_S (AM b) s.heap s.heap [] := va_S.rf
  have hl : lv_has ls 3 [(0, .ref (b + 0)), (1, .int x1), (2, .int x2)] := hl
  refine lv_iload_n hx hb dX7_knowsLine_0 rfl (lv_at hl 2 rfl) ?_
  refine lv_iconst (v := 0) hx hb dX7_knowsLine_1 (by decide) ?_
  refine lv_aload_n hx hb dX7_knowsLine_2 rfl (lv_at hl 0 rfl) ?_
  refine g_get F hK hP inA7 0 wM_o rfl 7 (by decide) wd_759 (v := .int (gi S 7)) rfl dX7_knowsLine_3 ?_
  refine lv_iconst (v := 1) hx hb dX7_knowsLine_6 (by decide) ?_
  refine lv_isub hx hb dX7_knowsLine_7 ?_
  obtain ⟨v8, q8, hf⟩ := cl_some hf
  refine g_callSi F hK hP hS [.int x2, .int (0 : Int32), .int ((gi S 7) - (1 : Int32))] (c_X7_in l D cI cO b S x2 (0 : Int32) ((gi S 7) - (1 : Int32)) v8 q8) wd_858 wd_859 wd_9 wd_860 hd_X7_in rfl rfl ⟨Nat.le_of_ble_eq_true rfl, Nat.le_of_ble_eq_true rfl⟩ rfl hl (rest := []) rfl (Nat.le_of_ble_eq_true rfl) dX7_knowsLine_8 ⟨Nat.zero_le _, Nat.zero_le _⟩ (fun H locs hP hS => ?_)
  obtain ⟨J37, eJ37, hf⟩ := jn_some hf
  have kJ37 : ∀ (H : Heap) (locs : List Loc) (ls : Array Slot), J37 = some r → va_P D vwCl ((wM cI cO b) S) H → va_S (AM b) s.heap H locs → lv_has ls 3 [] → W p l e rm_X7_knowsLine s m args below meth c H locs 0 0 Q (F0 m 37 ls []) := by
    intro  H locs ls hf hP hS hl
    rw [eJ37] at hf
    refine lv_iconst (v := 0) hx hb dX7_knowsLine_37 (by decide) ?_
    exact g_zret F hr hlocks hQ hK hP hS rfl (Option.some.inj hf) rfl dX7_knowsLine_38
  clear eJ37
  refine lv_if_eq (tgt := 37) hx hb dX7_knowsLine_11 (by decide) (fun q => ?_) (fun q => ?_)
  · replace hf := ite_t q hf
    exact kJ37 _ _ _ hf hP hS (lv_sub hl [] rfl)
  · replace hf := ite_f q hf
    refine lv_aload_n hx hb dX7_knowsLine_14 rfl (lv_at hl 0 rfl) ?_
    refine g_get F hK hP inA7 0 wM_o rfl 18 (by decide) wd_770 (v := .ref (b + 15)) rfl dX7_knowsLine_15 ?_
    refine lv_bipush (v := 90) hx hb dX7_knowsLine_18 (by decide) ?_
    refine lv_iload_n hx hb dX7_knowsLine_20 rfl (lv_at hl 1 rfl) ?_
    refine lv_imul hx hb dX7_knowsLine_21 ?_
    refine lv_aload_n hx hb dX7_knowsLine_22 rfl (lv_at hl 0 rfl) ?_
    refine g_get F hK hP inA7 0 wM_o rfl 8 (by decide) wd_760 (v := .ref (b + 6)) rfl dX7_knowsLine_23 ?_
    refine lv_iload_n hx hb dX7_knowsLine_26 rfl (lv_at hl 2 rfl) ?_
    obtain ⟨hi, hf⟩ := ck_some hf
    refine va_iald hx hb hK hP 6 0 wM_a8 rfl hi dX7_knowsLine_27 ?_
    refine lv_iadd hx hb dX7_knowsLine_28 ?_
    obtain ⟨hi, hf⟩ := ck_some hf
    refine va_zald hx hb hK hP 15 1 wM_a18 rfl hi dX7_knowsLine_29 ?_
    refine lv_if_eq (tgt := 37) hx hb dX7_knowsLine_30 (by decide) (fun q => ?_) (fun q => ?_)
    · replace hf := ite_t q hf
      exact kJ37 _ _ _ hf hP hS (lv_sub hl [] rfl)
    · replace hf := ite_f q hf
      refine lv_iconst (v := 1) hx hb dX7_knowsLine_33 (by decide) ?_
      refine lv_goto (tgt := 38) hx hb dX7_knowsLine_34 (by decide) ?_
      exact g_zret F hr hlocks hQ hK hP hS rfl (Option.some.inj hf) rfl dX7_knowsLine_38
abbrev rm_X7_knowsNote : Room := { frames := 1, cells := 0, slots := 0, locals := 22 }
theorem hd_X7_knowsNote : yX7_knowsNote.cls = RX7 ∧ yX7_knowsNote.cls ≠ "java/lang/invoke/MethodHandle" ∧ yX7_knowsNote.cls ≠ "java/lang/invoke/VarHandle" ∧ (parseMethodDescriptor yX7_knowsNote.desc).map (fun d => d.parameters.length) = some 2 := by decide +kernel
set_option maxRecDepth 100000 in
set_option maxHeartbeats 4000000 in
theorem c_X7_knowsNote (l : Launch) (D : va_G) (cI cO : ClassId) (b : Nat) (S : St) (x1 : Int32) (x2 : Int32) (r : Int32) (hf : f_X7_knowsNote S x1 x2 = some r) : Met l yX7_knowsNote (Cond.code yX7_knowsNote cX7_knowsNote 3 (some .boolean) :: wsAll) rm_X7_knowsNote (PX D (wM cI cO b) (tyM cI cO) S [.ref (b + 0), .int x1, .int x2]) (Qi D (wM cI cO b) (tyM cI cO) (AM b) r S) 0 0 (AM b) := by
  unfold f_X7_knowsNote at hf
  refine g_met RX7 (by decide +kernel) (Nat.le_of_ble_eq_true rfl) rfl ?_
  intro p e s m args below meth c ls Q F hr hlocks hK hP hl hQ
  have hx := F.1
  have hb := F.2.1
  have hS : va_S (AM b) s.heap s.heap [] := va_S.rf
  have hl : lv_has ls 3 [(0, .ref (b + 0)), (1, .int x1), (2, .int x2)] := hl
  refine lv_iload_n hx hb dX7_knowsNote_0 rfl (lv_at hl 2 rfl) ?_
  refine lv_iconst (v := 0) hx hb dX7_knowsNote_1 (by decide) ?_
  refine lv_aload_n hx hb dX7_knowsNote_2 rfl (lv_at hl 0 rfl) ?_
  refine g_get F hK hP inA7 0 wM_o rfl 12 (by decide) wd_764 (v := .int (gi S 12)) rfl dX7_knowsNote_3 ?_
  refine lv_iconst (v := 1) hx hb dX7_knowsNote_6 (by decide) ?_
  refine lv_isub hx hb dX7_knowsNote_7 ?_
  obtain ⟨v8, q8, hf⟩ := cl_some hf
  refine g_callSi F hK hP hS [.int x2, .int (0 : Int32), .int ((gi S 12) - (1 : Int32))] (c_X7_in l D cI cO b S x2 (0 : Int32) ((gi S 12) - (1 : Int32)) v8 q8) wd_858 wd_859 wd_9 wd_860 hd_X7_in rfl rfl ⟨Nat.le_of_ble_eq_true rfl, Nat.le_of_ble_eq_true rfl⟩ rfl hl (rest := []) rfl (Nat.le_of_ble_eq_true rfl) dX7_knowsNote_8 ⟨Nat.zero_le _, Nat.zero_le _⟩ (fun H locs hP hS => ?_)
  obtain ⟨J37, eJ37, hf⟩ := jn_some hf
  have kJ37 : ∀ (H : Heap) (locs : List Loc) (ls : Array Slot), J37 = some r → va_P D vwCl ((wM cI cO b) S) H → va_S (AM b) s.heap H locs → lv_has ls 3 [] → W p l e rm_X7_knowsNote s m args below meth c H locs 0 0 Q (F0 m 37 ls []) := by
    intro  H locs ls hf hP hS hl
    rw [eJ37] at hf
    refine lv_iconst (v := 0) hx hb dX7_knowsNote_37 (by decide) ?_
    exact g_zret F hr hlocks hQ hK hP hS rfl (Option.some.inj hf) rfl dX7_knowsNote_38
  clear eJ37
  refine lv_if_eq (tgt := 37) hx hb dX7_knowsNote_11 (by decide) (fun q => ?_) (fun q => ?_)
  · replace hf := ite_t q hf
    exact kJ37 _ _ _ hf hP hS (lv_sub hl [] rfl)
  · replace hf := ite_f q hf
    refine lv_aload_n hx hb dX7_knowsNote_14 rfl (lv_at hl 0 rfl) ?_
    refine g_get F hK hP inA7 0 wM_o rfl 18 (by decide) wd_770 (v := .ref (b + 15)) rfl dX7_knowsNote_15 ?_
    refine lv_bipush (v := 90) hx hb dX7_knowsNote_18 (by decide) ?_
    refine lv_iload_n hx hb dX7_knowsNote_20 rfl (lv_at hl 1 rfl) ?_
    refine lv_imul hx hb dX7_knowsNote_21 ?_
    refine lv_aload_n hx hb dX7_knowsNote_22 rfl (lv_at hl 0 rfl) ?_
    refine g_get F hK hP inA7 0 wM_o rfl 13 (by decide) wd_765 (v := .ref (b + 10)) rfl dX7_knowsNote_23 ?_
    refine lv_iload_n hx hb dX7_knowsNote_26 rfl (lv_at hl 2 rfl) ?_
    obtain ⟨hi, hf⟩ := ck_some hf
    refine va_iald hx hb hK hP 10 0 wM_a13 rfl hi dX7_knowsNote_27 ?_
    refine lv_iadd hx hb dX7_knowsNote_28 ?_
    obtain ⟨hi, hf⟩ := ck_some hf
    refine va_zald hx hb hK hP 15 1 wM_a18 rfl hi dX7_knowsNote_29 ?_
    refine lv_if_eq (tgt := 37) hx hb dX7_knowsNote_30 (by decide) (fun q => ?_) (fun q => ?_)
    · replace hf := ite_t q hf
      exact kJ37 _ _ _ hf hP hS (lv_sub hl [] rfl)
    · replace hf := ite_f q hf
      refine lv_iconst (v := 1) hx hb dX7_knowsNote_33 (by decide) ?_
      refine lv_goto (tgt := 38) hx hb dX7_knowsNote_34 (by decide) ?_
      exact g_zret F hr hlocks hQ hK hP hS rfl (Option.some.inj hf) rfl dX7_knowsNote_38
abbrev rm_X7_isThere : Room := { frames := 0, cells := 0, slots := 0, locals := 0 }
theorem hd_X7_isThere : yX7_isThere.cls = RX7 ∧ yX7_isThere.cls ≠ "java/lang/invoke/MethodHandle" ∧ yX7_isThere.cls ≠ "java/lang/invoke/VarHandle" ∧ (parseMethodDescriptor yX7_isThere.desc).map (fun d => d.parameters.length) = some 2 := by decide +kernel
set_option maxRecDepth 100000 in
set_option maxHeartbeats 4000000 in
theorem c_X7_isThere (l : Launch) (D : va_G) (cI cO : ClassId) (b : Nat) (S : St) (x1 : Int32) (x2 : Int32) (r : Int32) (hf : f_X7_isThere S x1 x2 = some r) : Met l yX7_isThere (Cond.code yX7_isThere cX7_isThere 5 (some .boolean) :: wsAll) rm_X7_isThere (PX D (wM cI cO b) (tyM cI cO) S [.ref (b + 0), .int x1, .int x2]) (Qi D (wM cI cO b) (tyM cI cO) (AM b) r S) 0 0 (AM b) := by
  unfold f_X7_isThere at hf
  refine g_met RX7 (by decide +kernel) (Nat.le_of_ble_eq_true rfl) rfl ?_
  intro p e s m args below meth c ls Q F hr hlocks hK hP hl hQ
  have hx := F.1
  have hb := F.2.1
  have hS : va_S (AM b) s.heap s.heap [] := va_S.rf
  have hl : lv_has ls 5 [(0, .ref (b + 0)), (1, .int x1), (2, .int x2)] := hl
  refine lv_iconst (v := 1) hx hb dX7_isThere_0 (by decide) ?_
  refine lv_istore_n (lv' := [(3, .int (1 : Int32)), (0, .ref (b + 0)), (1, .int x1), (2, .int x2)]) hx hb dX7_isThere_1 rfl hl (by decide) rfl (fun ls hl => ?_)
  refine lv_iconst (v := 0) hx hb dX7_isThere_2 (by decide) ?_
  refine lv_istore (lv' := [(4, .int (0 : Int32)), (3, .int (1 : Int32)), (0, .ref (b + 0)), (1, .int x1), (2, .int x2)]) hx hb dX7_isThere_3 hl (by decide) rfl (fun ls hl => ?_)
  refine Lp2_ind (P := fun (x3_5 : Int32) (x4_5 : Int32) => ∀ (H : Heap) (locs : List Loc) (ls : Array Slot), va_P D vwCl ((wM cI cO b) S) H → va_S (AM b) s.heap H locs → lv_has ls 5 [(0, .ref (b + 0)), (1, .int x1), (2, .int x2), (3, .int x3_5), (4, .int x4_5)] → W p l e rm_X7_isThere s m args below meth c H locs 0 0 Q (F0 m 5 ls [])) ?_ _ _ _ hf _ _ _ hP hS (lv_sub hl [2, 3, 4, 1, 0] rfl)
  clear hf hP hS hl
  intro nx5 x3_5 x4_5 ih5 hf H locs ls hP hS hl
  refine lv_iload hx hb dX7_isThere_5 (lv_at hl 4 rfl) ?_
  refine lv_aload_n hx hb dX7_isThere_7 rfl (lv_at hl 0 rfl) ?_
  refine g_get F hK hP inA7 0 wM_o rfl 1 (by decide) wd_753 (v := .int (gi S 1)) rfl dX7_isThere_8 ?_
  refine lv_icmp_ge (tgt := 67) hx hb dX7_isThere_11 (by decide) (fun q => ?_) (fun q => ?_)
  · replace hf := ite_t q hf
    refine lv_iload_n hx hb dX7_isThere_67 rfl (lv_at hl 3 rfl) ?_
    obtain ⟨hz9, hf⟩ := bz_some hf
    exact g_zret F hr hlocks hQ hK hP hS hz9 (Option.some.inj hf) rfl dX7_isThere_68
  · replace hf := ite_f q hf
    refine lv_iload_n hx hb dX7_isThere_14 rfl (lv_at hl 3 rfl) ?_
    obtain ⟨J59, eJ59, hf⟩ := jn_some hf
    have kJ59 : ∀ (H : Heap) (locs : List Loc) (ls : Array Slot), J59 = some r → va_P D vwCl ((wM cI cO b) S) H → va_S (AM b) s.heap H locs → lv_has ls 5 [(0, .ref (b + 0)), (1, .int x1), (2, .int x2), (4, .int x4_5)] → W p l e rm_X7_isThere s m args below meth c H locs 0 0 Q (F0 m 59 ls []) := by
      intro  H locs ls hf hP hS hl
      rw [eJ59] at hf
      refine lv_iconst (v := 0) hx hb dX7_isThere_59 (by decide) ?_
      refine lv_istore_n (lv' := [(3, .int (0 : Int32)), (0, .ref (b + 0)), (1, .int x1), (2, .int x2), (4, .int x4_5)]) hx hb dX7_isThere_60 rfl hl (by decide) rfl (fun ls hl => ?_)
      obtain ⟨x4_61, ex4_61, hf⟩ := lt_some hf
      refine lv_iinc (v := x4_61) (lv' := [(4, .int x4_61), (3, .int (0 : Int32)), (0, .ref (b + 0)), (1, .int x1), (2, .int x2)]) hx hb dX7_isThere_61 hl (k := 4) rfl (by rw [ex4_61]; rfl) (by decide) rfl (fun ls hl => ?_)
      refine lv_goto (tgt := 5) hx hb dX7_isThere_64 (by decide) ?_
      exact ih5 _ _ hf _ _ _ hP hS (lv_sub hl [2, 3, 4, 1, 0] rfl)
    clear eJ59
    obtain ⟨J60, eJ60, hf⟩ := jn_some hf
    have kJ60 : ∀ (t0_60 : Int32) (H : Heap) (locs : List Loc) (ls : Array Slot), J60 t0_60 = some r → va_P D vwCl ((wM cI cO b) S) H → va_S (AM b) s.heap H locs → lv_has ls 5 [(0, .ref (b + 0)), (1, .int x1), (2, .int x2), (4, .int x4_5)] → W p l e rm_X7_isThere s m args below meth c H locs 0 0 Q (F0 m 60 ls [.int t0_60]) := by
      intro t0_60 H locs ls hf hP hS hl
      rw [eJ60] at hf
      refine lv_istore_n (lv' := [(3, .int t0_60), (0, .ref (b + 0)), (1, .int x1), (2, .int x2), (4, .int x4_5)]) hx hb dX7_isThere_60 rfl hl (by decide) rfl (fun ls hl => ?_)
      obtain ⟨x4_61, ex4_61, hf⟩ := lt_some hf
      refine lv_iinc (v := x4_61) (lv' := [(4, .int x4_61), (3, .int t0_60), (0, .ref (b + 0)), (1, .int x1), (2, .int x2)]) hx hb dX7_isThere_61 hl (k := 4) rfl (by rw [ex4_61]; rfl) (by decide) rfl (fun ls hl => ?_)
      refine lv_goto (tgt := 5) hx hb dX7_isThere_64 (by decide) ?_
      exact ih5 _ _ hf _ _ _ hP hS (lv_sub hl [2, 3, 4, 1, 0] rfl)
    clear eJ60
    refine lv_if_eq (tgt := 59) hx hb dX7_isThere_15 (by decide) (fun q => ?_) (fun q => ?_)
    · replace hf := ite_t q hf
      exact kJ59 _ _ _ hf hP hS (lv_sub hl [0, 1, 2, 4] rfl)
    · replace hf := ite_f q hf
      refine lv_aload_n hx hb dX7_isThere_18 rfl (lv_at hl 0 rfl) ?_
      refine g_get F hK hP inA7 0 wM_o rfl 2 (by decide) wd_754 (v := .ref (b + 1)) rfl dX7_isThere_19 ?_
      refine lv_iload hx hb dX7_isThere_22 (lv_at hl 4 rfl) ?_
      obtain ⟨hi, hf⟩ := ck_some hf
      refine va_iald hx hb hK hP 1 0 wM_a2 rfl hi dX7_isThere_24 ?_
      refine lv_iconst (v := 1) hx hb dX7_isThere_25 (by decide) ?_
      obtain ⟨J55, eJ55, hf⟩ := jn_some hf
      have kJ55 : ∀ (H : Heap) (locs : List Loc) (ls : Array Slot), J55 = some r → va_P D vwCl ((wM cI cO b) S) H → va_S (AM b) s.heap H locs → lv_has ls 5 [(0, .ref (b + 0)), (1, .int x1), (2, .int x2), (4, .int x4_5)] → W p l e rm_X7_isThere s m args below meth c H locs 0 0 Q (F0 m 55 ls []) := by
        intro  H locs ls hf hP hS hl
        rw [eJ55] at hf
        refine lv_iconst (v := 1) hx hb dX7_isThere_55 (by decide) ?_
        refine lv_goto (tgt := 60) hx hb dX7_isThere_56 (by decide) ?_
        exact kJ60 _ _ _ _ hf hP hS (lv_sub hl [0, 1, 2, 3] rfl)
      clear eJ55
      refine lv_icmp_ne (tgt := 55) hx hb dX7_isThere_26 (by decide) (fun q => ?_) (fun q => ?_)
      · replace hf := ite_t q hf
        exact kJ55 _ _ _ hf hP hS (lv_sub hl [0, 1, 2, 4] rfl)
      · replace hf := ite_f (fun h => h q) hf
        refine lv_aload_n hx hb dX7_isThere_29 rfl (lv_at hl 0 rfl) ?_
        refine g_get F hK hP inA7 0 wM_o rfl 5 (by decide) wd_757 (v := .ref (b + 4)) rfl dX7_isThere_30 ?_
        refine lv_iload hx hb dX7_isThere_33 (lv_at hl 4 rfl) ?_
        obtain ⟨hi, hf⟩ := ck_some hf
        refine va_iald hx hb hK hP 4 0 wM_a5 rfl hi dX7_isThere_35 ?_
        refine lv_iload_n hx hb dX7_isThere_36 rfl (lv_at hl 2 rfl) ?_
        refine lv_icmp_ne (tgt := 55) hx hb dX7_isThere_37 (by decide) (fun q => ?_) (fun q => ?_)
        · replace hf := ite_t q hf
          exact kJ55 _ _ _ hf hP hS (lv_sub hl [0, 1, 2, 4] rfl)
        · replace hf := ite_f (fun h => h q) hf
          refine lv_aload_n hx hb dX7_isThere_40 rfl (lv_at hl 0 rfl) ?_
          refine g_get F hK hP inA7 0 wM_o rfl 18 (by decide) wd_770 (v := .ref (b + 15)) rfl dX7_isThere_41 ?_
          refine lv_bipush (v := 90) hx hb dX7_isThere_44 (by decide) ?_
          refine lv_iload_n hx hb dX7_isThere_46 rfl (lv_at hl 1 rfl) ?_
          refine lv_imul hx hb dX7_isThere_47 ?_
          refine lv_iload hx hb dX7_isThere_48 (lv_at hl 4 rfl) ?_
          refine lv_iadd hx hb dX7_isThere_50 ?_
          obtain ⟨hi, hf⟩ := ck_some hf
          refine va_zald hx hb hK hP 15 1 wM_a18 rfl hi dX7_isThere_51 ?_
          refine lv_if_ne (tgt := 59) hx hb dX7_isThere_52 (by decide) (fun q => ?_) (fun q => ?_)
          · replace hf := ite_t q hf
            exact kJ59 _ _ _ hf hP hS (lv_sub hl [0, 1, 2, 4] rfl)
          · replace hf := ite_f (fun h => h q) hf
            exact kJ55 _ _ _ hf hP hS (lv_sub hl [0, 1, 2, 4] rfl)
abbrev rm_X7_learn : Room := { frames := 0, cells := 0, slots := 0, locals := 0 }
theorem hd_X7_learn : yX7_learn.cls = RX7 ∧ yX7_learn.cls ≠ "java/lang/invoke/MethodHandle" ∧ yX7_learn.cls ≠ "java/lang/invoke/VarHandle" ∧ (parseMethodDescriptor yX7_learn.desc).map (fun d => d.parameters.length) = some 2 := by decide +kernel
set_option maxRecDepth 100000 in
set_option maxHeartbeats 4000000 in
theorem c_X7_learn (l : Launch) (D : va_G) (cI cO : ClassId) (b : Nat) (S : St) (x1 : Int32) (x2 : Int32) (S1 : St) (hf : f_X7_learn S x1 x2 = some S1) : Met l yX7_learn (Cond.code yX7_learn cX7_learn 3 none :: wsAll) rm_X7_learn (PX D (wM cI cO b) (tyM cI cO) S [.ref (b + 0), .int x1, .int x2]) (Qv D (wM cI cO b) (tyM cI cO) (AM b) S1) 0 0 (AM b) := by
  unfold f_X7_learn at hf
  refine g_met RX7 (by decide +kernel) (Nat.le_of_ble_eq_true rfl) rfl ?_
  intro p e s m args below meth c ls Q F hr hlocks hK hP hl hQ
  have hx := F.1
  have hb := F.2.1
  have hS : va_S (AM b) s.heap s.heap [] := va_S.rf
  have hl : lv_has ls 3 [(0, .ref (b + 0)), (1, .int x1), (2, .int x2)] := hl
  refine lv_aload_n hx hb dX7_learn_0 rfl (lv_at hl 0 rfl) ?_
  refine g_get F hK hP inA7 0 wM_o rfl 18 (by decide) wd_770 (v := .ref (b + 15)) rfl dX7_learn_1 ?_
  refine lv_bipush (v := 90) hx hb dX7_learn_4 (by decide) ?_
  refine lv_iload_n hx hb dX7_learn_6 rfl (lv_at hl 1 rfl) ?_
  refine lv_imul hx hb dX7_learn_7 ?_
  refine lv_iload_n hx hb dX7_learn_8 rfl (lv_at hl 2 rfl) ?_
  refine lv_iadd hx hb dX7_learn_9 ?_
  refine lv_iconst (v := 1) hx hb dX7_learn_10 (by decide) ?_
  obtain ⟨hi, hf⟩ := ck_some hf
  obtain ⟨S_11, eS_11, hf⟩ := lt_some hf
  refine g_zast (S1 := S_11) hx hb hK hP wM_D hS 15 1 wM_a18 rfl hi (by rw [eS_11]; exact wM_sa_18) dX7_learn_11 (fun H locs hP hS => ?_)
  refine lv_aload_n hx hb dX7_learn_12 rfl (lv_at hl 0 rfl) ?_
  refine g_get F hK hP inA7 0 wM_o rfl 17 (by decide) wd_769 (v := .ref (b + 14)) rfl dX7_learn_13 ?_
  refine lv_bipush (v := 90) hx hb dX7_learn_16 (by decide) ?_
  refine lv_iload_n hx hb dX7_learn_18 rfl (lv_at hl 1 rfl) ?_
  refine lv_imul hx hb dX7_learn_19 ?_
  refine lv_aload_n hx hb dX7_learn_20 rfl (lv_at hl 0 rfl) ?_
  refine g_get F hK hP inA7 0 wM_o rfl 16 (by decide) wd_768 (v := .ref (b + 13)) rfl dX7_learn_21 ?_
  refine lv_iload_n hx hb dX7_learn_24 rfl (lv_at hl 1 rfl) ?_
  obtain ⟨hi, hf⟩ := ck_some hf
  refine va_iald hx hb hK hP 13 0 wM_a16 rfl hi dX7_learn_25 ?_
  refine lv_iadd hx hb dX7_learn_26 ?_
  refine lv_iload_n hx hb dX7_learn_27 rfl (lv_at hl 2 rfl) ?_
  obtain ⟨hi, hf⟩ := ck_some hf
  obtain ⟨S_28, eS_28, hf⟩ := lt_some hf
  refine g_iast (S1 := S_28) hx hb hK hP wM_D hS 14 0 wM_a17 rfl hi (by rw [eS_28]; exact wM_sa_17) dX7_learn_28 (fun H locs hP hS => ?_)
  refine lv_aload_n hx hb dX7_learn_29 rfl (lv_at hl 0 rfl) ?_
  refine g_get F hK hP inA7 0 wM_o rfl 16 (by decide) wd_768 (v := .ref (b + 13)) rfl dX7_learn_30 ?_
  refine lv_iload_n hx hb dX7_learn_33 rfl (lv_at hl 1 rfl) ?_
  refine lv_dup2_11 hx hb dX7_learn_34 rfl rfl ?_
  obtain ⟨hi, hf⟩ := ck_some hf
  refine va_iald hx hb hK hP 13 0 wM_a16 rfl hi dX7_learn_35 ?_
  refine lv_iconst (v := 1) hx hb dX7_learn_36 (by decide) ?_
  refine lv_iadd hx hb dX7_learn_37 ?_
  obtain ⟨hi, hf⟩ := ck_some hf
  obtain ⟨S_38, eS_38, hf⟩ := lt_some hf
  refine g_iast (S1 := S_38) hx hb hK hP wM_D hS 13 0 wM_a16 rfl hi (by rw [eS_38]; exact wM_sa_16) dX7_learn_38 (fun H locs hP hS => ?_)
  exact g_vret F hr hlocks hQ hK hP hS (Option.some.inj hf) dX7_learn_39
abbrev rm_X7_deed : Room := { frames := 1, cells := 0, slots := 0, locals := 22 }
theorem hd_X7_deed : yX7_deed.cls = RX7 ∧ yX7_deed.cls ≠ "java/lang/invoke/MethodHandle" ∧ yX7_deed.cls ≠ "java/lang/invoke/VarHandle" ∧ (parseMethodDescriptor yX7_deed.desc).map (fun d => d.parameters.length) = some 4 := by decide +kernel
set_option maxRecDepth 100000 in
set_option maxHeartbeats 4000000 in
theorem c_X7_deed (l : Launch) (D : va_G) (cI cO : ClassId) (b : Nat) (S : St) (x1 : Int32) (x2 : Int32) (x3 : Int32) (x4 : Int32) (r : Int32) (S1 : St) (hf : f_X7_deed S x1 x2 x3 x4 = some (r, S1)) : Met l yX7_deed (Cond.code yX7_deed cX7_deed 5 (some .int) :: wsAll) rm_X7_deed (PX D (wM cI cO b) (tyM cI cO) S [.ref (b + 0), .int x1, .int x2, .int x3, .int x4]) (Qi D (wM cI cO b) (tyM cI cO) (AM b) r S1) 0 0 (AM b) := by
  unfold f_X7_deed at hf
  refine g_met RX7 (by decide +kernel) (Nat.le_of_ble_eq_true rfl) rfl ?_
  intro p e s m args below meth c ls Q F hr hlocks hK hP hl hQ
  have hx := F.1
  have hb := F.2.1
  have hS : va_S (AM b) s.heap s.heap [] := va_S.rf
  have hl : lv_has ls 5 [(0, .ref (b + 0)), (1, .int x1), (2, .int x2), (3, .int x3), (4, .int x4)] := hl
  refine lv_aload_n hx hb dX7_deed_0 rfl (lv_at hl 0 rfl) ?_
  refine g_get F hK hP inA7 0 wM_o rfl 15 (by decide) wd_767 (v := .ref (b + 12)) rfl dX7_deed_1 ?_
  refine lv_iload_n hx hb dX7_deed_4 rfl (lv_at hl 1 rfl) ?_
  refine lv_dup2_11 hx hb dX7_deed_5 rfl rfl ?_
  obtain ⟨hi, hf⟩ := ck_some hf
  refine va_iald hx hb hK hP 12 0 wM_a15 rfl hi dX7_deed_6 ?_
  refine lv_iconst (v := 1) hx hb dX7_deed_7 (by decide) ?_
  refine lv_iadd hx hb dX7_deed_8 ?_
  obtain ⟨hi, hf⟩ := ck_some hf
  obtain ⟨S_9, eS_9, hf⟩ := lt_some hf
  refine g_iast (S1 := S_9) hx hb hK hP wM_D hS 12 0 wM_a15 rfl hi (by rw [eS_9]; exact wM_sa_15) dX7_deed_9 (fun H locs hP hS => ?_)
  refine lv_aload_n hx hb dX7_deed_10 rfl (lv_at hl 0 rfl) ?_
  refine g_get F hK hP inA7 0 wM_o rfl 2 (by decide) wd_754 (v := .ref (b + 1)) rfl dX7_deed_11 ?_
  refine lv_aload_n hx hb dX7_deed_14 rfl (lv_at hl 0 rfl) ?_
  refine g_get F hK hP inA7 0 wM_o rfl 1 (by decide) wd_753 (v := .int (gi S_9 1)) rfl dX7_deed_15 ?_
  refine lv_iload_n hx hb dX7_deed_18 rfl (lv_at hl 2 rfl) ?_
  obtain ⟨hi, hf⟩ := ck_some hf
  obtain ⟨S_19, eS_19, hf⟩ := lt_some hf
  refine g_iast (S1 := S_19) hx hb hK hP wM_D hS 1 0 wM_a2 rfl hi (by rw [eS_19]; exact wM_sa_2) dX7_deed_19 (fun H locs hP hS => ?_)
  refine lv_aload_n hx hb dX7_deed_20 rfl (lv_at hl 0 rfl) ?_
  refine g_get F hK hP inA7 0 wM_o rfl 3 (by decide) wd_755 (v := .ref (b + 2)) rfl dX7_deed_21 ?_
  refine lv_aload_n hx hb dX7_deed_24 rfl (lv_at hl 0 rfl) ?_
  refine g_get F hK hP inA7 0 wM_o rfl 1 (by decide) wd_753 (v := .int (gi S_19 1)) rfl dX7_deed_25 ?_
  refine lv_aload_n hx hb dX7_deed_28 rfl (lv_at hl 0 rfl) ?_
  refine g_get F hK hP inA7 0 wM_o rfl 15 (by decide) wd_767 (v := .ref (b + 12)) rfl dX7_deed_29 ?_
  refine lv_iload_n hx hb dX7_deed_32 rfl (lv_at hl 1 rfl) ?_
  obtain ⟨hi, hf⟩ := ck_some hf
  refine va_iald hx hb hK hP 12 0 wM_a15 rfl hi dX7_deed_33 ?_
  obtain ⟨hi, hf⟩ := ck_some hf
  obtain ⟨S_34, eS_34, hf⟩ := lt_some hf
  refine g_iast (S1 := S_34) hx hb hK hP wM_D hS 2 0 wM_a3 rfl hi (by rw [eS_34]; exact wM_sa_3) dX7_deed_34 (fun H locs hP hS => ?_)
  refine lv_aload_n hx hb dX7_deed_35 rfl (lv_at hl 0 rfl) ?_
  refine g_get F hK hP inA7 0 wM_o rfl 4 (by decide) wd_756 (v := .ref (b + 3)) rfl dX7_deed_36 ?_
  refine lv_aload_n hx hb dX7_deed_39 rfl (lv_at hl 0 rfl) ?_
  refine g_get F hK hP inA7 0 wM_o rfl 1 (by decide) wd_753 (v := .int (gi S_34 1)) rfl dX7_deed_40 ?_
  refine lv_iload_n hx hb dX7_deed_43 rfl (lv_at hl 1 rfl) ?_
  obtain ⟨hi, hf⟩ := ck_some hf
  obtain ⟨S_44, eS_44, hf⟩ := lt_some hf
  refine g_iast (S1 := S_44) hx hb hK hP wM_D hS 3 0 wM_a4 rfl hi (by rw [eS_44]; exact wM_sa_4) dX7_deed_44 (fun H locs hP hS => ?_)
  refine lv_aload_n hx hb dX7_deed_45 rfl (lv_at hl 0 rfl) ?_
  refine g_get F hK hP inA7 0 wM_o rfl 5 (by decide) wd_757 (v := .ref (b + 4)) rfl dX7_deed_46 ?_
  refine lv_aload_n hx hb dX7_deed_49 rfl (lv_at hl 0 rfl) ?_
  refine g_get F hK hP inA7 0 wM_o rfl 1 (by decide) wd_753 (v := .int (gi S_44 1)) rfl dX7_deed_50 ?_
  refine lv_iload_n hx hb dX7_deed_53 rfl (lv_at hl 3 rfl) ?_
  obtain ⟨hi, hf⟩ := ck_some hf
  obtain ⟨S_54, eS_54, hf⟩ := lt_some hf
  refine g_iast (S1 := S_54) hx hb hK hP wM_D hS 4 0 wM_a5 rfl hi (by rw [eS_54]; exact wM_sa_5) dX7_deed_54 (fun H locs hP hS => ?_)
  refine lv_aload_n hx hb dX7_deed_55 rfl (lv_at hl 0 rfl) ?_
  refine g_get F hK hP inA7 0 wM_o rfl 6 (by decide) wd_758 (v := .ref (b + 5)) rfl dX7_deed_56 ?_
  refine lv_aload_n hx hb dX7_deed_59 rfl (lv_at hl 0 rfl) ?_
  refine g_get F hK hP inA7 0 wM_o rfl 1 (by decide) wd_753 (v := .int (gi S_54 1)) rfl dX7_deed_60 ?_
  refine lv_iload hx hb dX7_deed_63 (lv_at hl 4 rfl) ?_
  obtain ⟨hi, hf⟩ := ck_some hf
  obtain ⟨S_65, eS_65, hf⟩ := lt_some hf
  refine g_iast (S1 := S_65) hx hb hK hP wM_D hS 5 0 wM_a6 rfl hi (by rw [eS_65]; exact wM_sa_6) dX7_deed_65 (fun H locs hP hS => ?_)
  refine lv_aload_n hx hb dX7_deed_66 rfl (lv_at hl 0 rfl) ?_
  refine lv_dup hx hb dX7_deed_67 rfl ?_
  refine g_get F hK hP inA7 0 wM_o rfl 1 (by decide) wd_753 (v := .int (gi S_65 1)) rfl dX7_deed_68 ?_
  refine lv_iconst (v := 1) hx hb dX7_deed_71 (by decide) ?_
  refine lv_iadd hx hb dX7_deed_72 ?_
  obtain ⟨S_73, eS_73, hf⟩ := lt_some hf
  refine g_puti (S1 := S_73) F hK hP wM_D hS inA7 tyX7 tyX7_ok nmX7 0 wM_o rfl 1 (by decide) wd_753 rfl (by decide +kernel) (Nat.le_of_ble_eq_true rfl) (by rw [eS_73]; exact wM_si_1) dX7_deed_73 (fun H locs hP hS => ?_)
  refine lv_aload_n hx hb dX7_deed_76 rfl (lv_at hl 0 rfl) ?_
  refine lv_iload_n hx hb dX7_deed_77 rfl (lv_at hl 1 rfl) ?_
  refine lv_aload_n hx hb dX7_deed_78 rfl (lv_at hl 0 rfl) ?_
  refine g_get F hK hP inA7 0 wM_o rfl 1 (by decide) wd_753 (v := .int (gi S_73 1)) rfl dX7_deed_79 ?_
  refine lv_iconst (v := 1) hx hb dX7_deed_82 (by decide) ?_
  refine lv_isub hx hb dX7_deed_83 ?_
  obtain ⟨S_84, q84, hf⟩ := cl_some hf
  refine g_callv F hK hP hS [.int x1, .int ((gi S_73 1) - (1 : Int32))] (c_X7_learn l D cI cO b S_73 x1 ((gi S_73 1) - (1 : Int32)) S_84 q84) wd_873 wd_875 wp_26 wd_9 wd_876 wM_o rfl hd_X7_learn rfl rfl ⟨Nat.le_of_ble_eq_true rfl, Nat.le_of_ble_eq_true rfl⟩ rfl hl (rest := []) rfl (Nat.le_of_ble_eq_true rfl) dX7_deed_84 ⟨Nat.le_of_ble_eq_true rfl, Nat.le_of_ble_eq_true rfl⟩ (fun H locs hP hS => ?_)
  refine lv_aload_n hx hb dX7_deed_87 rfl (lv_at hl 0 rfl) ?_
  refine g_get F hK hP inA7 0 wM_o rfl 1 (by decide) wd_753 (v := .int (gi S_84 1)) rfl dX7_deed_88 ?_
  refine lv_iconst (v := 1) hx hb dX7_deed_91 (by decide) ?_
  refine lv_isub hx hb dX7_deed_92 ?_
  exact g_iret F hr hlocks hQ hK hP hS (Prod.mk.inj (Option.some.inj hf)).1 (Prod.mk.inj (Option.some.inj hf)).2 dX7_deed_93
abbrev rm_X7_insert : Room := { frames := 2, cells := 0, slots := 0, locals := 46 }
theorem hd_X7_insert : yX7_insert.cls = RX7 ∧ yX7_insert.cls ≠ "java/lang/invoke/MethodHandle" ∧ yX7_insert.cls ≠ "java/lang/invoke/VarHandle" ∧ (parseMethodDescriptor yX7_insert.desc).map (fun d => d.parameters.length) = some 4 := by decide +kernel
set_option maxRecDepth 100000 in
set_option maxHeartbeats 4000000 in
theorem c_X7_insert (l : Launch) (D : va_G) (cI cO : ClassId) (b : Nat) (S : St) (x1 : Int32) (x2 : Int32) (x3 : Int32) (x4 : Int32) (r : Int32) (S1 : St) (hf : f_X7_insert S x1 x2 x3 x4 = some (r, S1)) : Met l yX7_insert (Cond.code yX7_insert cX7_insert 7 (some .int) :: wsAll) rm_X7_insert (PX D (wM cI cO b) (tyM cI cO) S [.ref (b + 0), .int x1, .int x2, .int x3, .int x4]) (Qi D (wM cI cO b) (tyM cI cO) (AM b) r S1) 0 0 (AM b) := by
  unfold f_X7_insert at hf
  refine g_met RX7 (by decide +kernel) (Nat.le_of_ble_eq_true rfl) rfl ?_
  intro p e s m args below meth c ls Q F hr hlocks hK hP hl hQ
  have hx := F.1
  have hb := F.2.1
  have hS : va_S (AM b) s.heap s.heap [] := va_S.rf
  have hl : lv_has ls 7 [(0, .ref (b + 0)), (1, .int x1), (2, .int x2), (3, .int x3), (4, .int x4)] := hl
  refine lv_iload_n hx hb dX7_insert_0 rfl (lv_at hl 1 rfl) ?_
  obtain ⟨v1, q1, hf⟩ := cl_some hf
  refine g_callSi F hK hP hS [.int x1] (c_X7_isSite l D cI cO b S x1 v1 q1) wd_855 wd_856 wd_9 wd_857 hd_X7_isSite rfl rfl ⟨Nat.le_of_ble_eq_true rfl, Nat.le_of_ble_eq_true rfl⟩ rfl hl (rest := []) rfl (Nat.le_of_ble_eq_true rfl) dX7_insert_1 ⟨Nat.zero_le _, Nat.zero_le _⟩ (fun H locs hP hS => ?_)
  obtain ⟨J25, eJ25, hf⟩ := jn_some hf
  have kJ25 : ∀ (H : Heap) (locs : List Loc) (ls : Array Slot), J25 = some (r, S1) → va_P D vwCl ((wM cI cO b) S) H → va_S (AM b) s.heap H locs → lv_has ls 7 [(0, .ref (b + 0)), (1, .int x1), (2, .int x2), (3, .int x3), (4, .int x4)] → W p l e rm_X7_insert s m args below meth c H locs 0 0 Q (F0 m 25 ls []) := by
    intro  H locs ls hf hP hS hl
    rw [eJ25] at hf
    refine lv_iconst (v := 0) hx hb dX7_insert_25 (by decide) ?_
    refine lv_istore (lv' := [(5, .int (0 : Int32)), (0, .ref (b + 0)), (1, .int x1), (2, .int x2), (3, .int x3), (4, .int x4)]) hx hb dX7_insert_26 hl (by decide) rfl (fun ls hl => ?_)
    refine lv_iload_n hx hb dX7_insert_28 rfl (lv_at hl 4 rfl) ?_
    refine lv_iconst (v := 0) hx hb dX7_insert_29 (by decide) ?_
    refine lv_bipush (v := 99) hx hb dX7_insert_30 (by decide) ?_
    obtain ⟨v32, q32, hf⟩ := cl_some hf
    refine g_callSi F hK hP hS [.int x3, .int (0 : Int32), .int (99 : Int32)] (c_X7_in l D cI cO b S x3 (0 : Int32) (99 : Int32) v32 q32) wd_858 wd_859 wd_9 wd_860 hd_X7_in rfl rfl ⟨Nat.le_of_ble_eq_true rfl, Nat.le_of_ble_eq_true rfl⟩ rfl hl (rest := []) rfl (Nat.le_of_ble_eq_true rfl) dX7_insert_32 ⟨Nat.zero_le _, Nat.zero_le _⟩ (fun H locs hP hS => ?_)
    refine lv_istore (lv' := [(6, .int v32), (5, .int (0 : Int32)), (0, .ref (b + 0)), (1, .int x1), (2, .int x2), (3, .int x3), (4, .int x4)]) hx hb dX7_insert_35 hl (by decide) rfl (fun ls hl => ?_)
    refine lv_aload_n hx hb dX7_insert_37 rfl (lv_at hl 2 rfl) ?_
    refine lv_iload hx hb dX7_insert_38 (lv_at hl 1 rfl) ?_
    obtain ⟨J70, eJ70, hf⟩ := jn_some hf
    have kJ70 : ∀ (t0_70 : Int32) (H : Heap) (locs : List Loc) (ls : Array Slot), J70 t0_70 = some (r, S1) → va_P D vwCl ((wM cI cO b) S) H → va_S (AM b) s.heap H locs → lv_has ls 7 [(0, .ref (b + 0)), (1, .int x1), (2, .int x2), (3, .int x3), (4, .int x4)] → W p l e rm_X7_insert s m args below meth c H locs 0 0 Q (F0 m 70 ls [.int t0_70, .ref (b + 0)]) := by
      intro t0_70 H locs ls hf hP hS hl
      rw [eJ70] at hf
      obtain ⟨v70, S_70, q70, hf⟩ := cl2_some hf
      refine g_calli F hK hP hS [.int t0_70] (c_X7_goesWell l D cI cO b S t0_70 v70 S_70 q70) wd_865 wd_867 wp_24 wd_9 wd_868 wM_o rfl hd_X7_goesWell rfl rfl ⟨Nat.le_of_ble_eq_true rfl, Nat.le_of_ble_eq_true rfl⟩ rfl hl (rest := []) rfl (Nat.le_of_ble_eq_true rfl) dX7_insert_70 ⟨Nat.le_of_ble_eq_true rfl, Nat.le_of_ble_eq_true rfl⟩ (fun H locs hP hS => ?_)
      refine lv_if_ne (tgt := 78) hx hb dX7_insert_73 (by decide) (fun q => ?_) (fun q => ?_)
      · replace hf := ite_t q hf
        refine lv_aload_n hx hb dX7_insert_78 rfl (lv_at hl 0 rfl) ?_
        refine g_get F hK hP inA7 0 wM_o rfl 9 (by decide) wd_761 (v := .ref (b + 7)) rfl dX7_insert_79 ?_
        refine lv_aload_n hx hb dX7_insert_82 rfl (lv_at hl 0 rfl) ?_
        refine g_get F hK hP inA7 0 wM_o rfl 7 (by decide) wd_759 (v := .int (gi S_70 7)) rfl dX7_insert_83 ?_
        refine lv_iload_n hx hb dX7_insert_86 rfl (lv_at hl 2 rfl) ?_
        obtain ⟨hi, hf⟩ := ck_some hf
        obtain ⟨S_87, eS_87, hf⟩ := lt_some hf
        refine g_iast (S1 := S_87) hx hb hK hP wM_D hS 7 0 wM_a9 rfl hi (by rw [eS_87]; exact wM_sa_9) dX7_insert_87 (fun H locs hP hS => ?_)
        refine lv_aload_n hx hb dX7_insert_88 rfl (lv_at hl 0 rfl) ?_
        refine g_get F hK hP inA7 0 wM_o rfl 10 (by decide) wd_762 (v := .ref (b + 8)) rfl dX7_insert_89 ?_
        refine lv_aload_n hx hb dX7_insert_92 rfl (lv_at hl 0 rfl) ?_
        refine g_get F hK hP inA7 0 wM_o rfl 7 (by decide) wd_759 (v := .int (gi S_87 7)) rfl dX7_insert_93 ?_
        refine lv_iload_n hx hb dX7_insert_96 rfl (lv_at hl 3 rfl) ?_
        obtain ⟨hi, hf⟩ := ck_some hf
        obtain ⟨S_97, eS_97, hf⟩ := lt_some hf
        refine g_iast (S1 := S_97) hx hb hK hP wM_D hS 8 0 wM_a10 rfl hi (by rw [eS_97]; exact wM_sa_10) dX7_insert_97 (fun H locs hP hS => ?_)
        refine lv_aload_n hx hb dX7_insert_98 rfl (lv_at hl 0 rfl) ?_
        refine g_get F hK hP inA7 0 wM_o rfl 11 (by decide) wd_763 (v := .ref (b + 9)) rfl dX7_insert_99 ?_
        refine lv_aload_n hx hb dX7_insert_102 rfl (lv_at hl 0 rfl) ?_
        refine g_get F hK hP inA7 0 wM_o rfl 7 (by decide) wd_759 (v := .int (gi S_97 7)) rfl dX7_insert_103 ?_
        refine lv_iload hx hb dX7_insert_106 (lv_at hl 4 rfl) ?_
        obtain ⟨hi, hf⟩ := ck_some hf
        obtain ⟨S_108, eS_108, hf⟩ := lt_some hf
        refine g_zast (S1 := S_108) hx hb hK hP wM_D hS 9 1 wM_a11 rfl hi (by rw [eS_108]; exact wM_sa_11) dX7_insert_108 (fun H locs hP hS => ?_)
        refine lv_aload_n hx hb dX7_insert_109 rfl (lv_at hl 0 rfl) ?_
        refine lv_dup hx hb dX7_insert_110 rfl ?_
        refine g_get F hK hP inA7 0 wM_o rfl 7 (by decide) wd_759 (v := .int (gi S_108 7)) rfl dX7_insert_111 ?_
        refine lv_iconst (v := 1) hx hb dX7_insert_114 (by decide) ?_
        refine lv_iadd hx hb dX7_insert_115 ?_
        obtain ⟨S_116, eS_116, hf⟩ := lt_some hf
        refine g_puti (S1 := S_116) F hK hP wM_D hS inA7 tyX7 tyX7_ok nmX7 0 wM_o rfl 7 (by decide) wd_759 rfl (by decide +kernel) (Nat.le_of_ble_eq_true rfl) (by rw [eS_116]; exact wM_si_7) dX7_insert_116 (fun H locs hP hS => ?_)
        refine lv_aload_n hx hb dX7_insert_119 rfl (lv_at hl 0 rfl) ?_
        refine g_get F hK hP inA7 0 wM_o rfl 8 (by decide) wd_760 (v := .ref (b + 6)) rfl dX7_insert_120 ?_
        refine lv_aload_n hx hb dX7_insert_123 rfl (lv_at hl 0 rfl) ?_
        refine g_get F hK hP inA7 0 wM_o rfl 7 (by decide) wd_759 (v := .int (gi S_116 7)) rfl dX7_insert_124 ?_
        refine lv_iconst (v := 1) hx hb dX7_insert_127 (by decide) ?_
        refine lv_isub hx hb dX7_insert_128 ?_
        refine lv_aload_n hx hb dX7_insert_129 rfl (lv_at hl 0 rfl) ?_
        refine lv_iload_n hx hb dX7_insert_130 rfl (lv_at hl 1 rfl) ?_
        refine lv_iconst (v := 0) hx hb dX7_insert_131 (by decide) ?_
        refine lv_aload_n hx hb dX7_insert_132 rfl (lv_at hl 0 rfl) ?_
        refine g_get F hK hP inA7 0 wM_o rfl 7 (by decide) wd_759 (v := .int (gi S_116 7)) rfl dX7_insert_133 ?_
        refine lv_iconst (v := 1) hx hb dX7_insert_136 (by decide) ?_
        refine lv_isub hx hb dX7_insert_137 ?_
        refine lv_iconst (v := -1) hx hb dX7_insert_138 (by decide) ?_
        obtain ⟨v139, S_139, q139, hf⟩ := cl2_some hf
        refine g_calli F hK hP hS [.int x1, .int (0 : Int32), .int ((gi S_116 7) - (1 : Int32)), .int (-1 : Int32)] (c_X7_deed l D cI cO b S_116 x1 (0 : Int32) ((gi S_116 7) - (1 : Int32)) (-1 : Int32) v139 S_139 q139) wd_869 wd_871 wp_25 wd_9 wd_872 wM_o rfl hd_X7_deed rfl rfl ⟨Nat.le_of_ble_eq_true rfl, Nat.le_of_ble_eq_true rfl⟩ rfl hl (rest := [.int ((gi S_116 7) - (1 : Int32)), .ref (b + 6)]) rfl (Nat.le_of_ble_eq_true rfl) dX7_insert_139 ⟨Nat.le_of_ble_eq_true rfl, Nat.le_of_ble_eq_true rfl⟩ (fun H locs hP hS => ?_)
        obtain ⟨hi, hf⟩ := ck_some hf
        obtain ⟨S_142, eS_142, hf⟩ := lt_some hf
        refine g_iast (S1 := S_142) hx hb hK hP wM_D hS 6 0 wM_a8 rfl hi (by rw [eS_142]; exact wM_sa_8) dX7_insert_142 (fun H locs hP hS => ?_)
        refine lv_aload_n hx hb dX7_insert_143 rfl (lv_at hl 0 rfl) ?_
        refine g_get F hK hP inA7 0 wM_o rfl 7 (by decide) wd_759 (v := .int (gi S_142 7)) rfl dX7_insert_144 ?_
        refine lv_iconst (v := 1) hx hb dX7_insert_147 (by decide) ?_
        refine lv_isub hx hb dX7_insert_148 ?_
        exact g_iret F hr hlocks hQ hK hP hS (Prod.mk.inj (Option.some.inj hf)).1 (Prod.mk.inj (Option.some.inj hf)).2 dX7_insert_149
      · replace hf := ite_f (fun h => h q) hf
        refine lv_iconst (v := 0) hx hb dX7_insert_76 (by decide) ?_
        exact g_iret F hr hlocks hQ hK hP hS (Prod.mk.inj (Option.some.inj hf)).1 (Prod.mk.inj (Option.some.inj hf)).2 dX7_insert_77
    clear eJ70
    refine lv_if_ne (tgt := 47) hx hb dX7_insert_40 (by decide) (fun q => ?_) (fun q => ?_)
    · replace hf := ite_t q hf
      refine lv_iload hx hb dX7_insert_47 (lv_at hl 0 rfl) ?_
      refine lv_if_ne (tgt := 56) hx hb dX7_insert_49 (by decide) (fun q => ?_) (fun q => ?_)
      · replace hf := ite_t q hf
        refine lv_aload_n hx hb dX7_insert_56 rfl (lv_at hl 2 rfl) ?_
        refine g_get F hK hP inA7 0 wM_o rfl 1 (by decide) wd_753 (v := .int (gi S 1)) rfl dX7_insert_57 ?_
        refine lv_bipush (v := 90) hx hb dX7_insert_60 (by decide) ?_
        refine lv_icmp_ne (tgt := 69) hx hb dX7_insert_62 (by decide) (fun q => ?_) (fun q => ?_)
        · replace hf := ite_t q hf
          refine lv_iconst (v := 0) hx hb dX7_insert_69 (by decide) ?_
          exact kJ70 _ _ _ _ hf hP hS (lv_sub hl [2, 3, 4, 5, 6] rfl)
        · replace hf := ite_f (fun h => h q) hf
          refine lv_iconst (v := 3) hx hb dX7_insert_65 (by decide) ?_
          refine lv_goto (tgt := 70) hx hb dX7_insert_66 (by decide) ?_
          exact kJ70 _ _ _ _ hf hP hS (lv_sub hl [2, 3, 4, 5, 6] rfl)
      · replace hf := ite_f (fun h => h q) hf
        refine lv_iconst (v := 2) hx hb dX7_insert_52 (by decide) ?_
        refine lv_goto (tgt := 70) hx hb dX7_insert_53 (by decide) ?_
        exact kJ70 _ _ _ _ hf hP hS (lv_sub hl [2, 3, 4, 5, 6] rfl)
    · replace hf := ite_f (fun h => h q) hf
      refine lv_iconst (v := 1) hx hb dX7_insert_43 (by decide) ?_
      refine lv_goto (tgt := 70) hx hb dX7_insert_44 (by decide) ?_
      exact kJ70 _ _ _ _ hf hP hS (lv_sub hl [2, 3, 4, 5, 6] rfl)
  clear eJ25
  obtain ⟨J26, eJ26, hf⟩ := jn_some hf
  have kJ26 : ∀ (t0_26 : Int32) (H : Heap) (locs : List Loc) (ls : Array Slot), J26 t0_26 = some (r, S1) → va_P D vwCl ((wM cI cO b) S) H → va_S (AM b) s.heap H locs → lv_has ls 7 [(0, .ref (b + 0)), (1, .int x1), (2, .int x2), (3, .int x3), (4, .int x4)] → W p l e rm_X7_insert s m args below meth c H locs 0 0 Q (F0 m 26 ls [.int t0_26]) := by
    intro t0_26 H locs ls hf hP hS hl
    rw [eJ26] at hf
    refine lv_istore (lv' := [(5, .int t0_26), (0, .ref (b + 0)), (1, .int x1), (2, .int x2), (3, .int x3), (4, .int x4)]) hx hb dX7_insert_26 hl (by decide) rfl (fun ls hl => ?_)
    refine lv_iload_n hx hb dX7_insert_28 rfl (lv_at hl 4 rfl) ?_
    refine lv_iconst (v := 0) hx hb dX7_insert_29 (by decide) ?_
    refine lv_bipush (v := 99) hx hb dX7_insert_30 (by decide) ?_
    obtain ⟨v32, q32, hf⟩ := cl_some hf
    refine g_callSi F hK hP hS [.int x3, .int (0 : Int32), .int (99 : Int32)] (c_X7_in l D cI cO b S x3 (0 : Int32) (99 : Int32) v32 q32) wd_858 wd_859 wd_9 wd_860 hd_X7_in rfl rfl ⟨Nat.le_of_ble_eq_true rfl, Nat.le_of_ble_eq_true rfl⟩ rfl hl (rest := []) rfl (Nat.le_of_ble_eq_true rfl) dX7_insert_32 ⟨Nat.zero_le _, Nat.zero_le _⟩ (fun H locs hP hS => ?_)
    refine lv_istore (lv' := [(6, .int v32), (5, .int t0_26), (0, .ref (b + 0)), (1, .int x1), (2, .int x2), (3, .int x3), (4, .int x4)]) hx hb dX7_insert_35 hl (by decide) rfl (fun ls hl => ?_)
    refine lv_aload_n hx hb dX7_insert_37 rfl (lv_at hl 2 rfl) ?_
    refine lv_iload hx hb dX7_insert_38 (lv_at hl 1 rfl) ?_
    obtain ⟨J70, eJ70, hf⟩ := jn_some hf
    have kJ70 : ∀ (t0_70 : Int32) (H : Heap) (locs : List Loc) (ls : Array Slot), J70 t0_70 = some (r, S1) → va_P D vwCl ((wM cI cO b) S) H → va_S (AM b) s.heap H locs → lv_has ls 7 [(0, .ref (b + 0)), (1, .int x1), (2, .int x2), (3, .int x3), (4, .int x4)] → W p l e rm_X7_insert s m args below meth c H locs 0 0 Q (F0 m 70 ls [.int t0_70, .ref (b + 0)]) := by
      intro t0_70 H locs ls hf hP hS hl
      rw [eJ70] at hf
      obtain ⟨v70, S_70, q70, hf⟩ := cl2_some hf
      refine g_calli F hK hP hS [.int t0_70] (c_X7_goesWell l D cI cO b S t0_70 v70 S_70 q70) wd_865 wd_867 wp_24 wd_9 wd_868 wM_o rfl hd_X7_goesWell rfl rfl ⟨Nat.le_of_ble_eq_true rfl, Nat.le_of_ble_eq_true rfl⟩ rfl hl (rest := []) rfl (Nat.le_of_ble_eq_true rfl) dX7_insert_70 ⟨Nat.le_of_ble_eq_true rfl, Nat.le_of_ble_eq_true rfl⟩ (fun H locs hP hS => ?_)
      refine lv_if_ne (tgt := 78) hx hb dX7_insert_73 (by decide) (fun q => ?_) (fun q => ?_)
      · replace hf := ite_t q hf
        refine lv_aload_n hx hb dX7_insert_78 rfl (lv_at hl 0 rfl) ?_
        refine g_get F hK hP inA7 0 wM_o rfl 9 (by decide) wd_761 (v := .ref (b + 7)) rfl dX7_insert_79 ?_
        refine lv_aload_n hx hb dX7_insert_82 rfl (lv_at hl 0 rfl) ?_
        refine g_get F hK hP inA7 0 wM_o rfl 7 (by decide) wd_759 (v := .int (gi S_70 7)) rfl dX7_insert_83 ?_
        refine lv_iload_n hx hb dX7_insert_86 rfl (lv_at hl 2 rfl) ?_
        obtain ⟨hi, hf⟩ := ck_some hf
        obtain ⟨S_87, eS_87, hf⟩ := lt_some hf
        refine g_iast (S1 := S_87) hx hb hK hP wM_D hS 7 0 wM_a9 rfl hi (by rw [eS_87]; exact wM_sa_9) dX7_insert_87 (fun H locs hP hS => ?_)
        refine lv_aload_n hx hb dX7_insert_88 rfl (lv_at hl 0 rfl) ?_
        refine g_get F hK hP inA7 0 wM_o rfl 10 (by decide) wd_762 (v := .ref (b + 8)) rfl dX7_insert_89 ?_
        refine lv_aload_n hx hb dX7_insert_92 rfl (lv_at hl 0 rfl) ?_
        refine g_get F hK hP inA7 0 wM_o rfl 7 (by decide) wd_759 (v := .int (gi S_87 7)) rfl dX7_insert_93 ?_
        refine lv_iload_n hx hb dX7_insert_96 rfl (lv_at hl 3 rfl) ?_
        obtain ⟨hi, hf⟩ := ck_some hf
        obtain ⟨S_97, eS_97, hf⟩ := lt_some hf
        refine g_iast (S1 := S_97) hx hb hK hP wM_D hS 8 0 wM_a10 rfl hi (by rw [eS_97]; exact wM_sa_10) dX7_insert_97 (fun H locs hP hS => ?_)
        refine lv_aload_n hx hb dX7_insert_98 rfl (lv_at hl 0 rfl) ?_
        refine g_get F hK hP inA7 0 wM_o rfl 11 (by decide) wd_763 (v := .ref (b + 9)) rfl dX7_insert_99 ?_
        refine lv_aload_n hx hb dX7_insert_102 rfl (lv_at hl 0 rfl) ?_
        refine g_get F hK hP inA7 0 wM_o rfl 7 (by decide) wd_759 (v := .int (gi S_97 7)) rfl dX7_insert_103 ?_
        refine lv_iload hx hb dX7_insert_106 (lv_at hl 4 rfl) ?_
        obtain ⟨hi, hf⟩ := ck_some hf
        obtain ⟨S_108, eS_108, hf⟩ := lt_some hf
        refine g_zast (S1 := S_108) hx hb hK hP wM_D hS 9 1 wM_a11 rfl hi (by rw [eS_108]; exact wM_sa_11) dX7_insert_108 (fun H locs hP hS => ?_)
        refine lv_aload_n hx hb dX7_insert_109 rfl (lv_at hl 0 rfl) ?_
        refine lv_dup hx hb dX7_insert_110 rfl ?_
        refine g_get F hK hP inA7 0 wM_o rfl 7 (by decide) wd_759 (v := .int (gi S_108 7)) rfl dX7_insert_111 ?_
        refine lv_iconst (v := 1) hx hb dX7_insert_114 (by decide) ?_
        refine lv_iadd hx hb dX7_insert_115 ?_
        obtain ⟨S_116, eS_116, hf⟩ := lt_some hf
        refine g_puti (S1 := S_116) F hK hP wM_D hS inA7 tyX7 tyX7_ok nmX7 0 wM_o rfl 7 (by decide) wd_759 rfl (by decide +kernel) (Nat.le_of_ble_eq_true rfl) (by rw [eS_116]; exact wM_si_7) dX7_insert_116 (fun H locs hP hS => ?_)
        refine lv_aload_n hx hb dX7_insert_119 rfl (lv_at hl 0 rfl) ?_
        refine g_get F hK hP inA7 0 wM_o rfl 8 (by decide) wd_760 (v := .ref (b + 6)) rfl dX7_insert_120 ?_
        refine lv_aload_n hx hb dX7_insert_123 rfl (lv_at hl 0 rfl) ?_
        refine g_get F hK hP inA7 0 wM_o rfl 7 (by decide) wd_759 (v := .int (gi S_116 7)) rfl dX7_insert_124 ?_
        refine lv_iconst (v := 1) hx hb dX7_insert_127 (by decide) ?_
        refine lv_isub hx hb dX7_insert_128 ?_
        refine lv_aload_n hx hb dX7_insert_129 rfl (lv_at hl 0 rfl) ?_
        refine lv_iload_n hx hb dX7_insert_130 rfl (lv_at hl 1 rfl) ?_
        refine lv_iconst (v := 0) hx hb dX7_insert_131 (by decide) ?_
        refine lv_aload_n hx hb dX7_insert_132 rfl (lv_at hl 0 rfl) ?_
        refine g_get F hK hP inA7 0 wM_o rfl 7 (by decide) wd_759 (v := .int (gi S_116 7)) rfl dX7_insert_133 ?_
        refine lv_iconst (v := 1) hx hb dX7_insert_136 (by decide) ?_
        refine lv_isub hx hb dX7_insert_137 ?_
        refine lv_iconst (v := -1) hx hb dX7_insert_138 (by decide) ?_
        obtain ⟨v139, S_139, q139, hf⟩ := cl2_some hf
        refine g_calli F hK hP hS [.int x1, .int (0 : Int32), .int ((gi S_116 7) - (1 : Int32)), .int (-1 : Int32)] (c_X7_deed l D cI cO b S_116 x1 (0 : Int32) ((gi S_116 7) - (1 : Int32)) (-1 : Int32) v139 S_139 q139) wd_869 wd_871 wp_25 wd_9 wd_872 wM_o rfl hd_X7_deed rfl rfl ⟨Nat.le_of_ble_eq_true rfl, Nat.le_of_ble_eq_true rfl⟩ rfl hl (rest := [.int ((gi S_116 7) - (1 : Int32)), .ref (b + 6)]) rfl (Nat.le_of_ble_eq_true rfl) dX7_insert_139 ⟨Nat.le_of_ble_eq_true rfl, Nat.le_of_ble_eq_true rfl⟩ (fun H locs hP hS => ?_)
        obtain ⟨hi, hf⟩ := ck_some hf
        obtain ⟨S_142, eS_142, hf⟩ := lt_some hf
        refine g_iast (S1 := S_142) hx hb hK hP wM_D hS 6 0 wM_a8 rfl hi (by rw [eS_142]; exact wM_sa_8) dX7_insert_142 (fun H locs hP hS => ?_)
        refine lv_aload_n hx hb dX7_insert_143 rfl (lv_at hl 0 rfl) ?_
        refine g_get F hK hP inA7 0 wM_o rfl 7 (by decide) wd_759 (v := .int (gi S_142 7)) rfl dX7_insert_144 ?_
        refine lv_iconst (v := 1) hx hb dX7_insert_147 (by decide) ?_
        refine lv_isub hx hb dX7_insert_148 ?_
        exact g_iret F hr hlocks hQ hK hP hS (Prod.mk.inj (Option.some.inj hf)).1 (Prod.mk.inj (Option.some.inj hf)).2 dX7_insert_149
      · replace hf := ite_f (fun h => h q) hf
        refine lv_iconst (v := 0) hx hb dX7_insert_76 (by decide) ?_
        exact g_iret F hr hlocks hQ hK hP hS (Prod.mk.inj (Option.some.inj hf)).1 (Prod.mk.inj (Option.some.inj hf)).2 dX7_insert_77
    clear eJ70
    refine lv_if_ne (tgt := 47) hx hb dX7_insert_40 (by decide) (fun q => ?_) (fun q => ?_)
    · replace hf := ite_t q hf
      refine lv_iload hx hb dX7_insert_47 (lv_at hl 0 rfl) ?_
      refine lv_if_ne (tgt := 56) hx hb dX7_insert_49 (by decide) (fun q => ?_) (fun q => ?_)
      · replace hf := ite_t q hf
        refine lv_aload_n hx hb dX7_insert_56 rfl (lv_at hl 2 rfl) ?_
        refine g_get F hK hP inA7 0 wM_o rfl 1 (by decide) wd_753 (v := .int (gi S 1)) rfl dX7_insert_57 ?_
        refine lv_bipush (v := 90) hx hb dX7_insert_60 (by decide) ?_
        refine lv_icmp_ne (tgt := 69) hx hb dX7_insert_62 (by decide) (fun q => ?_) (fun q => ?_)
        · replace hf := ite_t q hf
          refine lv_iconst (v := 0) hx hb dX7_insert_69 (by decide) ?_
          exact kJ70 _ _ _ _ hf hP hS (lv_sub hl [2, 3, 4, 5, 6] rfl)
        · replace hf := ite_f (fun h => h q) hf
          refine lv_iconst (v := 3) hx hb dX7_insert_65 (by decide) ?_
          refine lv_goto (tgt := 70) hx hb dX7_insert_66 (by decide) ?_
          exact kJ70 _ _ _ _ hf hP hS (lv_sub hl [2, 3, 4, 5, 6] rfl)
      · replace hf := ite_f (fun h => h q) hf
        refine lv_iconst (v := 2) hx hb dX7_insert_52 (by decide) ?_
        refine lv_goto (tgt := 70) hx hb dX7_insert_53 (by decide) ?_
        exact kJ70 _ _ _ _ hf hP hS (lv_sub hl [2, 3, 4, 5, 6] rfl)
    · replace hf := ite_f (fun h => h q) hf
      refine lv_iconst (v := 1) hx hb dX7_insert_43 (by decide) ?_
      refine lv_goto (tgt := 70) hx hb dX7_insert_44 (by decide) ?_
      exact kJ70 _ _ _ _ hf hP hS (lv_sub hl [2, 3, 4, 5, 6] rfl)
  clear eJ26
  refine lv_if_eq (tgt := 25) hx hb dX7_insert_4 (by decide) (fun q => ?_) (fun q => ?_)
  · replace hf := ite_t q hf
    exact kJ25 _ _ _ hf hP hS (lv_sub hl [0, 1, 2, 3, 4] rfl)
  · replace hf := ite_f q hf
    refine lv_iload_n hx hb dX7_insert_7 rfl (lv_at hl 2 rfl) ?_
    refine lv_iconst (v := -1) hx hb dX7_insert_8 (by decide) ?_
    obtain ⟨J21, eJ21, hf⟩ := jn_some hf
    have kJ21 : ∀ (H : Heap) (locs : List Loc) (ls : Array Slot), J21 = some (r, S1) → va_P D vwCl ((wM cI cO b) S) H → va_S (AM b) s.heap H locs → lv_has ls 7 [(0, .ref (b + 0)), (1, .int x1), (2, .int x2), (3, .int x3), (4, .int x4)] → W p l e rm_X7_insert s m args below meth c H locs 0 0 Q (F0 m 21 ls []) := by
      intro  H locs ls hf hP hS hl
      rw [eJ21] at hf
      refine lv_iconst (v := 1) hx hb dX7_insert_21 (by decide) ?_
      refine lv_goto (tgt := 26) hx hb dX7_insert_22 (by decide) ?_
      exact kJ26 _ _ _ _ hf hP hS (lv_sub hl [0, 1, 2, 3, 4] rfl)
    clear eJ21
    refine lv_icmp_eq (tgt := 21) hx hb dX7_insert_9 (by decide) (fun q => ?_) (fun q => ?_)
    · replace hf := ite_t q hf
      exact kJ21 _ _ _ hf hP hS (lv_sub hl [0, 1, 2, 3, 4] rfl)
    · replace hf := ite_f q hf
      refine lv_aload_n hx hb dX7_insert_12 rfl (lv_at hl 0 rfl) ?_
      refine lv_iload_n hx hb dX7_insert_13 rfl (lv_at hl 1 rfl) ?_
      refine lv_iload_n hx hb dX7_insert_14 rfl (lv_at hl 2 rfl) ?_
      obtain ⟨v15, q15, hf⟩ := cl_some hf
      refine g_calli F hK hP hS [.int x1, .int x2] (c_X7_knowsLine l D cI cO b S x1 x2 v15 q15) wd_861 wd_863 wp_23 wd_9 wd_864 wM_o rfl hd_X7_knowsLine rfl rfl ⟨Nat.le_of_ble_eq_true rfl, Nat.le_of_ble_eq_true rfl⟩ rfl hl (rest := []) rfl (Nat.le_of_ble_eq_true rfl) dX7_insert_15 ⟨Nat.le_of_ble_eq_true rfl, Nat.le_of_ble_eq_true rfl⟩ (fun H locs hP hS => ?_)
      refine lv_if_eq (tgt := 25) hx hb dX7_insert_18 (by decide) (fun q => ?_) (fun q => ?_)
      · replace hf := ite_t q hf
        exact kJ25 _ _ _ hf hP hS (lv_sub hl [0, 1, 2, 3, 4] rfl)
      · replace hf := ite_f q hf
        exact kJ21 _ _ _ hf hP hS (lv_sub hl [0, 1, 2, 3, 4] rfl)
abbrev rm_X7_isGreater : Room := { frames := 0, cells := 0, slots := 0, locals := 0 }
theorem hd_X7_isGreater : yX7_isGreater.cls = RX7 ∧ yX7_isGreater.cls ≠ "java/lang/invoke/MethodHandle" ∧ yX7_isGreater.cls ≠ "java/lang/invoke/VarHandle" ∧ (parseMethodDescriptor yX7_isGreater.desc).map (fun d => d.parameters.length) = some 2 := by decide +kernel
set_option maxRecDepth 100000 in
set_option maxHeartbeats 4000000 in
theorem c_X7_isGreater (l : Launch) (D : va_G) (cI cO : ClassId) (b : Nat) (S : St) (x1 : Int32) (x2 : Int32) (r : Int32) (hf : f_X7_isGreater S x1 x2 = some r) : Met l yX7_isGreater (Cond.code yX7_isGreater cX7_isGreater 3 (some .boolean) :: wsAll) rm_X7_isGreater (PX D (wM cI cO b) (tyM cI cO) S [.ref (b + 0), .int x1, .int x2]) (Qi D (wM cI cO b) (tyM cI cO) (AM b) r S) 0 0 (AM b) := by
  unfold f_X7_isGreater at hf
  refine g_met RX7 (by decide +kernel) (Nat.le_of_ble_eq_true rfl) rfl ?_
  intro p e s m args below meth c ls Q F hr hlocks hK hP hl hQ
  have hx := F.1
  have hb := F.2.1
  have hS : va_S (AM b) s.heap s.heap [] := va_S.rf
  have hl : lv_has ls 3 [(0, .ref (b + 0)), (1, .int x1), (2, .int x2)] := hl
  refine lv_aload_n hx hb dX7_isGreater_0 rfl (lv_at hl 0 rfl) ?_
  refine g_get F hK hP inA7 0 wM_o rfl 3 (by decide) wd_755 (v := .ref (b + 2)) rfl dX7_isGreater_1 ?_
  refine lv_iload_n hx hb dX7_isGreater_4 rfl (lv_at hl 1 rfl) ?_
  obtain ⟨hi, hf⟩ := ck_some hf
  refine va_iald hx hb hK hP 2 0 wM_a3 rfl hi dX7_isGreater_5 ?_
  refine lv_aload_n hx hb dX7_isGreater_6 rfl (lv_at hl 0 rfl) ?_
  refine g_get F hK hP inA7 0 wM_o rfl 3 (by decide) wd_755 (v := .ref (b + 2)) rfl dX7_isGreater_7 ?_
  refine lv_iload_n hx hb dX7_isGreater_10 rfl (lv_at hl 2 rfl) ?_
  obtain ⟨hi, hf⟩ := ck_some hf
  refine va_iald hx hb hK hP 2 0 wM_a3 rfl hi dX7_isGreater_11 ?_
  refine lv_icmp_eq (tgt := 38) hx hb dX7_isGreater_12 (by decide) (fun q => ?_) (fun q => ?_)
  · replace hf := ite_t q hf
    refine lv_aload_n hx hb dX7_isGreater_38 rfl (lv_at hl 0 rfl) ?_
    refine g_get F hK hP inA7 0 wM_o rfl 4 (by decide) wd_756 (v := .ref (b + 3)) rfl dX7_isGreater_39 ?_
    refine lv_iload_n hx hb dX7_isGreater_42 rfl (lv_at hl 1 rfl) ?_
    obtain ⟨hi, hf⟩ := ck_some hf
    refine va_iald hx hb hK hP 3 0 wM_a4 rfl hi dX7_isGreater_43 ?_
    refine lv_aload_n hx hb dX7_isGreater_44 rfl (lv_at hl 0 rfl) ?_
    refine g_get F hK hP inA7 0 wM_o rfl 4 (by decide) wd_756 (v := .ref (b + 3)) rfl dX7_isGreater_45 ?_
    refine lv_iload_n hx hb dX7_isGreater_48 rfl (lv_at hl 2 rfl) ?_
    obtain ⟨hi, hf⟩ := ck_some hf
    refine va_iald hx hb hK hP 3 0 wM_a4 rfl hi dX7_isGreater_49 ?_
    refine lv_icmp_le (tgt := 57) hx hb dX7_isGreater_50 (by decide) (fun q => ?_) (fun q => ?_)
    · replace hf := ite_t q hf
      refine lv_iconst (v := 0) hx hb dX7_isGreater_57 (by decide) ?_
      exact g_zret F hr hlocks hQ hK hP hS rfl (Option.some.inj hf) rfl dX7_isGreater_58
    · replace hf := ite_f q hf
      refine lv_iconst (v := 1) hx hb dX7_isGreater_53 (by decide) ?_
      refine lv_goto (tgt := 58) hx hb dX7_isGreater_54 (by decide) ?_
      exact g_zret F hr hlocks hQ hK hP hS rfl (Option.some.inj hf) rfl dX7_isGreater_58
  · replace hf := ite_f q hf
    refine lv_aload_n hx hb dX7_isGreater_15 rfl (lv_at hl 0 rfl) ?_
    refine g_get F hK hP inA7 0 wM_o rfl 3 (by decide) wd_755 (v := .ref (b + 2)) rfl dX7_isGreater_16 ?_
    refine lv_iload_n hx hb dX7_isGreater_19 rfl (lv_at hl 1 rfl) ?_
    obtain ⟨hi, hf⟩ := ck_some hf
    refine va_iald hx hb hK hP 2 0 wM_a3 rfl hi dX7_isGreater_20 ?_
    refine lv_aload_n hx hb dX7_isGreater_21 rfl (lv_at hl 0 rfl) ?_
    refine g_get F hK hP inA7 0 wM_o rfl 3 (by decide) wd_755 (v := .ref (b + 2)) rfl dX7_isGreater_22 ?_
    refine lv_iload_n hx hb dX7_isGreater_25 rfl (lv_at hl 2 rfl) ?_
    obtain ⟨hi, hf⟩ := ck_some hf
    refine va_iald hx hb hK hP 2 0 wM_a3 rfl hi dX7_isGreater_26 ?_
    refine lv_icmp_le (tgt := 34) hx hb dX7_isGreater_27 (by decide) (fun q => ?_) (fun q => ?_)
    · replace hf := ite_t q hf
      refine lv_iconst (v := 0) hx hb dX7_isGreater_34 (by decide) ?_
      refine lv_goto (tgt := 58) hx hb dX7_isGreater_35 (by decide) ?_
      exact g_zret F hr hlocks hQ hK hP hS rfl (Option.some.inj hf) rfl dX7_isGreater_58
    · replace hf := ite_f q hf
      refine lv_iconst (v := 1) hx hb dX7_isGreater_30 (by decide) ?_
      refine lv_goto (tgt := 58) hx hb dX7_isGreater_31 (by decide) ?_
      exact g_zret F hr hlocks hQ hK hP hS rfl (Option.some.inj hf) rfl dX7_isGreater_58
abbrev rm_X7_pileUp : Room := { frames := 2, cells := 0, slots := 0, locals := 44 }
theorem hd_X7_pileUp : yX7_pileUp.cls = RX7 ∧ yX7_pileUp.cls ≠ "java/lang/invoke/MethodHandle" ∧ yX7_pileUp.cls ≠ "java/lang/invoke/VarHandle" ∧ (parseMethodDescriptor yX7_pileUp.desc).map (fun d => d.parameters.length) = some 3 := by decide +kernel
set_option maxRecDepth 100000 in
set_option maxHeartbeats 4000000 in
theorem c_X7_pileUp (l : Launch) (D : va_G) (cI cO : ClassId) (b : Nat) (S : St) (x1 : Int32) (x2 : Int32) (x3 : Int32) (r : Int32) (S1 : St) (hf : f_X7_pileUp S x1 x2 x3 = some (r, S1)) : Met l yX7_pileUp (Cond.code yX7_pileUp cX7_pileUp 7 (some .int) :: wsAll) rm_X7_pileUp (PX D (wM cI cO b) (tyM cI cO) S [.ref (b + 0), .int x1, .int x2, .int x3]) (Qi D (wM cI cO b) (tyM cI cO) (AM b) r S1) 0 0 (AM b) := by
  unfold f_X7_pileUp at hf
  refine g_met RX7 (by decide +kernel) (Nat.le_of_ble_eq_true rfl) rfl ?_
  intro p e s m args below meth c ls Q F hr hlocks hK hP hl hQ
  have hx := F.1
  have hb := F.2.1
  have hS : va_S (AM b) s.heap s.heap [] := va_S.rf
  have hl : lv_has ls 7 [(0, .ref (b + 0)), (1, .int x1), (2, .int x2), (3, .int x3)] := hl
  refine lv_iload_n hx hb dX7_pileUp_0 rfl (lv_at hl 3 rfl) ?_
  refine lv_istore (lv' := [(4, .int x3), (0, .ref (b + 0)), (1, .int x1), (2, .int x2), (3, .int x3)]) hx hb dX7_pileUp_1 hl (by decide) rfl (fun ls hl => ?_)
  refine lv_iconst (v := 0) hx hb dX7_pileUp_3 (by decide) ?_
  refine lv_istore (lv' := [(5, .int (0 : Int32)), (4, .int x3), (0, .ref (b + 0)), (1, .int x1), (2, .int x2), (3, .int x3)]) hx hb dX7_pileUp_4 hl (by decide) rfl (fun ls hl => ?_)
  refine Lp3_ind (P := fun (x4_6 : Int32) (x5_6 : Int32) (S_6 : St) => ∀ (H : Heap) (locs : List Loc) (ls : Array Slot), va_P D vwCl ((wM cI cO b) S_6) H → va_S (AM b) s.heap H locs → lv_has ls 7 [(0, .ref (b + 0)), (1, .int x1), (2, .int x2), (3, .int x3), (4, .int x4_6), (5, .int x5_6)] → W p l e rm_X7_pileUp s m args below meth c H locs 0 0 Q (F0 m 6 ls [])) ?_ _ _ _ _ hf _ _ _ hP hS (lv_sub hl [2, 3, 4, 5, 1, 0] rfl)
  clear hf hP hS hl
  intro nx6 x4_6 x5_6 S_6 ih6 hf H locs ls hP hS hl
  refine lv_iload hx hb dX7_pileUp_6 (lv_at hl 5 rfl) ?_
  refine lv_aload_n hx hb dX7_pileUp_8 rfl (lv_at hl 0 rfl) ?_
  refine g_get F hK hP inA7 0 wM_o rfl 7 (by decide) wd_759 (v := .int (gi S_6 7)) rfl dX7_pileUp_9 ?_
  refine lv_icmp_ge (tgt := 114) hx hb dX7_pileUp_12 (by decide) (fun q => ?_) (fun q => ?_)
  · replace hf := ite_t q hf
    refine lv_iload hx hb dX7_pileUp_114 (lv_at hl 4 rfl) ?_
    exact g_iret F hr hlocks hQ hK hP hS (Prod.mk.inj (Option.some.inj hf)).1 (Prod.mk.inj (Option.some.inj hf)).2 dX7_pileUp_116
  · replace hf := ite_f q hf
    refine lv_aload_n hx hb dX7_pileUp_15 rfl (lv_at hl 0 rfl) ?_
    refine lv_iload_n hx hb dX7_pileUp_16 rfl (lv_at hl 1 rfl) ?_
    refine lv_iload hx hb dX7_pileUp_17 (lv_at hl 5 rfl) ?_
    obtain ⟨v19, q19, hf⟩ := cl_some hf
    refine g_calli F hK hP hS [.int x1, .int x5_6] (c_X7_knowsLine l D cI cO b S_6 x1 x5_6 v19 q19) wd_861 wd_863 wp_23 wd_9 wd_864 wM_o rfl hd_X7_knowsLine rfl rfl ⟨Nat.le_of_ble_eq_true rfl, Nat.le_of_ble_eq_true rfl⟩ rfl hl (rest := []) rfl (Nat.le_of_ble_eq_true rfl) dX7_pileUp_19 ⟨Nat.le_of_ble_eq_true rfl, Nat.le_of_ble_eq_true rfl⟩ (fun H locs hP hS => ?_)
    obtain ⟨J108, eJ108, hf⟩ := jn_some hf
    have kJ108 : ∀ (x4_108 : Int32) (S_108 : St) (H : Heap) (locs : List Loc) (ls : Array Slot), J108 x4_108 S_108 = some (r, S1) → va_P D vwCl ((wM cI cO b) S_108) H → va_S (AM b) s.heap H locs → lv_has ls 7 [(0, .ref (b + 0)), (1, .int x1), (2, .int x2), (3, .int x3), (4, .int x4_108), (5, .int x5_6)] → W p l e rm_X7_pileUp s m args below meth c H locs 0 0 Q (F0 m 108 ls []) := by
      intro x4_108 S_108 H locs ls hf hP hS hl
      rw [eJ108] at hf
      obtain ⟨x5_108, ex5_108, hf⟩ := lt_some hf
      refine lv_iinc (v := x5_108) (lv' := [(5, .int x5_108), (0, .ref (b + 0)), (1, .int x1), (2, .int x2), (3, .int x3), (4, .int x4_108)]) hx hb dX7_pileUp_108 hl (k := 5) rfl (by rw [ex5_108]; rfl) (by decide) rfl (fun ls hl => ?_)
      refine lv_goto (tgt := 6) hx hb dX7_pileUp_111 (by decide) ?_
      exact ih6 _ _ _ hf _ _ _ hP hS (lv_sub hl [1, 2, 3, 4, 5, 0] rfl)
    clear eJ108
    refine lv_if_eq (tgt := 108) hx hb dX7_pileUp_22 (by decide) (fun q => ?_) (fun q => ?_)
    · replace hf := ite_t q hf
      exact kJ108 _ _ _ _ _ hf hP hS (lv_sub hl [0, 1, 2, 3, 4, 5] rfl)
    · replace hf := ite_f q hf
      refine lv_aload_n hx hb dX7_pileUp_25 rfl (lv_at hl 0 rfl) ?_
      refine g_get F hK hP inA7 0 wM_o rfl 9 (by decide) wd_761 (v := .ref (b + 7)) rfl dX7_pileUp_26 ?_
      refine lv_iload hx hb dX7_pileUp_29 (lv_at hl 5 rfl) ?_
      obtain ⟨hi, hf⟩ := ck_some hf
      refine va_iald hx hb hK hP 7 0 wM_a9 rfl hi dX7_pileUp_31 ?_
      refine lv_iload_n hx hb dX7_pileUp_32 rfl (lv_at hl 2 rfl) ?_
      refine lv_icmp_ne (tgt := 108) hx hb dX7_pileUp_33 (by decide) (fun q => ?_) (fun q => ?_)
      · replace hf := ite_t q hf
        exact kJ108 _ _ _ _ _ hf hP hS (lv_sub hl [0, 1, 2, 3, 4, 5] rfl)
      · replace hf := ite_f (fun h => h q) hf
        refine lv_iload hx hb dX7_pileUp_36 (lv_at hl 4 rfl) ?_
        refine lv_istore (lv' := [(6, .int x4_6), (0, .ref (b + 0)), (1, .int x1), (2, .int x2), (3, .int x3), (4, .int x4_6), (5, .int x5_6)]) hx hb dX7_pileUp_38 hl (by decide) rfl (fun ls hl => ?_)
        refine Lp2_ind (P := fun (x6_40 : Int32) (S_40 : St) => ∀ (H : Heap) (locs : List Loc) (ls : Array Slot), va_P D vwCl ((wM cI cO b) S_40) H → va_S (AM b) s.heap H locs → lv_has ls 7 [(0, .ref (b + 0)), (1, .int x1), (2, .int x2), (3, .int x3), (4, .int x4_6), (5, .int x5_6), (6, .int x6_40)] → W p l e rm_X7_pileUp s m args below meth c H locs 0 0 Q (F0 m 40 ls [])) ?_ _ _ _ hf _ _ _ hP hS (lv_sub hl [1, 2, 3, 4, 5, 6, 0] rfl)
        clear hf hP hS hl
        intro nx40 x6_40 S_40 ih40 hf H locs ls hP hS hl
        refine lv_iload hx hb dX7_pileUp_40 (lv_at hl 6 rfl) ?_
        refine lv_iload_n hx hb dX7_pileUp_42 rfl (lv_at hl 3 rfl) ?_
        obtain ⟨J96, eJ96, hf⟩ := jn_some hf
        have kJ96 : ∀ (H : Heap) (locs : List Loc) (ls : Array Slot), J96 = some (r, S1) → va_P D vwCl ((wM cI cO b) S_40) H → va_S (AM b) s.heap H locs → lv_has ls 7 [(0, .ref (b + 0)), (1, .int x1), (2, .int x2), (3, .int x3), (4, .int x4_6), (5, .int x5_6), (6, .int x6_40)] → W p l e rm_X7_pileUp s m args below meth c H locs 0 0 Q (F0 m 96 ls []) := by
          intro  H locs ls hf hP hS hl
          rw [eJ96] at hf
          refine lv_aload_n hx hb dX7_pileUp_96 rfl (lv_at hl 0 rfl) ?_
          refine g_get F hK hP inA7 0 wM_o rfl 25 (by decide) wd_777 (v := .ref (b + 20)) rfl dX7_pileUp_97 ?_
          refine lv_iload hx hb dX7_pileUp_100 (lv_at hl 6 rfl) ?_
          refine lv_iload hx hb dX7_pileUp_102 (lv_at hl 5 rfl) ?_
          obtain ⟨hi, hf⟩ := ck_some hf
          obtain ⟨S_104, eS_104, hf⟩ := lt_some hf
          refine g_iast (S1 := S_104) hx hb hK hP wM_D hS 20 0 wM_a25 rfl hi (by rw [eS_104]; exact wM_sa_25) dX7_pileUp_104 (fun H locs hP hS => ?_)
          obtain ⟨x4_105, ex4_105, hf⟩ := lt_some hf
          refine lv_iinc (v := x4_105) (lv' := [(4, .int x4_105), (0, .ref (b + 0)), (1, .int x1), (2, .int x2), (3, .int x3), (5, .int x5_6), (6, .int x6_40)]) hx hb dX7_pileUp_105 hl (k := 4) rfl (by rw [ex4_105]; rfl) (by decide) rfl (fun ls hl => ?_)
          exact kJ108 _ _ _ _ _ hf hP hS (lv_sub hl [1, 2, 3, 4, 0, 5] rfl)
        clear eJ96
        refine lv_icmp_le (tgt := 96) hx hb dX7_pileUp_43 (by decide) (fun q => ?_) (fun q => ?_)
        · replace hf := ite_t q hf
          exact kJ96 _ _ _ hf hP hS (lv_sub hl [0, 1, 2, 3, 4, 5, 6] rfl)
        · replace hf := ite_f q hf
          refine lv_aload_n hx hb dX7_pileUp_46 rfl (lv_at hl 0 rfl) ?_
          refine lv_aload_n hx hb dX7_pileUp_47 rfl (lv_at hl 0 rfl) ?_
          refine g_get F hK hP inA7 0 wM_o rfl 8 (by decide) wd_760 (v := .ref (b + 6)) rfl dX7_pileUp_48 ?_
          refine lv_aload_n hx hb dX7_pileUp_51 rfl (lv_at hl 0 rfl) ?_
          refine g_get F hK hP inA7 0 wM_o rfl 25 (by decide) wd_777 (v := .ref (b + 20)) rfl dX7_pileUp_52 ?_
          refine lv_iload hx hb dX7_pileUp_55 (lv_at hl 6 rfl) ?_
          refine lv_iconst (v := 1) hx hb dX7_pileUp_57 (by decide) ?_
          refine lv_isub hx hb dX7_pileUp_58 ?_
          obtain ⟨hi, hf⟩ := ck_some hf
          refine va_iald hx hb hK hP 20 0 wM_a25 rfl hi dX7_pileUp_59 ?_
          obtain ⟨hi, hf⟩ := ck_some hf
          refine va_iald hx hb hK hP 6 0 wM_a8 rfl hi dX7_pileUp_60 ?_
          refine lv_aload_n hx hb dX7_pileUp_61 rfl (lv_at hl 0 rfl) ?_
          refine g_get F hK hP inA7 0 wM_o rfl 8 (by decide) wd_760 (v := .ref (b + 6)) rfl dX7_pileUp_62 ?_
          refine lv_iload hx hb dX7_pileUp_65 (lv_at hl 5 rfl) ?_
          obtain ⟨hi, hf⟩ := ck_some hf
          refine va_iald hx hb hK hP 6 0 wM_a8 rfl hi dX7_pileUp_67 ?_
          obtain ⟨v68, q68, hf⟩ := cl_some hf
          refine g_calli F hK hP hS [.int (ga S_40 8 (ga S_40 25 (x6_40 - (1 : Int32)).toNatClampNeg).toNatClampNeg), .int (ga S_40 8 x5_6.toNatClampNeg)] (c_X7_isGreater l D cI cO b S_40 (ga S_40 8 (ga S_40 25 (x6_40 - (1 : Int32)).toNatClampNeg).toNatClampNeg) (ga S_40 8 x5_6.toNatClampNeg) v68 q68) wd_897 wd_899 wp_31 wd_9 wd_900 wM_o rfl hd_X7_isGreater rfl rfl ⟨Nat.le_of_ble_eq_true rfl, Nat.le_of_ble_eq_true rfl⟩ rfl hl (rest := []) rfl (Nat.le_of_ble_eq_true rfl) dX7_pileUp_68 ⟨Nat.le_of_ble_eq_true rfl, Nat.le_of_ble_eq_true rfl⟩ (fun H locs hP hS => ?_)
          refine lv_if_eq (tgt := 96) hx hb dX7_pileUp_71 (by decide) (fun q => ?_) (fun q => ?_)
          · replace hf := ite_t q hf
            exact kJ96 _ _ _ hf hP hS (lv_sub hl [0, 1, 2, 3, 4, 5, 6] rfl)
          · replace hf := ite_f q hf
            refine lv_aload_n hx hb dX7_pileUp_74 rfl (lv_at hl 0 rfl) ?_
            refine g_get F hK hP inA7 0 wM_o rfl 25 (by decide) wd_777 (v := .ref (b + 20)) rfl dX7_pileUp_75 ?_
            refine lv_iload hx hb dX7_pileUp_78 (lv_at hl 6 rfl) ?_
            refine lv_aload_n hx hb dX7_pileUp_80 rfl (lv_at hl 0 rfl) ?_
            refine g_get F hK hP inA7 0 wM_o rfl 25 (by decide) wd_777 (v := .ref (b + 20)) rfl dX7_pileUp_81 ?_
            refine lv_iload hx hb dX7_pileUp_84 (lv_at hl 6 rfl) ?_
            refine lv_iconst (v := 1) hx hb dX7_pileUp_86 (by decide) ?_
            refine lv_isub hx hb dX7_pileUp_87 ?_
            obtain ⟨hi, hf⟩ := ck_some hf
            refine va_iald hx hb hK hP 20 0 wM_a25 rfl hi dX7_pileUp_88 ?_
            obtain ⟨hi, hf⟩ := ck_some hf
            obtain ⟨S_89, eS_89, hf⟩ := lt_some hf
            refine g_iast (S1 := S_89) hx hb hK hP wM_D hS 20 0 wM_a25 rfl hi (by rw [eS_89]; exact wM_sa_25) dX7_pileUp_89 (fun H locs hP hS => ?_)
            obtain ⟨x6_90, ex6_90, hf⟩ := lt_some hf
            refine lv_iinc (v := x6_90) (lv' := [(6, .int x6_90), (0, .ref (b + 0)), (1, .int x1), (2, .int x2), (3, .int x3), (4, .int x4_6), (5, .int x5_6)]) hx hb dX7_pileUp_90 hl (k := 6) rfl (by rw [ex6_90]; rfl) (by decide) rfl (fun ls hl => ?_)
            refine lv_goto (tgt := 40) hx hb dX7_pileUp_93 (by decide) ?_
            exact ih40 _ _ hf _ _ _ hP hS (lv_sub hl [1, 2, 3, 4, 5, 6, 0] rfl)
abbrev rm_X7_arrange : Room := { frames := 3, cells := 0, slots := 0, locals := 70 }
theorem hd_X7_arrange : yX7_arrange.cls = RX7 ∧ yX7_arrange.cls ≠ "java/lang/invoke/MethodHandle" ∧ yX7_arrange.cls ≠ "java/lang/invoke/VarHandle" ∧ (parseMethodDescriptor yX7_arrange.desc).map (fun d => d.parameters.length) = some 1 := by decide +kernel
set_option maxRecDepth 100000 in
set_option maxHeartbeats 4000000 in
theorem c_X7_arrange (l : Launch) (D : va_G) (cI cO : ClassId) (b : Nat) (S : St) (x1 : Int32) (S1 : St) (hf : f_X7_arrange S x1 = some S1) : Met l yX7_arrange (Cond.code yX7_arrange cX7_arrange 4 none :: wsAll) rm_X7_arrange (PX D (wM cI cO b) (tyM cI cO) S [.ref (b + 0), .int x1]) (Qv D (wM cI cO b) (tyM cI cO) (AM b) S1) 0 0 (AM b) := by
  unfold f_X7_arrange at hf
  refine g_met RX7 (by decide +kernel) (Nat.le_of_ble_eq_true rfl) rfl ?_
  intro p e s m args below meth c ls Q F hr hlocks hK hP hl hQ
  have hx := F.1
  have hb := F.2.1
  have hS : va_S (AM b) s.heap s.heap [] := va_S.rf
  have hl : lv_has ls 4 [(0, .ref (b + 0)), (1, .int x1)] := hl
  refine lv_aload_n hx hb dX7_arrange_0 rfl (lv_at hl 0 rfl) ?_
  refine lv_iconst (v := 0) hx hb dX7_arrange_1 (by decide) ?_
  obtain ⟨S_2, eS_2, hf⟩ := lt_some hf
  refine g_puti (S1 := S_2) F hK hP wM_D hS inA7 tyX7 tyX7_ok nmX7 0 wM_o rfl 23 (by decide) wd_775 rfl (by decide +kernel) (Nat.le_of_ble_eq_true rfl) (by rw [eS_2]; exact wM_si_23) dX7_arrange_2 (fun H locs hP hS => ?_)
  refine lv_aload_n hx hb dX7_arrange_5 rfl (lv_at hl 0 rfl) ?_
  refine lv_iconst (v := 0) hx hb dX7_arrange_6 (by decide) ?_
  obtain ⟨S_7, eS_7, hf⟩ := lt_some hf
  refine g_puti (S1 := S_7) F hK hP wM_D hS inA7 tyX7 tyX7_ok nmX7 0 wM_o rfl 26 (by decide) wd_778 rfl (by decide +kernel) (Nat.le_of_ble_eq_true rfl) (by rw [eS_7]; exact wM_si_26) dX7_arrange_7 (fun H locs hP hS => ?_)
  refine lv_aload_n hx hb dX7_arrange_10 rfl (lv_at hl 0 rfl) ?_
  refine lv_iload_n hx hb dX7_arrange_11 rfl (lv_at hl 1 rfl) ?_
  refine lv_iconst (v := -1) hx hb dX7_arrange_12 (by decide) ?_
  refine lv_iconst (v := 0) hx hb dX7_arrange_13 (by decide) ?_
  obtain ⟨v14, S_14, q14, hf⟩ := cl2_some hf
  refine g_calli F hK hP hS [.int x1, .int (-1 : Int32), .int (0 : Int32)] (c_X7_pileUp l D cI cO b S_7 x1 (-1 : Int32) (0 : Int32) v14 S_14 q14) wd_893 wd_895 wp_30 wd_9 wd_896 wM_o rfl hd_X7_pileUp rfl rfl ⟨Nat.le_of_ble_eq_true rfl, Nat.le_of_ble_eq_true rfl⟩ rfl hl (rest := []) rfl (Nat.le_of_ble_eq_true rfl) dX7_arrange_14 ⟨Nat.le_of_ble_eq_true rfl, Nat.le_of_ble_eq_true rfl⟩ (fun H locs hP hS => ?_)
  refine lv_istore_n (lv' := [(2, .int v14), (0, .ref (b + 0)), (1, .int x1)]) hx hb dX7_arrange_17 rfl hl (by decide) rfl (fun ls hl => ?_)
  refine Lp2_ind (P := fun (x2_18 : Int32) (S_18 : St) => ∀ (H : Heap) (locs : List Loc) (ls : Array Slot), va_P D vwCl ((wM cI cO b) S_18) H → va_S (AM b) s.heap H locs → lv_has ls 4 [(0, .ref (b + 0)), (1, .int x1), (2, .int x2_18)] → W p l e rm_X7_arrange s m args below meth c H locs 0 0 Q (F0 m 18 ls [])) ?_ _ _ _ hf _ _ _ hP hS (lv_sub hl [1, 2, 0] rfl)
  clear hf hP hS hl
  intro nx18 x2_18 S_18 ih18 hf H locs ls hP hS hl
  refine lv_iload_n hx hb dX7_arrange_18 rfl (lv_at hl 2 rfl) ?_
  refine lv_if_le (tgt := 92) hx hb dX7_arrange_19 (by decide) (fun q => ?_) (fun q => ?_)
  · replace hf := ite_t q hf
    exact g_vret F hr hlocks hQ hK hP hS (Option.some.inj hf) dX7_arrange_92
  · replace hf := ite_f q hf
    obtain ⟨x2_22, ex2_22, hf⟩ := lt_some hf
    refine lv_iinc (v := x2_22) (lv' := [(2, .int x2_22), (0, .ref (b + 0)), (1, .int x1)]) hx hb dX7_arrange_22 hl (k := 2) rfl (by rw [ex2_22]; rfl) (by decide) rfl (fun ls hl => ?_)
    refine lv_aload_n hx hb dX7_arrange_25 rfl (lv_at hl 1 rfl) ?_
    refine g_get F hK hP inA7 0 wM_o rfl 25 (by decide) wd_777 (v := .ref (b + 20)) rfl dX7_arrange_26 ?_
    refine lv_iload_n hx hb dX7_arrange_29 rfl (lv_at hl 0 rfl) ?_
    obtain ⟨hi, hf⟩ := ck_some hf
    refine va_iald hx hb hK hP 20 0 wM_a25 rfl hi dX7_arrange_30 ?_
    obtain ⟨x3_31, ex3_31, hf⟩ := lt_some hf
    rw [← ex3_31]
    refine lv_istore_n (lv' := [(3, .int x3_31), (2, .int x2_22), (0, .ref (b + 0)), (1, .int x1)]) hx hb dX7_arrange_31 rfl hl (by decide) rfl (fun ls hl => ?_)
    refine lv_aload_n hx hb dX7_arrange_32 rfl (lv_at hl 2 rfl) ?_
    refine g_get F hK hP inA7 0 wM_o rfl 24 (by decide) wd_776 (v := .ref (b + 19)) rfl dX7_arrange_33 ?_
    refine lv_aload_n hx hb dX7_arrange_36 rfl (lv_at hl 2 rfl) ?_
    refine g_get F hK hP inA7 0 wM_o rfl 23 (by decide) wd_775 (v := .int (gi S_18 23)) rfl dX7_arrange_37 ?_
    refine lv_iload_n hx hb dX7_arrange_40 rfl (lv_at hl 0 rfl) ?_
    obtain ⟨hi, hf⟩ := ck_some hf
    obtain ⟨S_41, eS_41, hf⟩ := lt_some hf
    refine g_iast (S1 := S_41) hx hb hK hP wM_D hS 19 0 wM_a24 rfl hi (by rw [eS_41]; exact wM_sa_24) dX7_arrange_41 (fun H locs hP hS => ?_)
    refine lv_aload_n hx hb dX7_arrange_42 rfl (lv_at hl 2 rfl) ?_
    refine lv_dup hx hb dX7_arrange_43 rfl ?_
    refine g_get F hK hP inA7 0 wM_o rfl 23 (by decide) wd_775 (v := .int (gi S_41 23)) rfl dX7_arrange_44 ?_
    refine lv_iconst (v := 1) hx hb dX7_arrange_47 (by decide) ?_
    refine lv_iadd hx hb dX7_arrange_48 ?_
    obtain ⟨S_49, eS_49, hf⟩ := lt_some hf
    refine g_puti (S1 := S_49) F hK hP wM_D hS inA7 tyX7 tyX7_ok nmX7 0 wM_o rfl 23 (by decide) wd_775 rfl (by decide +kernel) (Nat.le_of_ble_eq_true rfl) (by rw [eS_49]; exact wM_si_23) dX7_arrange_49 (fun H locs hP hS => ?_)
    refine lv_aload_n hx hb dX7_arrange_52 rfl (lv_at hl 2 rfl) ?_
    refine lv_iload_n hx hb dX7_arrange_53 rfl (lv_at hl 3 rfl) ?_
    refine lv_iload_n hx hb dX7_arrange_54 rfl (lv_at hl 0 rfl) ?_
    obtain ⟨v55, q55, hf⟩ := cl_some hf
    refine g_calli F hK hP hS [.int x1, .int x3_31] (c_X7_isThere l D cI cO b S_49 x1 x3_31 v55 q55) wd_881 wd_883 wp_27 wd_9 wd_884 wM_o rfl hd_X7_isThere rfl rfl ⟨Nat.le_of_ble_eq_true rfl, Nat.le_of_ble_eq_true rfl⟩ rfl hl (rest := []) rfl (Nat.le_of_ble_eq_true rfl) dX7_arrange_55 ⟨Nat.le_of_ble_eq_true rfl, Nat.le_of_ble_eq_true rfl⟩ (fun H locs hP hS => ?_)
    obtain ⟨J81, eJ81, hf⟩ := jn_some hf
    have kJ81 : ∀ (S_81 : St) (H : Heap) (locs : List Loc) (ls : Array Slot), J81 S_81 = some S1 → va_P D vwCl ((wM cI cO b) S_81) H → va_S (AM b) s.heap H locs → lv_has ls 4 [(0, .ref (b + 0)), (1, .int x1), (2, .int x2_22), (3, .int x3_31)] → W p l e rm_X7_arrange s m args below meth c H locs 0 0 Q (F0 m 81 ls []) := by
      intro S_81 H locs ls hf hP hS hl
      rw [eJ81] at hf
      refine lv_aload_n hx hb dX7_arrange_81 rfl (lv_at hl 0 rfl) ?_
      refine lv_iload_n hx hb dX7_arrange_82 rfl (lv_at hl 1 rfl) ?_
      refine lv_iload_n hx hb dX7_arrange_83 rfl (lv_at hl 3 rfl) ?_
      refine lv_iload_n hx hb dX7_arrange_84 rfl (lv_at hl 2 rfl) ?_
      obtain ⟨v85, S_85, q85, hf⟩ := cl2_some hf
      refine g_calli F hK hP hS [.int x1, .int x3_31, .int x2_22] (c_X7_pileUp l D cI cO b S_81 x1 x3_31 x2_22 v85 S_85 q85) wd_893 wd_895 wp_30 wd_9 wd_896 wM_o rfl hd_X7_pileUp rfl rfl ⟨Nat.le_of_ble_eq_true rfl, Nat.le_of_ble_eq_true rfl⟩ rfl hl (rest := []) rfl (Nat.le_of_ble_eq_true rfl) dX7_arrange_85 ⟨Nat.le_of_ble_eq_true rfl, Nat.le_of_ble_eq_true rfl⟩ (fun H locs hP hS => ?_)
      refine lv_istore_n (lv' := [(2, .int v85), (0, .ref (b + 0)), (1, .int x1), (3, .int x3_31)]) hx hb dX7_arrange_88 rfl hl (by decide) rfl (fun ls hl => ?_)
      refine lv_goto (tgt := 18) hx hb dX7_arrange_89 (by decide) ?_
      exact ih18 _ _ hf _ _ _ hP hS (lv_sub hl [1, 2, 0] rfl)
    clear eJ81
    refine lv_if_eq (tgt := 81) hx hb dX7_arrange_58 (by decide) (fun q => ?_) (fun q => ?_)
    · replace hf := ite_t q hf
      exact kJ81 _ _ _ _ hf hP hS (lv_sub hl [2, 3, 1, 0] rfl)
    · replace hf := ite_f q hf
      refine lv_aload_n hx hb dX7_arrange_61 rfl (lv_at hl 2 rfl) ?_
      refine g_get F hK hP inA7 0 wM_o rfl 27 (by decide) wd_779 (v := .ref (b + 21)) rfl dX7_arrange_62 ?_
      refine lv_aload_n hx hb dX7_arrange_65 rfl (lv_at hl 2 rfl) ?_
      refine g_get F hK hP inA7 0 wM_o rfl 26 (by decide) wd_778 (v := .int (gi S_49 26)) rfl dX7_arrange_66 ?_
      refine lv_iload_n hx hb dX7_arrange_69 rfl (lv_at hl 0 rfl) ?_
      obtain ⟨hi, hf⟩ := ck_some hf
      obtain ⟨S_70, eS_70, hf⟩ := lt_some hf
      refine g_iast (S1 := S_70) hx hb hK hP wM_D hS 21 0 wM_a27 rfl hi (by rw [eS_70]; exact wM_sa_27) dX7_arrange_70 (fun H locs hP hS => ?_)
      refine lv_aload_n hx hb dX7_arrange_71 rfl (lv_at hl 2 rfl) ?_
      refine lv_dup hx hb dX7_arrange_72 rfl ?_
      refine g_get F hK hP inA7 0 wM_o rfl 26 (by decide) wd_778 (v := .int (gi S_70 26)) rfl dX7_arrange_73 ?_
      refine lv_iconst (v := 1) hx hb dX7_arrange_76 (by decide) ?_
      refine lv_iadd hx hb dX7_arrange_77 ?_
      obtain ⟨S_78, eS_78, hf⟩ := lt_some hf
      refine g_puti (S1 := S_78) F hK hP wM_D hS inA7 tyX7 tyX7_ok nmX7 0 wM_o rfl 26 (by decide) wd_778 rfl (by decide +kernel) (Nat.le_of_ble_eq_true rfl) (by rw [eS_78]; exact wM_si_26) dX7_arrange_78 (fun H locs hP hS => ?_)
      exact kJ81 _ _ _ _ hf hP hS (lv_sub hl [2, 3, 1, 0] rfl)
abbrev rm_X7_placeOf : Room := { frames := 1, cells := 0, slots := 0, locals := 24 }
theorem hd_X7_placeOf : yX7_placeOf.cls = RX7 ∧ yX7_placeOf.cls ≠ "java/lang/invoke/MethodHandle" ∧ yX7_placeOf.cls ≠ "java/lang/invoke/VarHandle" ∧ (parseMethodDescriptor yX7_placeOf.desc).map (fun d => d.parameters.length) = some 2 := by decide +kernel
set_option maxRecDepth 100000 in
set_option maxHeartbeats 4000000 in
theorem c_X7_placeOf (l : Launch) (D : va_G) (cI cO : ClassId) (b : Nat) (S : St) (x1 : Int32) (x2 : Int32) (r : Int32) (hf : f_X7_placeOf S x1 x2 = some r) : Met l yX7_placeOf (Cond.code yX7_placeOf cX7_placeOf 6 (some .int) :: wsAll) rm_X7_placeOf (PX D (wM cI cO b) (tyM cI cO) S [.ref (b + 0), .int x1, .int x2]) (Qi D (wM cI cO b) (tyM cI cO) (AM b) r S) 0 0 (AM b) := by
  unfold f_X7_placeOf at hf
  refine g_met RX7 (by decide +kernel) (Nat.le_of_ble_eq_true rfl) rfl ?_
  intro p e s m args below meth c ls Q F hr hlocks hK hP hl hQ
  have hx := F.1
  have hb := F.2.1
  have hS : va_S (AM b) s.heap s.heap [] := va_S.rf
  have hl : lv_has ls 6 [(0, .ref (b + 0)), (1, .int x1), (2, .int x2)] := hl
  refine lv_aload_n hx hb dX7_placeOf_0 rfl (lv_at hl 0 rfl) ?_
  refine g_get F hK hP inA7 0 wM_o rfl 13 (by decide) wd_765 (v := .ref (b + 10)) rfl dX7_placeOf_1 ?_
  refine lv_iload_n hx hb dX7_placeOf_4 rfl (lv_at hl 2 rfl) ?_
  obtain ⟨hi, hf⟩ := ck_some hf
  refine va_iald hx hb hK hP 10 0 wM_a13 rfl hi dX7_placeOf_5 ?_
  obtain ⟨x3_6, ex3_6, hf⟩ := lt_some hf
  rw [← ex3_6]
  refine lv_istore_n (lv' := [(3, .int x3_6), (0, .ref (b + 0)), (1, .int x1), (2, .int x2)]) hx hb dX7_placeOf_6 rfl hl (by decide) rfl (fun ls hl => ?_)
  refine lv_iconst (v := 0) hx hb dX7_placeOf_7 (by decide) ?_
  refine lv_istore (lv' := [(4, .int (0 : Int32)), (3, .int x3_6), (0, .ref (b + 0)), (1, .int x1), (2, .int x2)]) hx hb dX7_placeOf_8 hl (by decide) rfl (fun ls hl => ?_)
  refine Lp2_ind (P := fun (x3_10 : Int32) (x4_10 : Int32) => ∀ (H : Heap) (locs : List Loc) (ls : Array Slot), va_P D vwCl ((wM cI cO b) S) H → va_S (AM b) s.heap H locs → lv_has ls 6 [(0, .ref (b + 0)), (1, .int x1), (2, .int x2), (3, .int x3_10), (4, .int x4_10)] → W p l e rm_X7_placeOf s m args below meth c H locs 0 0 Q (F0 m 10 ls [])) ?_ _ _ _ hf _ _ _ hP hS (lv_sub hl [2, 3, 4, 1, 0] rfl)
  clear hf hP hS hl
  intro nx10 x3_10 x4_10 ih10 hf H locs ls hP hS hl
  refine lv_iload hx hb dX7_placeOf_10 (lv_at hl 4 rfl) ?_
  refine lv_aload_n hx hb dX7_placeOf_12 rfl (lv_at hl 0 rfl) ?_
  refine g_get F hK hP inA7 0 wM_o rfl 1 (by decide) wd_753 (v := .int (gi S 1)) rfl dX7_placeOf_13 ?_
  refine lv_icmp_ge (tgt := 101) hx hb dX7_placeOf_16 (by decide) (fun q => ?_) (fun q => ?_)
  · replace hf := ite_t q hf
    refine lv_iconst (v := -1) hx hb dX7_placeOf_101 (by decide) ?_
    refine lv_istore (lv' := [(4, .int (-1 : Int32)), (0, .ref (b + 0)), (1, .int x1), (2, .int x2), (3, .int x3_10)]) hx hb dX7_placeOf_102 hl (by decide) rfl (fun ls hl => ?_)
    refine lv_iconst (v := 0) hx hb dX7_placeOf_104 (by decide) ?_
    refine lv_istore (lv' := [(5, .int (0 : Int32)), (4, .int (-1 : Int32)), (0, .ref (b + 0)), (1, .int x1), (2, .int x2), (3, .int x3_10)]) hx hb dX7_placeOf_105 hl (by decide) rfl (fun ls hl => ?_)
    refine Lp2_ind (P := fun (x4_107 : Int32) (x5_107 : Int32) => ∀ (H : Heap) (locs : List Loc) (ls : Array Slot), va_P D vwCl ((wM cI cO b) S) H → va_S (AM b) s.heap H locs → lv_has ls 6 [(0, .ref (b + 0)), (1, .int x1), (3, .int x3_10), (4, .int x4_107), (5, .int x5_107)] → W p l e rm_X7_placeOf s m args below meth c H locs 0 0 Q (F0 m 107 ls [])) ?_ _ _ _ hf _ _ _ hP hS (lv_sub hl [2, 3, 5, 1, 0] rfl)
    clear hf hP hS hl
    intro nx107 x4_107 x5_107 ih107 hf H locs ls hP hS hl
    refine lv_iload hx hb dX7_placeOf_107 (lv_at hl 4 rfl) ?_
    refine lv_aload_n hx hb dX7_placeOf_109 rfl (lv_at hl 0 rfl) ?_
    refine g_get F hK hP inA7 0 wM_o rfl 23 (by decide) wd_775 (v := .int (gi S 23)) rfl dX7_placeOf_110 ?_
    refine lv_icmp_ge (tgt := 196) hx hb dX7_placeOf_113 (by decide) (fun q => ?_) (fun q => ?_)
    · replace hf := ite_t q hf
      refine lv_iconst (v := -1) hx hb dX7_placeOf_196 (by decide) ?_
      exact g_iret F hr hlocks hQ hK hP hS (Option.some.inj hf) rfl dX7_placeOf_197
    · replace hf := ite_f q hf
      refine lv_aload_n hx hb dX7_placeOf_116 rfl (lv_at hl 0 rfl) ?_
      refine lv_iload_n hx hb dX7_placeOf_117 rfl (lv_at hl 1 rfl) ?_
      refine lv_aload_n hx hb dX7_placeOf_118 rfl (lv_at hl 0 rfl) ?_
      refine g_get F hK hP inA7 0 wM_o rfl 24 (by decide) wd_776 (v := .ref (b + 19)) rfl dX7_placeOf_119 ?_
      refine lv_iload hx hb dX7_placeOf_122 (lv_at hl 4 rfl) ?_
      obtain ⟨hi, hf⟩ := ck_some hf
      refine va_iald hx hb hK hP 19 0 wM_a24 rfl hi dX7_placeOf_124 ?_
      obtain ⟨v125, q125, hf⟩ := cl_some hf
      refine g_calli F hK hP hS [.int x1, .int (ga S 24 x5_107.toNatClampNeg)] (c_X7_isThere l D cI cO b S x1 (ga S 24 x5_107.toNatClampNeg) v125 q125) wd_881 wd_883 wp_27 wd_9 wd_884 wM_o rfl hd_X7_isThere rfl rfl ⟨Nat.le_of_ble_eq_true rfl, Nat.le_of_ble_eq_true rfl⟩ rfl hl (rest := []) rfl (Nat.le_of_ble_eq_true rfl) dX7_placeOf_125 ⟨Nat.le_of_ble_eq_true rfl, Nat.le_of_ble_eq_true rfl⟩ (fun H locs hP hS => ?_)
      obtain ⟨J143, eJ143, hf⟩ := jn_some hf
      have kJ143 : ∀ (t0_143 : Int32) (H : Heap) (locs : List Loc) (ls : Array Slot), J143 t0_143 = some r → va_P D vwCl ((wM cI cO b) S) H → va_S (AM b) s.heap H locs → lv_has ls 6 [(0, .ref (b + 0)), (1, .int x1), (3, .int x3_10), (5, .int x5_107)] → W p l e rm_X7_placeOf s m args below meth c H locs 0 0 Q (F0 m 143 ls [.int t0_143]) := by
        intro t0_143 H locs ls hf hP hS hl
        rw [eJ143] at hf
        refine lv_istore (lv' := [(4, .int t0_143), (0, .ref (b + 0)), (1, .int x1), (3, .int x3_10), (5, .int x5_107)]) hx hb dX7_placeOf_143 hl (by decide) rfl (fun ls hl => ?_)
        refine lv_aload_n hx hb dX7_placeOf_145 rfl (lv_at hl 1 rfl) ?_
        refine g_get F hK hP inA7 0 wM_o rfl 24 (by decide) wd_776 (v := .ref (b + 19)) rfl dX7_placeOf_146 ?_
        refine lv_iload hx hb dX7_placeOf_149 (lv_at hl 4 rfl) ?_
        obtain ⟨hi, hf⟩ := ck_some hf
        refine va_iald hx hb hK hP 19 0 wM_a24 rfl hi dX7_placeOf_151 ?_
        refine lv_aload_n hx hb dX7_placeOf_152 rfl (lv_at hl 1 rfl) ?_
        refine g_get F hK hP inA7 0 wM_o rfl 5 (by decide) wd_757 (v := .ref (b + 4)) rfl dX7_placeOf_153 ?_
        refine lv_iload_n hx hb dX7_placeOf_156 rfl (lv_at hl 3 rfl) ?_
        obtain ⟨hi, hf⟩ := ck_some hf
        refine va_iald hx hb hK hP 4 0 wM_a5 rfl hi dX7_placeOf_157 ?_
        refine lv_icmp_ne (tgt := 190) hx hb dX7_placeOf_158 (by decide) (fun q => ?_) (fun q => ?_)
        · replace hf := ite_t q hf
          obtain ⟨x5_190, ex5_190, hf⟩ := lt_some hf
          refine lv_iinc (v := x5_190) (lv' := [(5, .int x5_190), (4, .int t0_143), (0, .ref (b + 0)), (1, .int x1), (3, .int x3_10)]) hx hb dX7_placeOf_190 hl (k := 4) rfl (by rw [ex5_190]; rfl) (by decide) rfl (fun ls hl => ?_)
          refine lv_goto (tgt := 107) hx hb dX7_placeOf_193 (by decide) ?_
          exact ih107 _ _ hf _ _ _ hP hS (lv_sub hl [2, 3, 4, 1, 0] rfl)
        · replace hf := ite_f (fun h => h q) hf
          refine lv_iload hx hb dX7_placeOf_161 (lv_at hl 0 rfl) ?_
          refine lv_iconst (v := -1) hx hb dX7_placeOf_163 (by decide) ?_
          refine lv_icmp_eq (tgt := 172) hx hb dX7_placeOf_164 (by decide) (fun q => ?_) (fun q => ?_)
          · replace hf := ite_t q hf
            refine lv_aload_n hx hb dX7_placeOf_172 rfl (lv_at hl 1 rfl) ?_
            refine g_get F hK hP inA7 0 wM_o rfl 26 (by decide) wd_778 (v := .int (gi S 26)) rfl dX7_placeOf_173 ?_
            refine lv_if_le (tgt := 188) hx hb dX7_placeOf_176 (by decide) (fun q => ?_) (fun q => ?_)
            · replace hf := ite_t q hf
              refine lv_iconst (v := -1) hx hb dX7_placeOf_188 (by decide) ?_
              exact g_iret F hr hlocks hQ hK hP hS (Option.some.inj hf) rfl dX7_placeOf_189
            · replace hf := ite_f q hf
              refine lv_aload_n hx hb dX7_placeOf_179 rfl (lv_at hl 1 rfl) ?_
              refine g_get F hK hP inA7 0 wM_o rfl 27 (by decide) wd_779 (v := .ref (b + 21)) rfl dX7_placeOf_180 ?_
              refine lv_iconst (v := 0) hx hb dX7_placeOf_183 (by decide) ?_
              obtain ⟨hi, hf⟩ := ck_some hf
              refine va_iald hx hb hK hP 21 0 wM_a27 rfl hi dX7_placeOf_184 ?_
              refine lv_goto (tgt := 189) hx hb dX7_placeOf_185 (by decide) ?_
              exact g_iret F hr hlocks hQ hK hP hS (Option.some.inj hf) rfl dX7_placeOf_189
          · replace hf := ite_f q hf
            refine lv_iload hx hb dX7_placeOf_167 (lv_at hl 0 rfl) ?_
            refine lv_goto (tgt := 189) hx hb dX7_placeOf_169 (by decide) ?_
            exact g_iret F hr hlocks hQ hK hP hS (Option.some.inj hf) rfl dX7_placeOf_189
      clear eJ143
      refine lv_if_eq (tgt := 141) hx hb dX7_placeOf_128 (by decide) (fun q => ?_) (fun q => ?_)
      · replace hf := ite_t q hf
        refine lv_iload hx hb dX7_placeOf_141 (lv_at hl 3 rfl) ?_
        exact kJ143 _ _ _ _ hf hP hS (lv_sub hl [0, 1, 2, 4] rfl)
      · replace hf := ite_f q hf
        refine lv_aload_n hx hb dX7_placeOf_131 rfl (lv_at hl 0 rfl) ?_
        refine g_get F hK hP inA7 0 wM_o rfl 24 (by decide) wd_776 (v := .ref (b + 19)) rfl dX7_placeOf_132 ?_
        refine lv_iload hx hb dX7_placeOf_135 (lv_at hl 4 rfl) ?_
        obtain ⟨hi, hf⟩ := ck_some hf
        refine va_iald hx hb hK hP 19 0 wM_a24 rfl hi dX7_placeOf_137 ?_
        refine lv_goto (tgt := 143) hx hb dX7_placeOf_138 (by decide) ?_
        exact kJ143 _ _ _ _ hf hP hS (lv_sub hl [0, 1, 2, 4] rfl)
  · replace hf := ite_f q hf
    refine lv_aload_n hx hb dX7_placeOf_19 rfl (lv_at hl 0 rfl) ?_
    refine g_get F hK hP inA7 0 wM_o rfl 18 (by decide) wd_770 (v := .ref (b + 15)) rfl dX7_placeOf_20 ?_
    refine lv_bipush (v := 90) hx hb dX7_placeOf_23 (by decide) ?_
    refine lv_iload_n hx hb dX7_placeOf_25 rfl (lv_at hl 1 rfl) ?_
    refine lv_imul hx hb dX7_placeOf_26 ?_
    refine lv_iload hx hb dX7_placeOf_27 (lv_at hl 4 rfl) ?_
    refine lv_iadd hx hb dX7_placeOf_29 ?_
    obtain ⟨hi, hf⟩ := ck_some hf
    refine va_zald hx hb hK hP 15 1 wM_a18 rfl hi dX7_placeOf_30 ?_
    obtain ⟨J60, eJ60, hf⟩ := jn_some hf
    have kJ60 : ∀ (H : Heap) (locs : List Loc) (ls : Array Slot), J60 = some r → va_P D vwCl ((wM cI cO b) S) H → va_S (AM b) s.heap H locs → lv_has ls 6 [(0, .ref (b + 0)), (1, .int x1), (2, .int x2), (3, .int x3_10), (4, .int x4_10)] → W p l e rm_X7_placeOf s m args below meth c H locs 0 0 Q (F0 m 60 ls []) := by
      intro  H locs ls hf hP hS hl
      rw [eJ60] at hf
      refine lv_iconst (v := 0) hx hb dX7_placeOf_60 (by decide) ?_
      refine lv_istore (lv' := [(5, .int (0 : Int32)), (0, .ref (b + 0)), (1, .int x1), (2, .int x2), (3, .int x3_10), (4, .int x4_10)]) hx hb dX7_placeOf_61 hl (by decide) rfl (fun ls hl => ?_)
      refine lv_iload hx hb dX7_placeOf_63 (lv_at hl 0 rfl) ?_
      obtain ⟨J93, eJ93, hf⟩ := jn_some hf
      have kJ93 : ∀ (H : Heap) (locs : List Loc) (ls : Array Slot), J93 = some r → va_P D vwCl ((wM cI cO b) S) H → va_S (AM b) s.heap H locs → lv_has ls 6 [(0, .ref (b + 0)), (1, .int x1), (2, .int x2), (3, .int x3_10), (4, .int x4_10)] → W p l e rm_X7_placeOf s m args below meth c H locs 0 0 Q (F0 m 93 ls []) := by
        intro  H locs ls hf hP hS hl
        rw [eJ93] at hf
        refine lv_iload_n hx hb dX7_placeOf_93 rfl (lv_at hl 3 rfl) ?_
        refine lv_istore_n (lv' := [(3, .int x3_10), (0, .ref (b + 0)), (1, .int x1), (2, .int x2), (4, .int x4_10)]) hx hb dX7_placeOf_94 rfl hl (by decide) rfl (fun ls hl => ?_)
        obtain ⟨x4_95, ex4_95, hf⟩ := lt_some hf
        refine lv_iinc (v := x4_95) (lv' := [(4, .int x4_95), (3, .int x3_10), (0, .ref (b + 0)), (1, .int x1), (2, .int x2)]) hx hb dX7_placeOf_95 hl (k := 4) rfl (by rw [ex4_95]; rfl) (by decide) rfl (fun ls hl => ?_)
        refine lv_goto (tgt := 10) hx hb dX7_placeOf_98 (by decide) ?_
        exact ih10 _ _ hf _ _ _ hP hS (lv_sub hl [2, 3, 4, 1, 0] rfl)
      clear eJ93
      obtain ⟨J94, eJ94, hf⟩ := jn_some hf
      have kJ94 : ∀ (t0_94 : Int32) (H : Heap) (locs : List Loc) (ls : Array Slot), J94 t0_94 = some r → va_P D vwCl ((wM cI cO b) S) H → va_S (AM b) s.heap H locs → lv_has ls 6 [(0, .ref (b + 0)), (1, .int x1), (2, .int x2), (4, .int x4_10)] → W p l e rm_X7_placeOf s m args below meth c H locs 0 0 Q (F0 m 94 ls [.int t0_94]) := by
        intro t0_94 H locs ls hf hP hS hl
        rw [eJ94] at hf
        refine lv_istore_n (lv' := [(3, .int t0_94), (0, .ref (b + 0)), (1, .int x1), (2, .int x2), (4, .int x4_10)]) hx hb dX7_placeOf_94 rfl hl (by decide) rfl (fun ls hl => ?_)
        obtain ⟨x4_95, ex4_95, hf⟩ := lt_some hf
        refine lv_iinc (v := x4_95) (lv' := [(4, .int x4_95), (3, .int t0_94), (0, .ref (b + 0)), (1, .int x1), (2, .int x2)]) hx hb dX7_placeOf_95 hl (k := 4) rfl (by rw [ex4_95]; rfl) (by decide) rfl (fun ls hl => ?_)
        refine lv_goto (tgt := 10) hx hb dX7_placeOf_98 (by decide) ?_
        exact ih10 _ _ hf _ _ _ hP hS (lv_sub hl [2, 3, 4, 1, 0] rfl)
      clear eJ94
      refine lv_if_eq (tgt := 93) hx hb dX7_placeOf_65 (by decide) (fun q => ?_) (fun q => ?_)
      · replace hf := ite_t q hf
        exact kJ93 _ _ _ hf hP hS (lv_sub hl [1, 2, 3, 4, 5] rfl)
      · replace hf := ite_f q hf
        refine lv_aload_n hx hb dX7_placeOf_68 rfl (lv_at hl 1 rfl) ?_
        refine g_get F hK hP inA7 0 wM_o rfl 2 (by decide) wd_754 (v := .ref (b + 1)) rfl dX7_placeOf_69 ?_
        refine lv_iload_n hx hb dX7_placeOf_72 rfl (lv_at hl 4 rfl) ?_
        obtain ⟨hi, hf⟩ := ck_some hf
        refine va_iald hx hb hK hP 1 0 wM_a2 rfl hi dX7_placeOf_73 ?_
        refine lv_iconst (v := 2) hx hb dX7_placeOf_74 (by decide) ?_
        obtain ⟨J88, eJ88, hf⟩ := jn_some hf
        have kJ88 : ∀ (H : Heap) (locs : List Loc) (ls : Array Slot), J88 = some r → va_P D vwCl ((wM cI cO b) S) H → va_S (AM b) s.heap H locs → lv_has ls 6 [(0, .ref (b + 0)), (1, .int x1), (2, .int x2), (4, .int x4_10)] → W p l e rm_X7_placeOf s m args below meth c H locs 0 0 Q (F0 m 88 ls []) := by
          intro  H locs ls hf hP hS hl
          rw [eJ88] at hf
          refine lv_iload hx hb dX7_placeOf_88 (lv_at hl 3 rfl) ?_
          refine lv_goto (tgt := 94) hx hb dX7_placeOf_90 (by decide) ?_
          exact kJ94 _ _ _ _ hf hP hS (lv_sub hl [0, 1, 2, 3] rfl)
        clear eJ88
        refine lv_icmp_eq (tgt := 88) hx hb dX7_placeOf_75 (by decide) (fun q => ?_) (fun q => ?_)
        · replace hf := ite_t q hf
          exact kJ88 _ _ _ hf hP hS (lv_sub hl [1, 2, 3, 5] rfl)
        · replace hf := ite_f q hf
          refine lv_aload_n hx hb dX7_placeOf_78 rfl (lv_at hl 1 rfl) ?_
          refine lv_iload hx hb dX7_placeOf_79 (lv_at hl 5 rfl) ?_
          refine lv_iload_n hx hb dX7_placeOf_81 rfl (lv_at hl 4 rfl) ?_
          obtain ⟨v82, q82, hf⟩ := cl_some hf
          refine g_calli F hK hP hS [.int x4_10, .int x3_10] (c_X7_isGreater l D cI cO b S x4_10 x3_10 v82 q82) wd_897 wd_899 wp_31 wd_9 wd_900 wM_o rfl hd_X7_isGreater rfl rfl ⟨Nat.le_of_ble_eq_true rfl, Nat.le_of_ble_eq_true rfl⟩ rfl hl (rest := []) rfl (Nat.le_of_ble_eq_true rfl) dX7_placeOf_82 ⟨Nat.le_of_ble_eq_true rfl, Nat.le_of_ble_eq_true rfl⟩ (fun H locs hP hS => ?_)
          refine lv_if_eq (tgt := 93) hx hb dX7_placeOf_85 (by decide) (fun q => ?_) (fun q => ?_)
          · replace hf := ite_t q hf
            exact kJ93 _ _ _ hf hP hS (lv_sub hl [1, 2, 3, 4, 5] rfl)
          · replace hf := ite_f q hf
            exact kJ88 _ _ _ hf hP hS (lv_sub hl [1, 2, 3, 5] rfl)
    clear eJ60
    obtain ⟨J61, eJ61, hf⟩ := jn_some hf
    have kJ61 : ∀ (t0_61 : Int32) (H : Heap) (locs : List Loc) (ls : Array Slot), J61 t0_61 = some r → va_P D vwCl ((wM cI cO b) S) H → va_S (AM b) s.heap H locs → lv_has ls 6 [(0, .ref (b + 0)), (1, .int x1), (2, .int x2), (3, .int x3_10), (4, .int x4_10)] → W p l e rm_X7_placeOf s m args below meth c H locs 0 0 Q (F0 m 61 ls [.int t0_61]) := by
      intro t0_61 H locs ls hf hP hS hl
      rw [eJ61] at hf
      refine lv_istore (lv' := [(5, .int t0_61), (0, .ref (b + 0)), (1, .int x1), (2, .int x2), (3, .int x3_10), (4, .int x4_10)]) hx hb dX7_placeOf_61 hl (by decide) rfl (fun ls hl => ?_)
      refine lv_iload hx hb dX7_placeOf_63 (lv_at hl 0 rfl) ?_
      obtain ⟨J93, eJ93, hf⟩ := jn_some hf
      have kJ93 : ∀ (H : Heap) (locs : List Loc) (ls : Array Slot), J93 = some r → va_P D vwCl ((wM cI cO b) S) H → va_S (AM b) s.heap H locs → lv_has ls 6 [(0, .ref (b + 0)), (1, .int x1), (2, .int x2), (3, .int x3_10), (4, .int x4_10)] → W p l e rm_X7_placeOf s m args below meth c H locs 0 0 Q (F0 m 93 ls []) := by
        intro  H locs ls hf hP hS hl
        rw [eJ93] at hf
        refine lv_iload_n hx hb dX7_placeOf_93 rfl (lv_at hl 3 rfl) ?_
        refine lv_istore_n (lv' := [(3, .int x3_10), (0, .ref (b + 0)), (1, .int x1), (2, .int x2), (4, .int x4_10)]) hx hb dX7_placeOf_94 rfl hl (by decide) rfl (fun ls hl => ?_)
        obtain ⟨x4_95, ex4_95, hf⟩ := lt_some hf
        refine lv_iinc (v := x4_95) (lv' := [(4, .int x4_95), (3, .int x3_10), (0, .ref (b + 0)), (1, .int x1), (2, .int x2)]) hx hb dX7_placeOf_95 hl (k := 4) rfl (by rw [ex4_95]; rfl) (by decide) rfl (fun ls hl => ?_)
        refine lv_goto (tgt := 10) hx hb dX7_placeOf_98 (by decide) ?_
        exact ih10 _ _ hf _ _ _ hP hS (lv_sub hl [2, 3, 4, 1, 0] rfl)
      clear eJ93
      obtain ⟨J94, eJ94, hf⟩ := jn_some hf
      have kJ94 : ∀ (t0_94 : Int32) (H : Heap) (locs : List Loc) (ls : Array Slot), J94 t0_94 = some r → va_P D vwCl ((wM cI cO b) S) H → va_S (AM b) s.heap H locs → lv_has ls 6 [(0, .ref (b + 0)), (1, .int x1), (2, .int x2), (4, .int x4_10)] → W p l e rm_X7_placeOf s m args below meth c H locs 0 0 Q (F0 m 94 ls [.int t0_94]) := by
        intro t0_94 H locs ls hf hP hS hl
        rw [eJ94] at hf
        refine lv_istore_n (lv' := [(3, .int t0_94), (0, .ref (b + 0)), (1, .int x1), (2, .int x2), (4, .int x4_10)]) hx hb dX7_placeOf_94 rfl hl (by decide) rfl (fun ls hl => ?_)
        obtain ⟨x4_95, ex4_95, hf⟩ := lt_some hf
        refine lv_iinc (v := x4_95) (lv' := [(4, .int x4_95), (3, .int t0_94), (0, .ref (b + 0)), (1, .int x1), (2, .int x2)]) hx hb dX7_placeOf_95 hl (k := 4) rfl (by rw [ex4_95]; rfl) (by decide) rfl (fun ls hl => ?_)
        refine lv_goto (tgt := 10) hx hb dX7_placeOf_98 (by decide) ?_
        exact ih10 _ _ hf _ _ _ hP hS (lv_sub hl [2, 3, 4, 1, 0] rfl)
      clear eJ94
      refine lv_if_eq (tgt := 93) hx hb dX7_placeOf_65 (by decide) (fun q => ?_) (fun q => ?_)
      · replace hf := ite_t q hf
        exact kJ93 _ _ _ hf hP hS (lv_sub hl [1, 2, 3, 4, 5] rfl)
      · replace hf := ite_f q hf
        refine lv_aload_n hx hb dX7_placeOf_68 rfl (lv_at hl 1 rfl) ?_
        refine g_get F hK hP inA7 0 wM_o rfl 2 (by decide) wd_754 (v := .ref (b + 1)) rfl dX7_placeOf_69 ?_
        refine lv_iload_n hx hb dX7_placeOf_72 rfl (lv_at hl 4 rfl) ?_
        obtain ⟨hi, hf⟩ := ck_some hf
        refine va_iald hx hb hK hP 1 0 wM_a2 rfl hi dX7_placeOf_73 ?_
        refine lv_iconst (v := 2) hx hb dX7_placeOf_74 (by decide) ?_
        obtain ⟨J88, eJ88, hf⟩ := jn_some hf
        have kJ88 : ∀ (H : Heap) (locs : List Loc) (ls : Array Slot), J88 = some r → va_P D vwCl ((wM cI cO b) S) H → va_S (AM b) s.heap H locs → lv_has ls 6 [(0, .ref (b + 0)), (1, .int x1), (2, .int x2), (4, .int x4_10)] → W p l e rm_X7_placeOf s m args below meth c H locs 0 0 Q (F0 m 88 ls []) := by
          intro  H locs ls hf hP hS hl
          rw [eJ88] at hf
          refine lv_iload hx hb dX7_placeOf_88 (lv_at hl 3 rfl) ?_
          refine lv_goto (tgt := 94) hx hb dX7_placeOf_90 (by decide) ?_
          exact kJ94 _ _ _ _ hf hP hS (lv_sub hl [0, 1, 2, 3] rfl)
        clear eJ88
        refine lv_icmp_eq (tgt := 88) hx hb dX7_placeOf_75 (by decide) (fun q => ?_) (fun q => ?_)
        · replace hf := ite_t q hf
          exact kJ88 _ _ _ hf hP hS (lv_sub hl [1, 2, 3, 5] rfl)
        · replace hf := ite_f q hf
          refine lv_aload_n hx hb dX7_placeOf_78 rfl (lv_at hl 1 rfl) ?_
          refine lv_iload hx hb dX7_placeOf_79 (lv_at hl 5 rfl) ?_
          refine lv_iload_n hx hb dX7_placeOf_81 rfl (lv_at hl 4 rfl) ?_
          obtain ⟨v82, q82, hf⟩ := cl_some hf
          refine g_calli F hK hP hS [.int x4_10, .int x3_10] (c_X7_isGreater l D cI cO b S x4_10 x3_10 v82 q82) wd_897 wd_899 wp_31 wd_9 wd_900 wM_o rfl hd_X7_isGreater rfl rfl ⟨Nat.le_of_ble_eq_true rfl, Nat.le_of_ble_eq_true rfl⟩ rfl hl (rest := []) rfl (Nat.le_of_ble_eq_true rfl) dX7_placeOf_82 ⟨Nat.le_of_ble_eq_true rfl, Nat.le_of_ble_eq_true rfl⟩ (fun H locs hP hS => ?_)
          refine lv_if_eq (tgt := 93) hx hb dX7_placeOf_85 (by decide) (fun q => ?_) (fun q => ?_)
          · replace hf := ite_t q hf
            exact kJ93 _ _ _ hf hP hS (lv_sub hl [1, 2, 3, 4, 5] rfl)
          · replace hf := ite_f q hf
            exact kJ88 _ _ _ hf hP hS (lv_sub hl [1, 2, 3, 5] rfl)
    clear eJ61
    refine lv_if_eq (tgt := 60) hx hb dX7_placeOf_31 (by decide) (fun q => ?_) (fun q => ?_)
    · replace hf := ite_t q hf
      exact kJ60 _ _ _ hf hP hS (lv_sub hl [0, 1, 2, 3, 4] rfl)
    · replace hf := ite_f q hf
      refine lv_aload_n hx hb dX7_placeOf_34 rfl (lv_at hl 0 rfl) ?_
      refine g_get F hK hP inA7 0 wM_o rfl 2 (by decide) wd_754 (v := .ref (b + 1)) rfl dX7_placeOf_35 ?_
      refine lv_iload hx hb dX7_placeOf_38 (lv_at hl 4 rfl) ?_
      obtain ⟨hi, hf⟩ := ck_some hf
      refine va_iald hx hb hK hP 1 0 wM_a2 rfl hi dX7_placeOf_40 ?_
      refine lv_iconst (v := 3) hx hb dX7_placeOf_41 (by decide) ?_
      refine lv_icmp_ne (tgt := 60) hx hb dX7_placeOf_42 (by decide) (fun q => ?_) (fun q => ?_)
      · replace hf := ite_t q hf
        exact kJ60 _ _ _ hf hP hS (lv_sub hl [0, 1, 2, 3, 4] rfl)
      · replace hf := ite_f (fun h => h q) hf
        refine lv_aload_n hx hb dX7_placeOf_45 rfl (lv_at hl 0 rfl) ?_
        refine g_get F hK hP inA7 0 wM_o rfl 6 (by decide) wd_758 (v := .ref (b + 5)) rfl dX7_placeOf_46 ?_
        refine lv_iload hx hb dX7_placeOf_49 (lv_at hl 4 rfl) ?_
        obtain ⟨hi, hf⟩ := ck_some hf
        refine va_iald hx hb hK hP 5 0 wM_a6 rfl hi dX7_placeOf_51 ?_
        refine lv_iload_n hx hb dX7_placeOf_52 rfl (lv_at hl 2 rfl) ?_
        refine lv_icmp_ne (tgt := 60) hx hb dX7_placeOf_53 (by decide) (fun q => ?_) (fun q => ?_)
        · replace hf := ite_t q hf
          exact kJ60 _ _ _ hf hP hS (lv_sub hl [0, 1, 2, 3, 4] rfl)
        · replace hf := ite_f (fun h => h q) hf
          refine lv_iconst (v := 1) hx hb dX7_placeOf_56 (by decide) ?_
          refine lv_goto (tgt := 61) hx hb dX7_placeOf_57 (by decide) ?_
          exact kJ61 _ _ _ _ hf hP hS (lv_sub hl [0, 1, 2, 3, 4] rfl)
abbrev rm_X7_layRows : Room := { frames := 2, cells := 0, slots := 0, locals := 49 }
theorem hd_X7_layRows : yX7_layRows.cls = RX7 ∧ yX7_layRows.cls ≠ "java/lang/invoke/MethodHandle" ∧ yX7_layRows.cls ≠ "java/lang/invoke/VarHandle" ∧ (parseMethodDescriptor yX7_layRows.desc).map (fun d => d.parameters.length) = some 1 := by decide +kernel
set_option maxRecDepth 100000 in
set_option maxHeartbeats 4000000 in
theorem c_X7_layRows (l : Launch) (D : va_G) (cI cO : ClassId) (b : Nat) (S : St) (x1 : Int32) (S1 : St) (hf : f_X7_layRows S x1 = some S1) : Met l yX7_layRows (Cond.code yX7_layRows cX7_layRows 5 none :: wsAll) rm_X7_layRows (PX D (wM cI cO b) (tyM cI cO) S [.ref (b + 0), .int x1]) (Qv D (wM cI cO b) (tyM cI cO) (AM b) S1) 0 0 (AM b) := by
  unfold f_X7_layRows at hf
  refine g_met RX7 (by decide +kernel) (Nat.le_of_ble_eq_true rfl) rfl ?_
  intro p e s m args below meth c ls Q F hr hlocks hK hP hl hQ
  have hx := F.1
  have hb := F.2.1
  have hS : va_S (AM b) s.heap s.heap [] := va_S.rf
  have hl : lv_has ls 5 [(0, .ref (b + 0)), (1, .int x1)] := hl
  refine lv_iconst (v := 0) hx hb dX7_layRows_0 (by decide) ?_
  refine lv_istore_n (lv' := [(2, .int (0 : Int32)), (0, .ref (b + 0)), (1, .int x1)]) hx hb dX7_layRows_1 rfl hl (by decide) rfl (fun ls hl => ?_)
  refine Lp2_ind (P := fun (x2_2 : Int32) (S_2 : St) => ∀ (H : Heap) (locs : List Loc) (ls : Array Slot), va_P D vwCl ((wM cI cO b) S_2) H → va_S (AM b) s.heap H locs → lv_has ls 5 [(0, .ref (b + 0)), (1, .int x1), (2, .int x2_2)] → W p l e rm_X7_layRows s m args below meth c H locs 0 0 Q (F0 m 2 ls [])) ?_ _ _ _ hf _ _ _ hP hS (lv_sub hl [1, 2, 0] rfl)
  clear hf hP hS hl
  intro nx2 x2_2 S_2 ih2 hf H locs ls hP hS hl
  refine lv_iload_n hx hb dX7_layRows_2 rfl (lv_at hl 2 rfl) ?_
  refine lv_aload_n hx hb dX7_layRows_3 rfl (lv_at hl 0 rfl) ?_
  refine g_get F hK hP inA7 0 wM_o rfl 26 (by decide) wd_778 (v := .int (gi S_2 26)) rfl dX7_layRows_4 ?_
  refine lv_icmp_ge (tgt := 23) hx hb dX7_layRows_7 (by decide) (fun q => ?_) (fun q => ?_)
  · replace hf := ite_t q hf
    refine lv_iconst (v := 0) hx hb dX7_layRows_23 (by decide) ?_
    refine lv_istore_n (lv' := [(2, .int (0 : Int32)), (0, .ref (b + 0)), (1, .int x1)]) hx hb dX7_layRows_24 rfl hl (by decide) rfl (fun ls hl => ?_)
    refine Lp2_ind (P := fun (x2_25 : Int32) (S_25 : St) => ∀ (H : Heap) (locs : List Loc) (ls : Array Slot), va_P D vwCl ((wM cI cO b) S_25) H → va_S (AM b) s.heap H locs → lv_has ls 5 [(0, .ref (b + 0)), (1, .int x1), (2, .int x2_25)] → W p l e rm_X7_layRows s m args below meth c H locs 0 0 Q (F0 m 25 ls [])) ?_ _ _ _ hf _ _ _ hP hS (lv_sub hl [1, 2, 0] rfl)
    clear hf hP hS hl
    intro nx25 x2_25 S_25 ih25 hf H locs ls hP hS hl
    refine lv_iload_n hx hb dX7_layRows_25 rfl (lv_at hl 2 rfl) ?_
    refine lv_aload_n hx hb dX7_layRows_26 rfl (lv_at hl 0 rfl) ?_
    refine g_get F hK hP inA7 0 wM_o rfl 12 (by decide) wd_764 (v := .int (gi S_25 12)) rfl dX7_layRows_27 ?_
    refine lv_icmp_ge (tgt := 108) hx hb dX7_layRows_30 (by decide) (fun q => ?_) (fun q => ?_)
    · replace hf := ite_t q hf
      refine lv_iconst (v := 0) hx hb dX7_layRows_108 (by decide) ?_
      refine lv_istore_n (lv' := [(2, .int (0 : Int32)), (0, .ref (b + 0)), (1, .int x1)]) hx hb dX7_layRows_109 rfl hl (by decide) rfl (fun ls hl => ?_)
      refine Lp2_ind (P := fun (x2_110 : Int32) (S_110 : St) => ∀ (H : Heap) (locs : List Loc) (ls : Array Slot), va_P D vwCl ((wM cI cO b) S_110) H → va_S (AM b) s.heap H locs → lv_has ls 5 [(0, .ref (b + 0)), (2, .int x2_110)] → W p l e rm_X7_layRows s m args below meth c H locs 0 0 Q (F0 m 110 ls [])) ?_ _ _ _ hf _ _ _ hP hS (lv_sub hl [1, 0] rfl)
      clear hf hP hS hl
      intro nx110 x2_110 S_110 ih110 hf H locs ls hP hS hl
      refine lv_iload_n hx hb dX7_layRows_110 rfl (lv_at hl 1 rfl) ?_
      refine lv_aload_n hx hb dX7_layRows_111 rfl (lv_at hl 0 rfl) ?_
      refine g_get F hK hP inA7 0 wM_o rfl 26 (by decide) wd_778 (v := .int (gi S_110 26)) rfl dX7_layRows_112 ?_
      refine lv_icmp_ge (tgt := 152) hx hb dX7_layRows_115 (by decide) (fun q => ?_) (fun q => ?_)
      · replace hf := ite_t q hf
        exact g_vret F hr hlocks hQ hK hP hS (Option.some.inj hf) dX7_layRows_152
      · replace hf := ite_f q hf
        refine lv_aload_n hx hb dX7_layRows_118 rfl (lv_at hl 0 rfl) ?_
        refine g_get F hK hP inA7 0 wM_o rfl 28 (by decide) wd_780 (v := .ref (b + 22)) rfl dX7_layRows_119 ?_
        refine lv_iload_n hx hb dX7_layRows_122 rfl (lv_at hl 1 rfl) ?_
        refine lv_aload_n hx hb dX7_layRows_123 rfl (lv_at hl 0 rfl) ?_
        refine g_get F hK hP inA7 0 wM_o rfl 28 (by decide) wd_780 (v := .ref (b + 22)) rfl dX7_layRows_124 ?_
        refine lv_iload_n hx hb dX7_layRows_127 rfl (lv_at hl 1 rfl) ?_
        obtain ⟨hi, hf⟩ := ck_some hf
        refine va_iald hx hb hK hP 22 0 wM_a28 rfl hi dX7_layRows_128 ?_
        refine lv_bipush (v := 6) hx hb dX7_layRows_129 (by decide) ?_
        obtain ⟨J145, eJ145, hf⟩ := jn_some hf
        have kJ145 : ∀ (t0_145 : Int32) (H : Heap) (locs : List Loc) (ls : Array Slot), J145 t0_145 = some S1 → va_P D vwCl ((wM cI cO b) S_110) H → va_S (AM b) s.heap H locs → lv_has ls 5 [(0, .ref (b + 0)), (2, .int x2_110)] → W p l e rm_X7_layRows s m args below meth c H locs 0 0 Q (F0 m 145 ls [.int t0_145, .int x2_110, .ref (b + 22)]) := by
          intro t0_145 H locs ls hf hP hS hl
          rw [eJ145] at hf
          obtain ⟨hi, hf⟩ := ck_some hf
          obtain ⟨S_145, eS_145, hf⟩ := lt_some hf
          refine g_iast (S1 := S_145) hx hb hK hP wM_D hS 22 0 wM_a28 rfl hi (by rw [eS_145]; exact wM_sa_28) dX7_layRows_145 (fun H locs hP hS => ?_)
          obtain ⟨x2_146, ex2_146, hf⟩ := lt_some hf
          refine lv_iinc (v := x2_146) (lv' := [(2, .int x2_146), (0, .ref (b + 0))]) hx hb dX7_layRows_146 hl (k := 1) rfl (by rw [ex2_146]; rfl) (by decide) rfl (fun ls hl => ?_)
          refine lv_goto (tgt := 110) hx hb dX7_layRows_149 (by decide) ?_
          exact ih110 _ _ hf _ _ _ hP hS (lv_sub hl [1, 0] rfl)
        clear eJ145
        refine lv_icmp_le (tgt := 139) hx hb dX7_layRows_131 (by decide) (fun q => ?_) (fun q => ?_)
        · replace hf := ite_t q hf
          refine lv_aload_n hx hb dX7_layRows_139 rfl (lv_at hl 0 rfl) ?_
          refine g_get F hK hP inA7 0 wM_o rfl 28 (by decide) wd_780 (v := .ref (b + 22)) rfl dX7_layRows_140 ?_
          refine lv_iload_n hx hb dX7_layRows_143 rfl (lv_at hl 1 rfl) ?_
          obtain ⟨hi, hf⟩ := ck_some hf
          refine va_iald hx hb hK hP 22 0 wM_a28 rfl hi dX7_layRows_144 ?_
          exact kJ145 _ _ _ _ hf hP hS (lv_sub hl [0, 1] rfl)
        · replace hf := ite_f q hf
          refine lv_bipush (v := 6) hx hb dX7_layRows_134 (by decide) ?_
          refine lv_goto (tgt := 145) hx hb dX7_layRows_136 (by decide) ?_
          exact kJ145 _ _ _ _ hf hP hS (lv_sub hl [0, 1] rfl)
    · replace hf := ite_f q hf
      refine lv_aload_n hx hb dX7_layRows_33 rfl (lv_at hl 0 rfl) ?_
      refine lv_iload_n hx hb dX7_layRows_34 rfl (lv_at hl 1 rfl) ?_
      refine lv_iload_n hx hb dX7_layRows_35 rfl (lv_at hl 2 rfl) ?_
      obtain ⟨v36, q36, hf⟩ := cl_some hf
      refine g_calli F hK hP hS [.int x1, .int x2_25] (c_X7_knowsNote l D cI cO b S_25 x1 x2_25 v36 q36) wd_905 wd_907 wp_33 wd_9 wd_908 wM_o rfl hd_X7_knowsNote rfl rfl ⟨Nat.le_of_ble_eq_true rfl, Nat.le_of_ble_eq_true rfl⟩ rfl hl (rest := []) rfl (Nat.le_of_ble_eq_true rfl) dX7_layRows_36 ⟨Nat.le_of_ble_eq_true rfl, Nat.le_of_ble_eq_true rfl⟩ (fun H locs hP hS => ?_)
      obtain ⟨J52, eJ52, hf⟩ := jn_some hf
      have kJ52 : ∀ (t0_52 : Int32) (H : Heap) (locs : List Loc) (ls : Array Slot), J52 t0_52 = some S1 → va_P D vwCl ((wM cI cO b) S_25) H → va_S (AM b) s.heap H locs → lv_has ls 5 [(0, .ref (b + 0)), (1, .int x1), (2, .int x2_25)] → W p l e rm_X7_layRows s m args below meth c H locs 0 0 Q (F0 m 52 ls [.int t0_52]) := by
        intro t0_52 H locs ls hf hP hS hl
        rw [eJ52] at hf
        refine lv_istore_n (lv' := [(3, .int t0_52), (0, .ref (b + 0)), (1, .int x1), (2, .int x2_25)]) hx hb dX7_layRows_52 rfl hl (by decide) rfl (fun ls hl => ?_)
        refine lv_iconst (v := 0) hx hb dX7_layRows_53 (by decide) ?_
        refine lv_istore (lv' := [(4, .int (0 : Int32)), (3, .int t0_52), (0, .ref (b + 0)), (1, .int x1), (2, .int x2_25)]) hx hb dX7_layRows_54 hl (by decide) rfl (fun ls hl => ?_)
        refine Lp2_ind (P := fun (x4_56 : Int32) (S_56 : St) => ∀ (H : Heap) (locs : List Loc) (ls : Array Slot), va_P D vwCl ((wM cI cO b) S_56) H → va_S (AM b) s.heap H locs → lv_has ls 5 [(0, .ref (b + 0)), (1, .int x1), (2, .int x2_25), (3, .int t0_52), (4, .int x4_56)] → W p l e rm_X7_layRows s m args below meth c H locs 0 0 Q (F0 m 56 ls [])) ?_ _ _ _ hf _ _ _ hP hS (lv_sub hl [2, 3, 4, 1, 0] rfl)
        clear hf hP hS hl
        intro nx56 x4_56 S_56 ih56 hf H locs ls hP hS hl
        refine lv_iload hx hb dX7_layRows_56 (lv_at hl 4 rfl) ?_
        refine lv_aload_n hx hb dX7_layRows_58 rfl (lv_at hl 0 rfl) ?_
        refine g_get F hK hP inA7 0 wM_o rfl 26 (by decide) wd_778 (v := .int (gi S_56 26)) rfl dX7_layRows_59 ?_
        refine lv_icmp_ge (tgt := 102) hx hb dX7_layRows_62 (by decide) (fun q => ?_) (fun q => ?_)
        · replace hf := ite_t q hf
          obtain ⟨x2_102, ex2_102, hf⟩ := lt_some hf
          refine lv_iinc (v := x2_102) (lv' := [(2, .int x2_102), (0, .ref (b + 0)), (1, .int x1), (3, .int t0_52), (4, .int x4_56)]) hx hb dX7_layRows_102 hl (k := 2) rfl (by rw [ex2_102]; rfl) (by decide) rfl (fun ls hl => ?_)
          refine lv_goto (tgt := 25) hx hb dX7_layRows_105 (by decide) ?_
          exact ih25 _ _ hf _ _ _ hP hS (lv_sub hl [1, 2, 0] rfl)
        · replace hf := ite_f q hf
          refine lv_aload_n hx hb dX7_layRows_65 rfl (lv_at hl 0 rfl) ?_
          refine g_get F hK hP inA7 0 wM_o rfl 28 (by decide) wd_780 (v := .ref (b + 22)) rfl dX7_layRows_66 ?_
          refine lv_iload hx hb dX7_layRows_69 (lv_at hl 4 rfl) ?_
          refine lv_dup2_11 hx hb dX7_layRows_71 rfl rfl ?_
          obtain ⟨hi, hf⟩ := ck_some hf
          refine va_iald hx hb hK hP 22 0 wM_a28 rfl hi dX7_layRows_72 ?_
          refine lv_aload_n hx hb dX7_layRows_73 rfl (lv_at hl 0 rfl) ?_
          refine g_get F hK hP inA7 0 wM_o rfl 27 (by decide) wd_779 (v := .ref (b + 21)) rfl dX7_layRows_74 ?_
          refine lv_iload hx hb dX7_layRows_77 (lv_at hl 4 rfl) ?_
          obtain ⟨hi, hf⟩ := ck_some hf
          refine va_iald hx hb hK hP 21 0 wM_a27 rfl hi dX7_layRows_79 ?_
          refine lv_iload_n hx hb dX7_layRows_80 rfl (lv_at hl 3 rfl) ?_
          obtain ⟨J94, eJ94, hf⟩ := jn_some hf
          have kJ94 : ∀ (t0_94 : Int32) (H : Heap) (locs : List Loc) (ls : Array Slot), J94 t0_94 = some S1 → va_P D vwCl ((wM cI cO b) S_56) H → va_S (AM b) s.heap H locs → lv_has ls 5 [(0, .ref (b + 0)), (1, .int x1), (2, .int x2_25), (3, .int t0_52), (4, .int x4_56)] → W p l e rm_X7_layRows s m args below meth c H locs 0 0 Q (F0 m 94 ls [.int t0_94, .int (ga S_56 28 x4_56.toNatClampNeg), .int x4_56, .ref (b + 22)]) := by
            intro t0_94 H locs ls hf hP hS hl
            rw [eJ94] at hf
            refine lv_iadd hx hb dX7_layRows_94 ?_
            obtain ⟨hi, hf⟩ := ck_some hf
            obtain ⟨S_95, eS_95, hf⟩ := lt_some hf
            refine g_iast (S1 := S_95) hx hb hK hP wM_D hS 22 0 wM_a28 rfl hi (by rw [eS_95]; exact wM_sa_28) dX7_layRows_95 (fun H locs hP hS => ?_)
            obtain ⟨x4_96, ex4_96, hf⟩ := lt_some hf
            refine lv_iinc (v := x4_96) (lv' := [(4, .int x4_96), (0, .ref (b + 0)), (1, .int x1), (2, .int x2_25), (3, .int t0_52)]) hx hb dX7_layRows_96 hl (k := 4) rfl (by rw [ex4_96]; rfl) (by decide) rfl (fun ls hl => ?_)
            refine lv_goto (tgt := 56) hx hb dX7_layRows_99 (by decide) ?_
            exact ih56 _ _ hf _ _ _ hP hS (lv_sub hl [1, 2, 3, 4, 0] rfl)
          clear eJ94
          refine lv_icmp_ne (tgt := 93) hx hb dX7_layRows_81 (by decide) (fun q => ?_) (fun q => ?_)
          · replace hf := ite_t q hf
            refine lv_iconst (v := 0) hx hb dX7_layRows_93 (by decide) ?_
            exact kJ94 _ _ _ _ hf hP hS (lv_sub hl [0, 1, 2, 3, 4] rfl)
          · replace hf := ite_f (fun h => h q) hf
            refine lv_aload_n hx hb dX7_layRows_84 rfl (lv_at hl 0 rfl) ?_
            refine g_get F hK hP inA7 0 wM_o rfl 14 (by decide) wd_766 (v := .ref (b + 11)) rfl dX7_layRows_85 ?_
            refine lv_iload_n hx hb dX7_layRows_88 rfl (lv_at hl 2 rfl) ?_
            obtain ⟨hi, hf⟩ := ck_some hf
            refine va_iald hx hb hK hP 11 0 wM_a14 rfl hi dX7_layRows_89 ?_
            refine lv_goto (tgt := 94) hx hb dX7_layRows_90 (by decide) ?_
            exact kJ94 _ _ _ _ hf hP hS (lv_sub hl [0, 1, 2, 3, 4] rfl)
      clear eJ52
      refine lv_if_eq (tgt := 51) hx hb dX7_layRows_39 (by decide) (fun q => ?_) (fun q => ?_)
      · replace hf := ite_t q hf
        refine lv_iconst (v := -1) hx hb dX7_layRows_51 (by decide) ?_
        exact kJ52 _ _ _ _ hf hP hS (lv_sub hl [0, 1, 2] rfl)
      · replace hf := ite_f q hf
        refine lv_aload_n hx hb dX7_layRows_42 rfl (lv_at hl 0 rfl) ?_
        refine lv_iload_n hx hb dX7_layRows_43 rfl (lv_at hl 1 rfl) ?_
        refine lv_iload_n hx hb dX7_layRows_44 rfl (lv_at hl 2 rfl) ?_
        obtain ⟨v45, q45, hf⟩ := cl_some hf
        refine g_calli F hK hP hS [.int x1, .int x2_25] (c_X7_placeOf l D cI cO b S_25 x1 x2_25 v45 q45) wd_909 wd_911 wp_34 wd_9 wd_912 wM_o rfl hd_X7_placeOf rfl rfl ⟨Nat.le_of_ble_eq_true rfl, Nat.le_of_ble_eq_true rfl⟩ rfl hl (rest := []) rfl (Nat.le_of_ble_eq_true rfl) dX7_layRows_45 ⟨Nat.le_of_ble_eq_true rfl, Nat.le_of_ble_eq_true rfl⟩ (fun H locs hP hS => ?_)
        refine lv_goto (tgt := 52) hx hb dX7_layRows_48 (by decide) ?_
        exact kJ52 _ _ _ _ hf hP hS (lv_sub hl [0, 1, 2] rfl)
  · replace hf := ite_f q hf
    refine lv_aload_n hx hb dX7_layRows_10 rfl (lv_at hl 0 rfl) ?_
    refine g_get F hK hP inA7 0 wM_o rfl 28 (by decide) wd_780 (v := .ref (b + 22)) rfl dX7_layRows_11 ?_
    refine lv_iload_n hx hb dX7_layRows_14 rfl (lv_at hl 2 rfl) ?_
    refine lv_iconst (v := 1) hx hb dX7_layRows_15 (by decide) ?_
    obtain ⟨hi, hf⟩ := ck_some hf
    obtain ⟨S_16, eS_16, hf⟩ := lt_some hf
    refine g_iast (S1 := S_16) hx hb hK hP wM_D hS 22 0 wM_a28 rfl hi (by rw [eS_16]; exact wM_sa_28) dX7_layRows_16 (fun H locs hP hS => ?_)
    obtain ⟨x2_17, ex2_17, hf⟩ := lt_some hf
    refine lv_iinc (v := x2_17) (lv' := [(2, .int x2_17), (0, .ref (b + 0)), (1, .int x1)]) hx hb dX7_layRows_17 hl (k := 2) rfl (by rw [ex2_17]; rfl) (by decide) rfl (fun ls hl => ?_)
    refine lv_goto (tgt := 2) hx hb dX7_layRows_20 (by decide) ?_
    exact ih2 _ _ hf _ _ _ hP hS (lv_sub hl [1, 2, 0] rfl)
abbrev rm_X7_isBegun : Room := { frames := 0, cells := 0, slots := 0, locals := 0 }
theorem hd_X7_isBegun : yX7_isBegun.cls = RX7 ∧ yX7_isBegun.cls ≠ "java/lang/invoke/MethodHandle" ∧ yX7_isBegun.cls ≠ "java/lang/invoke/VarHandle" ∧ (parseMethodDescriptor yX7_isBegun.desc).map (fun d => d.parameters.length) = some 1 := by decide +kernel
set_option maxRecDepth 100000 in
set_option maxHeartbeats 4000000 in
theorem c_X7_isBegun (l : Launch) (D : va_G) (cI cO : ClassId) (b : Nat) (S : St) (x1 : Int32) (r : Int32) (hf : f_X7_isBegun S x1 = some r) : Met l yX7_isBegun (Cond.code yX7_isBegun cX7_isBegun 2 (some .boolean) :: wsAll) rm_X7_isBegun (PX D (wM cI cO b) (tyM cI cO) S [.ref (b + 0), .int x1]) (Qi D (wM cI cO b) (tyM cI cO) (AM b) r S) 0 0 (AM b) := by
  unfold f_X7_isBegun at hf
  refine g_met RX7 (by decide +kernel) (Nat.le_of_ble_eq_true rfl) rfl ?_
  intro p e s m args below meth c ls Q F hr hlocks hK hP hl hQ
  have hx := F.1
  have hb := F.2.1
  have hS : va_S (AM b) s.heap s.heap [] := va_S.rf
  have hl : lv_has ls 2 [(0, .ref (b + 0)), (1, .int x1)] := hl
  refine lv_iload_n hx hb dX7_isBegun_0 rfl (lv_at hl 1 rfl) ?_
  obtain ⟨J18, eJ18, hf⟩ := jn_some hf
  have kJ18 : ∀ (H : Heap) (locs : List Loc) (ls : Array Slot), J18 = some r → va_P D vwCl ((wM cI cO b) S) H → va_S (AM b) s.heap H locs → lv_has ls 2 [] → W p l e rm_X7_isBegun s m args below meth c H locs 0 0 Q (F0 m 18 ls []) := by
    intro  H locs ls hf hP hS hl
    rw [eJ18] at hf
    refine lv_iconst (v := 1) hx hb dX7_isBegun_18 (by decide) ?_
    refine lv_goto (tgt := 23) hx hb dX7_isBegun_19 (by decide) ?_
    exact g_zret F hr hlocks hQ hK hP hS rfl (Option.some.inj hf) rfl dX7_isBegun_23
  clear eJ18
  refine lv_if_eq (tgt := 18) hx hb dX7_isBegun_1 (by decide) (fun q => ?_) (fun q => ?_)
  · replace hf := ite_t q hf
    exact kJ18 _ _ _ hf hP hS (lv_sub hl [] rfl)
  · replace hf := ite_f q hf
    refine lv_aload_n hx hb dX7_isBegun_4 rfl (lv_at hl 0 rfl) ?_
    refine g_get F hK hP inA7 0 wM_o rfl 11 (by decide) wd_763 (v := .ref (b + 9)) rfl dX7_isBegun_5 ?_
    refine lv_aload_n hx hb dX7_isBegun_8 rfl (lv_at hl 0 rfl) ?_
    refine g_get F hK hP inA7 0 wM_o rfl 27 (by decide) wd_779 (v := .ref (b + 21)) rfl dX7_isBegun_9 ?_
    refine lv_iload_n hx hb dX7_isBegun_12 rfl (lv_at hl 1 rfl) ?_
    obtain ⟨hi, hf⟩ := ck_some hf
    refine va_iald hx hb hK hP 21 0 wM_a27 rfl hi dX7_isBegun_13 ?_
    obtain ⟨hi, hf⟩ := ck_some hf
    refine va_zald hx hb hK hP 9 1 wM_a11 rfl hi dX7_isBegun_14 ?_
    refine lv_if_eq (tgt := 22) hx hb dX7_isBegun_15 (by decide) (fun q => ?_) (fun q => ?_)
    · replace hf := ite_t q hf
      refine lv_iconst (v := 0) hx hb dX7_isBegun_22 (by decide) ?_
      exact g_zret F hr hlocks hQ hK hP hS rfl (Option.some.inj hf) rfl dX7_isBegun_23
    · replace hf := ite_f q hf
      exact kJ18 _ _ _ hf hP hS (lv_sub hl [] rfl)
abbrev rm_X7_isBad : Room := { frames := 1, cells := 0, slots := 0, locals := 21 }
theorem hd_X7_isBad : yX7_isBad.cls = RX7 ∧ yX7_isBad.cls ≠ "java/lang/invoke/MethodHandle" ∧ yX7_isBad.cls ≠ "java/lang/invoke/VarHandle" ∧ (parseMethodDescriptor yX7_isBad.desc).map (fun d => d.parameters.length) = some 1 := by decide +kernel
set_option maxRecDepth 100000 in
set_option maxHeartbeats 4000000 in
theorem c_X7_isBad (l : Launch) (D : va_G) (cI cO : ClassId) (b : Nat) (S : St) (x1 : Int32) (r : Int32) (hf : f_X7_isBad S x1 = some r) : Met l yX7_isBad (Cond.code yX7_isBad cX7_isBad 3 (some .boolean) :: wsAll) rm_X7_isBad (PX D (wM cI cO b) (tyM cI cO) S [.ref (b + 0), .int x1]) (Qi D (wM cI cO b) (tyM cI cO) (AM b) r S) 0 0 (AM b) := by
  unfold f_X7_isBad at hf
  refine g_met RX7 (by decide +kernel) (Nat.le_of_ble_eq_true rfl) rfl ?_
  intro p e s m args below meth c ls Q F hr hlocks hK hP hl hQ
  have hx := F.1
  have hb := F.2.1
  have hS : va_S (AM b) s.heap s.heap [] := va_S.rf
  have hl : lv_has ls 3 [(0, .ref (b + 0)), (1, .int x1)] := hl
  refine lv_iload_n hx hb dX7_isBad_0 rfl (lv_at hl 1 rfl) ?_
  refine lv_aload_n hx hb dX7_isBad_1 rfl (lv_at hl 0 rfl) ?_
  refine g_get F hK hP inA7 0 wM_o rfl 26 (by decide) wd_778 (v := .int (gi S 26)) rfl dX7_isBad_2 ?_
  refine lv_iconst (v := 1) hx hb dX7_isBad_5 (by decide) ?_
  refine lv_isub hx hb dX7_isBad_6 ?_
  obtain ⟨J34, eJ34, hf⟩ := jn_some hf
  have kJ34 : ∀ (H : Heap) (locs : List Loc) (ls : Array Slot), J34 = some r → va_P D vwCl ((wM cI cO b) S) H → va_S (AM b) s.heap H locs → lv_has ls 3 [(0, .ref (b + 0)), (1, .int x1)] → W p l e rm_X7_isBad s m args below meth c H locs 0 0 Q (F0 m 34 ls []) := by
    intro  H locs ls hf hP hS hl
    rw [eJ34] at hf
    refine lv_iconst (v := 1) hx hb dX7_isBad_34 (by decide) ?_
    refine lv_goto (tgt := 39) hx hb dX7_isBad_35 (by decide) ?_
    refine lv_istore_n (lv' := [(2, .int (1 : Int32)), (0, .ref (b + 0)), (1, .int x1)]) hx hb dX7_isBad_39 rfl hl (by decide) rfl (fun ls hl => ?_)
    refine lv_aload_n hx hb dX7_isBad_40 rfl (lv_at hl 1 rfl) ?_
    refine lv_iload_n hx hb dX7_isBad_41 rfl (lv_at hl 2 rfl) ?_
    obtain ⟨v42, q42, hf⟩ := cl_some hf
    refine g_calli F hK hP hS [.int x1] (c_X7_isBegun l D cI cO b S x1 v42 q42) wd_921 wd_923 wp_37 wd_9 wd_924 wM_o rfl hd_X7_isBegun rfl rfl ⟨Nat.le_of_ble_eq_true rfl, Nat.le_of_ble_eq_true rfl⟩ rfl hl (rest := []) rfl (Nat.le_of_ble_eq_true rfl) dX7_isBad_42 ⟨Nat.le_of_ble_eq_true rfl, Nat.le_of_ble_eq_true rfl⟩ (fun H locs hP hS => ?_)
    obtain ⟨J66, eJ66, hf⟩ := jn_some hf
    have kJ66 : ∀ (H : Heap) (locs : List Loc) (ls : Array Slot), J66 = some r → va_P D vwCl ((wM cI cO b) S) H → va_S (AM b) s.heap H locs → lv_has ls 3 [] → W p l e rm_X7_isBad s m args below meth c H locs 0 0 Q (F0 m 66 ls []) := by
      intro  H locs ls hf hP hS hl
      rw [eJ66] at hf
      refine lv_iconst (v := 0) hx hb dX7_isBad_66 (by decide) ?_
      exact g_zret F hr hlocks hQ hK hP hS rfl (Option.some.inj hf) rfl dX7_isBad_67
    clear eJ66
    refine lv_if_ne (tgt := 66) hx hb dX7_isBad_45 (by decide) (fun q => ?_) (fun q => ?_)
    · replace hf := ite_t q hf
      exact kJ66 _ _ _ hf hP hS (lv_sub hl [] rfl)
    · replace hf := ite_f (fun h => h q) hf
      refine lv_aload_n hx hb dX7_isBad_48 rfl (lv_at hl 1 rfl) ?_
      refine lv_iload_n hx hb dX7_isBad_49 rfl (lv_at hl 2 rfl) ?_
      refine lv_iconst (v := 1) hx hb dX7_isBad_50 (by decide) ?_
      refine lv_isub hx hb dX7_isBad_51 ?_
      obtain ⟨v52, q52, hf⟩ := cl_some hf
      refine g_calli F hK hP hS [.int (x1 - (1 : Int32))] (c_X7_isBegun l D cI cO b S (x1 - (1 : Int32)) v52 q52) wd_921 wd_923 wp_37 wd_9 wd_924 wM_o rfl hd_X7_isBegun rfl rfl ⟨Nat.le_of_ble_eq_true rfl, Nat.le_of_ble_eq_true rfl⟩ rfl hl (rest := []) rfl (Nat.le_of_ble_eq_true rfl) dX7_isBad_52 ⟨Nat.le_of_ble_eq_true rfl, Nat.le_of_ble_eq_true rfl⟩ (fun H locs hP hS => ?_)
      obtain ⟨J62, eJ62, hf⟩ := jn_some hf
      have kJ62 : ∀ (H : Heap) (locs : List Loc) (ls : Array Slot), J62 = some r → va_P D vwCl ((wM cI cO b) S) H → va_S (AM b) s.heap H locs → lv_has ls 3 [] → W p l e rm_X7_isBad s m args below meth c H locs 0 0 Q (F0 m 62 ls []) := by
        intro  H locs ls hf hP hS hl
        rw [eJ62] at hf
        refine lv_iconst (v := 1) hx hb dX7_isBad_62 (by decide) ?_
        refine lv_goto (tgt := 67) hx hb dX7_isBad_63 (by decide) ?_
        exact g_zret F hr hlocks hQ hK hP hS rfl (Option.some.inj hf) rfl dX7_isBad_67
      clear eJ62
      refine lv_if_ne (tgt := 62) hx hb dX7_isBad_55 (by decide) (fun q => ?_) (fun q => ?_)
      · replace hf := ite_t q hf
        exact kJ62 _ _ _ hf hP hS (lv_sub hl [] rfl)
      · replace hf := ite_f (fun h => h q) hf
        refine lv_iload_n hx hb dX7_isBad_58 rfl (lv_at hl 0 rfl) ?_
        refine lv_if_eq (tgt := 66) hx hb dX7_isBad_59 (by decide) (fun q => ?_) (fun q => ?_)
        · replace hf := ite_t q hf
          exact kJ66 _ _ _ hf hP hS (lv_sub hl [] rfl)
        · replace hf := ite_f q hf
          exact kJ62 _ _ _ hf hP hS (lv_sub hl [] rfl)
  clear eJ34
  obtain ⟨J39, eJ39, hf⟩ := jn_some hf
  have kJ39 : ∀ (t0_39 : Int32) (H : Heap) (locs : List Loc) (ls : Array Slot), J39 t0_39 = some r → va_P D vwCl ((wM cI cO b) S) H → va_S (AM b) s.heap H locs → lv_has ls 3 [(0, .ref (b + 0)), (1, .int x1)] → W p l e rm_X7_isBad s m args below meth c H locs 0 0 Q (F0 m 39 ls [.int t0_39]) := by
    intro t0_39 H locs ls hf hP hS hl
    rw [eJ39] at hf
    refine lv_istore_n (lv' := [(2, .int t0_39), (0, .ref (b + 0)), (1, .int x1)]) hx hb dX7_isBad_39 rfl hl (by decide) rfl (fun ls hl => ?_)
    refine lv_aload_n hx hb dX7_isBad_40 rfl (lv_at hl 1 rfl) ?_
    refine lv_iload_n hx hb dX7_isBad_41 rfl (lv_at hl 2 rfl) ?_
    obtain ⟨v42, q42, hf⟩ := cl_some hf
    refine g_calli F hK hP hS [.int x1] (c_X7_isBegun l D cI cO b S x1 v42 q42) wd_921 wd_923 wp_37 wd_9 wd_924 wM_o rfl hd_X7_isBegun rfl rfl ⟨Nat.le_of_ble_eq_true rfl, Nat.le_of_ble_eq_true rfl⟩ rfl hl (rest := []) rfl (Nat.le_of_ble_eq_true rfl) dX7_isBad_42 ⟨Nat.le_of_ble_eq_true rfl, Nat.le_of_ble_eq_true rfl⟩ (fun H locs hP hS => ?_)
    obtain ⟨J66, eJ66, hf⟩ := jn_some hf
    have kJ66 : ∀ (H : Heap) (locs : List Loc) (ls : Array Slot), J66 = some r → va_P D vwCl ((wM cI cO b) S) H → va_S (AM b) s.heap H locs → lv_has ls 3 [] → W p l e rm_X7_isBad s m args below meth c H locs 0 0 Q (F0 m 66 ls []) := by
      intro  H locs ls hf hP hS hl
      rw [eJ66] at hf
      refine lv_iconst (v := 0) hx hb dX7_isBad_66 (by decide) ?_
      exact g_zret F hr hlocks hQ hK hP hS rfl (Option.some.inj hf) rfl dX7_isBad_67
    clear eJ66
    refine lv_if_ne (tgt := 66) hx hb dX7_isBad_45 (by decide) (fun q => ?_) (fun q => ?_)
    · replace hf := ite_t q hf
      exact kJ66 _ _ _ hf hP hS (lv_sub hl [] rfl)
    · replace hf := ite_f (fun h => h q) hf
      refine lv_aload_n hx hb dX7_isBad_48 rfl (lv_at hl 1 rfl) ?_
      refine lv_iload_n hx hb dX7_isBad_49 rfl (lv_at hl 2 rfl) ?_
      refine lv_iconst (v := 1) hx hb dX7_isBad_50 (by decide) ?_
      refine lv_isub hx hb dX7_isBad_51 ?_
      obtain ⟨v52, q52, hf⟩ := cl_some hf
      refine g_calli F hK hP hS [.int (x1 - (1 : Int32))] (c_X7_isBegun l D cI cO b S (x1 - (1 : Int32)) v52 q52) wd_921 wd_923 wp_37 wd_9 wd_924 wM_o rfl hd_X7_isBegun rfl rfl ⟨Nat.le_of_ble_eq_true rfl, Nat.le_of_ble_eq_true rfl⟩ rfl hl (rest := []) rfl (Nat.le_of_ble_eq_true rfl) dX7_isBad_52 ⟨Nat.le_of_ble_eq_true rfl, Nat.le_of_ble_eq_true rfl⟩ (fun H locs hP hS => ?_)
      obtain ⟨J62, eJ62, hf⟩ := jn_some hf
      have kJ62 : ∀ (H : Heap) (locs : List Loc) (ls : Array Slot), J62 = some r → va_P D vwCl ((wM cI cO b) S) H → va_S (AM b) s.heap H locs → lv_has ls 3 [] → W p l e rm_X7_isBad s m args below meth c H locs 0 0 Q (F0 m 62 ls []) := by
        intro  H locs ls hf hP hS hl
        rw [eJ62] at hf
        refine lv_iconst (v := 1) hx hb dX7_isBad_62 (by decide) ?_
        refine lv_goto (tgt := 67) hx hb dX7_isBad_63 (by decide) ?_
        exact g_zret F hr hlocks hQ hK hP hS rfl (Option.some.inj hf) rfl dX7_isBad_67
      clear eJ62
      refine lv_if_ne (tgt := 62) hx hb dX7_isBad_55 (by decide) (fun q => ?_) (fun q => ?_)
      · replace hf := ite_t q hf
        exact kJ62 _ _ _ hf hP hS (lv_sub hl [] rfl)
      · replace hf := ite_f (fun h => h q) hf
        refine lv_iload_n hx hb dX7_isBad_58 rfl (lv_at hl 0 rfl) ?_
        refine lv_if_eq (tgt := 66) hx hb dX7_isBad_59 (by decide) (fun q => ?_) (fun q => ?_)
        · replace hf := ite_t q hf
          exact kJ66 _ _ _ hf hP hS (lv_sub hl [] rfl)
        · replace hf := ite_f q hf
          exact kJ62 _ _ _ hf hP hS (lv_sub hl [] rfl)
  clear eJ39
  refine lv_icmp_eq (tgt := 34) hx hb dX7_isBad_7 (by decide) (fun q => ?_) (fun q => ?_)
  · replace hf := ite_t q hf
    exact kJ34 _ _ _ hf hP hS (lv_sub hl [0, 1] rfl)
  · replace hf := ite_f q hf
    refine lv_aload_n hx hb dX7_isBad_10 rfl (lv_at hl 0 rfl) ?_
    refine lv_iload_n hx hb dX7_isBad_11 rfl (lv_at hl 1 rfl) ?_
    refine lv_iconst (v := 1) hx hb dX7_isBad_12 (by decide) ?_
    refine lv_iadd hx hb dX7_isBad_13 ?_
    refine lv_aload_n hx hb dX7_isBad_14 rfl (lv_at hl 0 rfl) ?_
    refine g_get F hK hP inA7 0 wM_o rfl 26 (by decide) wd_778 (v := .int (gi S 26)) rfl dX7_isBad_15 ?_
    obtain ⟨J28, eJ28, hf⟩ := jn_some hf
    have kJ28 : ∀ (t0_28 : Int32) (H : Heap) (locs : List Loc) (ls : Array Slot), J28 t0_28 = some r → va_P D vwCl ((wM cI cO b) S) H → va_S (AM b) s.heap H locs → lv_has ls 3 [(0, .ref (b + 0)), (1, .int x1)] → W p l e rm_X7_isBad s m args below meth c H locs 0 0 Q (F0 m 28 ls [.int t0_28, .ref (b + 0)]) := by
      intro t0_28 H locs ls hf hP hS hl
      rw [eJ28] at hf
      obtain ⟨v28, q28, hf⟩ := cl_some hf
      refine g_calli F hK hP hS [.int t0_28] (c_X7_isBegun l D cI cO b S t0_28 v28 q28) wd_921 wd_923 wp_37 wd_9 wd_924 wM_o rfl hd_X7_isBegun rfl rfl ⟨Nat.le_of_ble_eq_true rfl, Nat.le_of_ble_eq_true rfl⟩ rfl hl (rest := []) rfl (Nat.le_of_ble_eq_true rfl) dX7_isBad_28 ⟨Nat.le_of_ble_eq_true rfl, Nat.le_of_ble_eq_true rfl⟩ (fun H locs hP hS => ?_)
      refine lv_if_eq (tgt := 38) hx hb dX7_isBad_31 (by decide) (fun q => ?_) (fun q => ?_)
      · replace hf := ite_t q hf
        refine lv_iconst (v := 0) hx hb dX7_isBad_38 (by decide) ?_
        exact kJ39 _ _ _ _ hf hP hS (lv_sub hl [0, 1] rfl)
      · replace hf := ite_f q hf
        exact kJ34 _ _ _ hf hP hS (lv_sub hl [0, 1] rfl)
    clear eJ28
    refine lv_icmp_ge (tgt := 27) hx hb dX7_isBad_18 (by decide) (fun q => ?_) (fun q => ?_)
    · replace hf := ite_t q hf
      refine lv_iload_n hx hb dX7_isBad_27 rfl (lv_at hl 1 rfl) ?_
      exact kJ28 _ _ _ _ hf hP hS (lv_sub hl [0, 1] rfl)
    · replace hf := ite_f q hf
      refine lv_iload_n hx hb dX7_isBad_21 rfl (lv_at hl 1 rfl) ?_
      refine lv_iconst (v := 1) hx hb dX7_isBad_22 (by decide) ?_
      refine lv_iadd hx hb dX7_isBad_23 ?_
      refine lv_goto (tgt := 28) hx hb dX7_isBad_24 (by decide) ?_
      exact kJ28 _ _ _ _ hf hP hS (lv_sub hl [0, 1] rfl)
abbrev rm_X7_endOf : Room := { frames := 2, cells := 0, slots := 0, locals := 43 }
theorem hd_X7_endOf : yX7_endOf.cls = RX7 ∧ yX7_endOf.cls ≠ "java/lang/invoke/MethodHandle" ∧ yX7_endOf.cls ≠ "java/lang/invoke/VarHandle" ∧ (parseMethodDescriptor yX7_endOf.desc).map (fun d => d.parameters.length) = some 1 := by decide +kernel
set_option maxRecDepth 100000 in
set_option maxHeartbeats 4000000 in
theorem c_X7_endOf (l : Launch) (D : va_G) (cI cO : ClassId) (b : Nat) (S : St) (x1 : Int32) (r : Int32) (hf : f_X7_endOf S x1 = some r) : Met l yX7_endOf (Cond.code yX7_endOf cX7_endOf 5 (some .int) :: wsAll) rm_X7_endOf (PX D (wM cI cO b) (tyM cI cO) S [.ref (b + 0), .int x1]) (Qi D (wM cI cO b) (tyM cI cO) (AM b) r S) 0 0 (AM b) := by
  unfold f_X7_endOf at hf
  refine g_met RX7 (by decide +kernel) (Nat.le_of_ble_eq_true rfl) rfl ?_
  intro p e s m args below meth c ls Q F hr hlocks hK hP hl hQ
  have hx := F.1
  have hb := F.2.1
  have hS : va_S (AM b) s.heap s.heap [] := va_S.rf
  have hl : lv_has ls 5 [(0, .ref (b + 0)), (1, .int x1)] := hl
  refine lv_iconst (v := 0) hx hb dX7_endOf_0 (by decide) ?_
  refine lv_istore_n (lv' := [(2, .int (0 : Int32)), (0, .ref (b + 0)), (1, .int x1)]) hx hb dX7_endOf_1 rfl hl (by decide) rfl (fun ls hl => ?_)
  refine lv_iload_n hx hb dX7_endOf_2 rfl (lv_at hl 2 rfl) ?_
  refine lv_istore_n (lv' := [(3, .int x1), (2, .int (0 : Int32)), (0, .ref (b + 0)), (1, .int x1)]) hx hb dX7_endOf_3 rfl hl (by decide) rfl (fun ls hl => ?_)
  refine Lp2_ind (P := fun (x2_4 : Int32) (x3_4 : Int32) => ∀ (H : Heap) (locs : List Loc) (ls : Array Slot), va_P D vwCl ((wM cI cO b) S) H → va_S (AM b) s.heap H locs → lv_has ls 5 [(0, .ref (b + 0)), (1, .int x1), (2, .int x2_4), (3, .int x3_4)] → W p l e rm_X7_endOf s m args below meth c H locs 0 0 Q (F0 m 4 ls [])) ?_ _ _ _ hf _ _ _ hP hS (lv_sub hl [2, 3, 1, 0] rfl)
  clear hf hP hS hl
  intro nx4 x2_4 x3_4 ih4 hf H locs ls hP hS hl
  refine lv_iload_n hx hb dX7_endOf_4 rfl (lv_at hl 3 rfl) ?_
  refine lv_aload_n hx hb dX7_endOf_5 rfl (lv_at hl 0 rfl) ?_
  refine g_get F hK hP inA7 0 wM_o rfl 26 (by decide) wd_778 (v := .int (gi S 26)) rfl dX7_endOf_6 ?_
  obtain ⟨J40, eJ40, hf⟩ := jn_some hf
  have kJ40 : ∀ (H : Heap) (locs : List Loc) (ls : Array Slot), J40 = some r → va_P D vwCl ((wM cI cO b) S) H → va_S (AM b) s.heap H locs → lv_has ls 5 [(0, .ref (b + 0)), (1, .int x1), (3, .int x3_4)] → W p l e rm_X7_endOf s m args below meth c H locs 0 0 Q (F0 m 40 ls []) := by
    intro  H locs ls hf hP hS hl
    rw [eJ40] at hf
    refine lv_iload_n hx hb dX7_endOf_40 rfl (lv_at hl 2 rfl) ?_
    refine lv_aload_n hx hb dX7_endOf_41 rfl (lv_at hl 0 rfl) ?_
    refine g_get F hK hP inA7 0 wM_o rfl 26 (by decide) wd_778 (v := .int (gi S 26)) rfl dX7_endOf_42 ?_
    refine lv_icmp_ne (tgt := 50) hx hb dX7_endOf_45 (by decide) (fun q => ?_) (fun q => ?_)
    · replace hf := ite_t q hf
      refine lv_iload_n hx hb dX7_endOf_50 rfl (lv_at hl 2 rfl) ?_
      refine lv_istore (lv' := [(4, .int x3_4), (0, .ref (b + 0)), (1, .int x1), (3, .int x3_4)]) hx hb dX7_endOf_51 hl (by decide) rfl (fun ls hl => ?_)
      refine Lp1_ind (P := fun (x4_53 : Int32) => ∀ (H : Heap) (locs : List Loc) (ls : Array Slot), va_P D vwCl ((wM cI cO b) S) H → va_S (AM b) s.heap H locs → lv_has ls 5 [(0, .ref (b + 0)), (1, .int x1), (3, .int x3_4), (4, .int x4_53)] → W p l e rm_X7_endOf s m args below meth c H locs 0 0 Q (F0 m 53 ls [])) ?_ _ _ hf _ _ _ hP hS (lv_sub hl [1, 2, 3, 0] rfl)
      clear hf hP hS hl
      intro nx53 x4_53 ih53 hf H locs ls hP hS hl
      refine lv_iload hx hb dX7_endOf_53 (lv_at hl 3 rfl) ?_
      refine lv_iload_n hx hb dX7_endOf_55 rfl (lv_at hl 1 rfl) ?_
      obtain ⟨J74, eJ74, hf⟩ := jn_some hf
      have kJ74 : ∀ (H : Heap) (locs : List Loc) (ls : Array Slot), J74 = some r → va_P D vwCl ((wM cI cO b) S) H → va_S (AM b) s.heap H locs → lv_has ls 5 [(1, .int x1), (3, .int x3_4), (4, .int x4_53)] → W p l e rm_X7_endOf s m args below meth c H locs 0 0 Q (F0 m 74 ls []) := by
        intro  H locs ls hf hP hS hl
        rw [eJ74] at hf
        refine lv_iload hx hb dX7_endOf_74 (lv_at hl 2 rfl) ?_
        refine lv_iload_n hx hb dX7_endOf_76 rfl (lv_at hl 0 rfl) ?_
        refine lv_icmp_le (tgt := 85) hx hb dX7_endOf_77 (by decide) (fun q => ?_) (fun q => ?_)
        · replace hf := ite_t q hf
          refine lv_iload_n hx hb dX7_endOf_85 rfl (lv_at hl 1 rfl) ?_
          exact g_iret F hr hlocks hQ hK hP hS (Option.some.inj hf) rfl dX7_endOf_86
        · replace hf := ite_f q hf
          refine lv_iload hx hb dX7_endOf_80 (lv_at hl 2 rfl) ?_
          refine lv_goto (tgt := 86) hx hb dX7_endOf_82 (by decide) ?_
          exact g_iret F hr hlocks hQ hK hP hS (Option.some.inj hf) rfl dX7_endOf_86
      clear eJ74
      refine lv_icmp_le (tgt := 74) hx hb dX7_endOf_56 (by decide) (fun q => ?_) (fun q => ?_)
      · replace hf := ite_t q hf
        exact kJ74 _ _ _ hf hP hS (lv_sub hl [1, 2, 3] rfl)
      · replace hf := ite_f q hf
        refine lv_aload_n hx hb dX7_endOf_59 rfl (lv_at hl 0 rfl) ?_
        refine lv_iload hx hb dX7_endOf_60 (lv_at hl 3 rfl) ?_
        obtain ⟨v62, q62, hf⟩ := cl_some hf
        refine g_calli F hK hP hS [.int x4_53] (c_X7_isBad l D cI cO b S x4_53 v62 q62) wd_917 wd_919 wp_36 wd_9 wd_920 wM_o rfl hd_X7_isBad rfl rfl ⟨Nat.le_of_ble_eq_true rfl, Nat.le_of_ble_eq_true rfl⟩ rfl hl (rest := []) rfl (Nat.le_of_ble_eq_true rfl) dX7_endOf_62 ⟨Nat.le_of_ble_eq_true rfl, Nat.le_of_ble_eq_true rfl⟩ (fun H locs hP hS => ?_)
        refine lv_if_eq (tgt := 74) hx hb dX7_endOf_65 (by decide) (fun q => ?_) (fun q => ?_)
        · replace hf := ite_t q hf
          exact kJ74 _ _ _ hf hP hS (lv_sub hl [1, 2, 3] rfl)
        · replace hf := ite_f q hf
          obtain ⟨x4_68, ex4_68, hf⟩ := lt_some hf
          refine lv_iinc (v := x4_68) (lv' := [(4, .int x4_68), (0, .ref (b + 0)), (1, .int x1), (3, .int x3_4)]) hx hb dX7_endOf_68 hl (k := 3) rfl (by rw [ex4_68]; rfl) (by decide) rfl (fun ls hl => ?_)
          refine lv_goto (tgt := 53) hx hb dX7_endOf_71 (by decide) ?_
          exact ih53 _ hf _ _ _ hP hS (lv_sub hl [1, 2, 3, 0] rfl)
    · replace hf := ite_f (fun h => h q) hf
      refine lv_iload_n hx hb dX7_endOf_48 rfl (lv_at hl 2 rfl) ?_
      exact g_iret F hr hlocks hQ hK hP hS (Option.some.inj hf) rfl dX7_endOf_49
  clear eJ40
  refine lv_icmp_ge (tgt := 40) hx hb dX7_endOf_9 (by decide) (fun q => ?_) (fun q => ?_)
  · replace hf := ite_t q hf
    exact kJ40 _ _ _ hf hP hS (lv_sub hl [0, 1, 3] rfl)
  · replace hf := ite_f q hf
    refine lv_iload_n hx hb dX7_endOf_12 rfl (lv_at hl 2 rfl) ?_
    refine lv_aload_n hx hb dX7_endOf_13 rfl (lv_at hl 0 rfl) ?_
    refine g_get F hK hP inA7 0 wM_o rfl 28 (by decide) wd_780 (v := .ref (b + 22)) rfl dX7_endOf_14 ?_
    refine lv_iload_n hx hb dX7_endOf_17 rfl (lv_at hl 3 rfl) ?_
    obtain ⟨hi, hf⟩ := ck_some hf
    refine va_iald hx hb hK hP 22 0 wM_a28 rfl hi dX7_endOf_18 ?_
    refine lv_iadd hx hb dX7_endOf_19 ?_
    refine lv_bipush (v := 6) hx hb dX7_endOf_20 (by decide) ?_
    refine lv_icmp_gt (tgt := 40) hx hb dX7_endOf_22 (by decide) (fun q => ?_) (fun q => ?_)
    · replace hf := ite_t q hf
      exact kJ40 _ _ _ hf hP hS (lv_sub hl [0, 1, 3] rfl)
    · replace hf := ite_f q hf
      refine lv_iload_n hx hb dX7_endOf_25 rfl (lv_at hl 2 rfl) ?_
      refine lv_aload_n hx hb dX7_endOf_26 rfl (lv_at hl 0 rfl) ?_
      refine g_get F hK hP inA7 0 wM_o rfl 28 (by decide) wd_780 (v := .ref (b + 22)) rfl dX7_endOf_27 ?_
      refine lv_iload_n hx hb dX7_endOf_30 rfl (lv_at hl 3 rfl) ?_
      obtain ⟨hi, hf⟩ := ck_some hf
      refine va_iald hx hb hK hP 22 0 wM_a28 rfl hi dX7_endOf_31 ?_
      refine lv_iadd hx hb dX7_endOf_32 ?_
      obtain ⟨x2_33, ex2_33, hf⟩ := lt_some hf
      rw [← ex2_33]
      refine lv_istore_n (lv' := [(2, .int x2_33), (0, .ref (b + 0)), (1, .int x1), (3, .int x3_4)]) hx hb dX7_endOf_33 rfl hl (by decide) rfl (fun ls hl => ?_)
      obtain ⟨x3_34, ex3_34, hf⟩ := lt_some hf
      refine lv_iinc (v := x3_34) (lv' := [(3, .int x3_34), (2, .int x2_33), (0, .ref (b + 0)), (1, .int x1)]) hx hb dX7_endOf_34 hl (k := 3) rfl (by rw [ex3_34]; rfl) (by decide) rfl (fun ls hl => ?_)
      refine lv_goto (tgt := 4) hx hb dX7_endOf_37 (by decide) ?_
      exact ih4 _ _ hf _ _ _ hP hS (lv_sub hl [2, 3, 1, 0] rfl)
abbrev rm_X7_lay : Room := { frames := 4, cells := 0, slots := 0, locals := 93 }
theorem hd_X7_lay : yX7_lay.cls = RX7 ∧ yX7_lay.cls ≠ "java/lang/invoke/MethodHandle" ∧ yX7_lay.cls ≠ "java/lang/invoke/VarHandle" ∧ (parseMethodDescriptor yX7_lay.desc).map (fun d => d.parameters.length) = some 1 := by decide +kernel
set_option maxRecDepth 100000 in
set_option maxHeartbeats 4000000 in
theorem c_X7_lay (l : Launch) (D : va_G) (cI cO : ClassId) (b : Nat) (S : St) (x1 : Int32) (S1 : St) (hf : f_X7_lay S x1 = some S1) : Met l yX7_lay (Cond.code yX7_lay cX7_lay 5 none :: wsAll) rm_X7_lay (PX D (wM cI cO b) (tyM cI cO) S [.ref (b + 0), .int x1]) (Qv D (wM cI cO b) (tyM cI cO) (AM b) S1) 0 0 (AM b) := by
  unfold f_X7_lay at hf
  refine g_met RX7 (by decide +kernel) (Nat.le_of_ble_eq_true rfl) rfl ?_
  intro p e s m args below meth c ls Q F hr hlocks hK hP hl hQ
  have hx := F.1
  have hb := F.2.1
  have hS : va_S (AM b) s.heap s.heap [] := va_S.rf
  have hl : lv_has ls 5 [(0, .ref (b + 0)), (1, .int x1)] := hl
  refine lv_aload_n hx hb dX7_lay_0 rfl (lv_at hl 0 rfl) ?_
  refine lv_iload_n hx hb dX7_lay_1 rfl (lv_at hl 1 rfl) ?_
  obtain ⟨S_2, q2, hf⟩ := cl_some hf
  refine g_callv F hK hP hS [.int x1] (c_X7_arrange l D cI cO b S x1 S_2 q2) wd_889 wd_891 wp_29 wd_9 wd_892 wM_o rfl hd_X7_arrange rfl rfl ⟨Nat.le_of_ble_eq_true rfl, Nat.le_of_ble_eq_true rfl⟩ rfl hl (rest := []) rfl (Nat.le_of_ble_eq_true rfl) dX7_lay_2 ⟨Nat.le_of_ble_eq_true rfl, Nat.le_of_ble_eq_true rfl⟩ (fun H locs hP hS => ?_)
  refine lv_aload_n hx hb dX7_lay_5 rfl (lv_at hl 0 rfl) ?_
  refine lv_iload_n hx hb dX7_lay_6 rfl (lv_at hl 1 rfl) ?_
  obtain ⟨S_7, q7, hf⟩ := cl_some hf
  refine g_callv F hK hP hS [.int x1] (c_X7_layRows l D cI cO b S_2 x1 S_7 q7) wd_901 wd_903 wp_32 wd_9 wd_904 wM_o rfl hd_X7_layRows rfl rfl ⟨Nat.le_of_ble_eq_true rfl, Nat.le_of_ble_eq_true rfl⟩ rfl hl (rest := []) rfl (Nat.le_of_ble_eq_true rfl) dX7_lay_7 ⟨Nat.le_of_ble_eq_true rfl, Nat.le_of_ble_eq_true rfl⟩ (fun H locs hP hS => ?_)
  refine lv_aload_n hx hb dX7_lay_10 rfl (lv_at hl 0 rfl) ?_
  refine lv_iconst (v := 0) hx hb dX7_lay_11 (by decide) ?_
  obtain ⟨S_12, eS_12, hf⟩ := lt_some hf
  refine g_puti (S1 := S_12) F hK hP wM_D hS inA7 tyX7 tyX7_ok nmX7 0 wM_o rfl 30 (by decide) wd_782 rfl (by decide +kernel) (Nat.le_of_ble_eq_true rfl) (by rw [eS_12]; exact wM_si_30) dX7_lay_12 (fun H locs hP hS => ?_)
  refine lv_iconst (v := 0) hx hb dX7_lay_15 (by decide) ?_
  refine lv_istore_n (lv' := [(2, .int (0 : Int32)), (0, .ref (b + 0)), (1, .int x1)]) hx hb dX7_lay_16 rfl hl (by decide) rfl (fun ls hl => ?_)
  refine Lp2_ind (P := fun (x2_17 : Int32) (S_17 : St) => ∀ (H : Heap) (locs : List Loc) (ls : Array Slot), va_P D vwCl ((wM cI cO b) S_17) H → va_S (AM b) s.heap H locs → lv_has ls 5 [(0, .ref (b + 0)), (2, .int x2_17)] → W p l e rm_X7_lay s m args below meth c H locs 0 0 Q (F0 m 17 ls [])) ?_ _ _ _ hf _ _ _ hP hS (lv_sub hl [1, 0] rfl)
  clear hf hP hS hl
  intro nx17 x2_17 S_17 ih17 hf H locs ls hP hS hl
  refine lv_iload_n hx hb dX7_lay_17 rfl (lv_at hl 1 rfl) ?_
  refine lv_aload_n hx hb dX7_lay_18 rfl (lv_at hl 0 rfl) ?_
  refine g_get F hK hP inA7 0 wM_o rfl 26 (by decide) wd_778 (v := .int (gi S_17 26)) rfl dX7_lay_19 ?_
  refine lv_icmp_ge (tgt := 72) hx hb dX7_lay_22 (by decide) (fun q => ?_) (fun q => ?_)
  · replace hf := ite_t q hf
    exact g_vret F hr hlocks hQ hK hP hS (Option.some.inj hf) dX7_lay_72
  · replace hf := ite_f q hf
    refine lv_aload_n hx hb dX7_lay_25 rfl (lv_at hl 0 rfl) ?_
    refine lv_iload_n hx hb dX7_lay_26 rfl (lv_at hl 1 rfl) ?_
    obtain ⟨v27, q27, hf⟩ := cl_some hf
    refine g_calli F hK hP hS [.int x2_17] (c_X7_endOf l D cI cO b S_17 x2_17 v27 q27) wd_913 wd_915 wp_35 wd_9 wd_916 wM_o rfl hd_X7_endOf rfl rfl ⟨Nat.le_of_ble_eq_true rfl, Nat.le_of_ble_eq_true rfl⟩ rfl hl (rest := []) rfl (Nat.le_of_ble_eq_true rfl) dX7_lay_27 ⟨Nat.le_of_ble_eq_true rfl, Nat.le_of_ble_eq_true rfl⟩ (fun H locs hP hS => ?_)
    refine lv_istore_n (lv' := [(3, .int v27), (0, .ref (b + 0)), (2, .int x2_17)]) hx hb dX7_lay_30 rfl hl (by decide) rfl (fun ls hl => ?_)
    refine lv_iload_n hx hb dX7_lay_31 rfl (lv_at hl 2 rfl) ?_
    refine lv_istore (lv' := [(4, .int x2_17), (3, .int v27), (0, .ref (b + 0)), (2, .int x2_17)]) hx hb dX7_lay_32 hl (by decide) rfl (fun ls hl => ?_)
    refine Lp2_ind (P := fun (x4_34 : Int32) (S_34 : St) => ∀ (H : Heap) (locs : List Loc) (ls : Array Slot), va_P D vwCl ((wM cI cO b) S_34) H → va_S (AM b) s.heap H locs → lv_has ls 5 [(0, .ref (b + 0)), (3, .int v27), (4, .int x4_34)] → W p l e rm_X7_lay s m args below meth c H locs 0 0 Q (F0 m 34 ls [])) ?_ _ _ _ hf _ _ _ hP hS (lv_sub hl [2, 1, 0] rfl)
    clear hf hP hS hl
    intro nx34 x4_34 S_34 ih34 hf H locs ls hP hS hl
    refine lv_iload hx hb dX7_lay_34 (lv_at hl 2 rfl) ?_
    refine lv_iload_n hx hb dX7_lay_36 rfl (lv_at hl 1 rfl) ?_
    refine lv_icmp_ge (tgt := 57) hx hb dX7_lay_37 (by decide) (fun q => ?_) (fun q => ?_)
    · replace hf := ite_t q hf
      refine lv_aload_n hx hb dX7_lay_57 rfl (lv_at hl 0 rfl) ?_
      refine lv_dup hx hb dX7_lay_58 rfl ?_
      refine g_get F hK hP inA7 0 wM_o rfl 30 (by decide) wd_782 (v := .int (gi S_34 30)) rfl dX7_lay_59 ?_
      refine lv_iconst (v := 1) hx hb dX7_lay_62 (by decide) ?_
      refine lv_iadd hx hb dX7_lay_63 ?_
      obtain ⟨S_64, eS_64, hf⟩ := lt_some hf
      refine g_puti (S1 := S_64) F hK hP wM_D hS inA7 tyX7 tyX7_ok nmX7 0 wM_o rfl 30 (by decide) wd_782 rfl (by decide +kernel) (Nat.le_of_ble_eq_true rfl) (by rw [eS_64]; exact wM_si_30) dX7_lay_64 (fun H locs hP hS => ?_)
      refine lv_iload_n hx hb dX7_lay_67 rfl (lv_at hl 1 rfl) ?_
      refine lv_istore_n (lv' := [(2, .int v27), (0, .ref (b + 0)), (3, .int v27), (4, .int x4_34)]) hx hb dX7_lay_68 rfl hl (by decide) rfl (fun ls hl => ?_)
      refine lv_goto (tgt := 17) hx hb dX7_lay_69 (by decide) ?_
      exact ih17 _ _ hf _ _ _ hP hS (lv_sub hl [1, 0] rfl)
    · replace hf := ite_f q hf
      refine lv_aload_n hx hb dX7_lay_40 rfl (lv_at hl 0 rfl) ?_
      refine g_get F hK hP inA7 0 wM_o rfl 29 (by decide) wd_781 (v := .ref (b + 23)) rfl dX7_lay_41 ?_
      refine lv_iload hx hb dX7_lay_44 (lv_at hl 2 rfl) ?_
      refine lv_aload_n hx hb dX7_lay_46 rfl (lv_at hl 0 rfl) ?_
      refine g_get F hK hP inA7 0 wM_o rfl 30 (by decide) wd_782 (v := .int (gi S_34 30)) rfl dX7_lay_47 ?_
      obtain ⟨hi, hf⟩ := ck_some hf
      obtain ⟨S_50, eS_50, hf⟩ := lt_some hf
      refine g_iast (S1 := S_50) hx hb hK hP wM_D hS 23 0 wM_a29 rfl hi (by rw [eS_50]; exact wM_sa_29) dX7_lay_50 (fun H locs hP hS => ?_)
      obtain ⟨x4_51, ex4_51, hf⟩ := lt_some hf
      refine lv_iinc (v := x4_51) (lv' := [(4, .int x4_51), (0, .ref (b + 0)), (3, .int v27)]) hx hb dX7_lay_51 hl (k := 2) rfl (by rw [ex4_51]; rfl) (by decide) rfl (fun ls hl => ?_)
      refine lv_goto (tgt := 34) hx hb dX7_lay_54 (by decide) ?_
      exact ih34 _ _ hf _ _ _ hP hS (lv_sub hl [1, 2, 0] rfl)
abbrev rm_X7_remove : Room := { frames := 5, cells := 0, slots := 0, locals := 117 }
theorem hd_X7_remove : yX7_remove.cls = RX7 ∧ yX7_remove.cls ≠ "java/lang/invoke/MethodHandle" ∧ yX7_remove.cls ≠ "java/lang/invoke/VarHandle" ∧ (parseMethodDescriptor yX7_remove.desc).map (fun d => d.parameters.length) = some 2 := by decide +kernel
set_option maxRecDepth 100000 in
set_option maxHeartbeats 4000000 in
theorem c_X7_remove (l : Launch) (D : va_G) (cI cO : ClassId) (b : Nat) (S : St) (x1 : Int32) (x2 : Int32) (r : Int32) (S1 : St) (hf : f_X7_remove S x1 x2 = some (r, S1)) : Met l yX7_remove (Cond.code yX7_remove cX7_remove 5 (some .int) :: wsAll) rm_X7_remove (PX D (wM cI cO b) (tyM cI cO) S [.ref (b + 0), .int x1, .int x2]) (Qi D (wM cI cO b) (tyM cI cO) (AM b) r S1) 0 0 (AM b) := by
  unfold f_X7_remove at hf
  refine g_met RX7 (by decide +kernel) (Nat.le_of_ble_eq_true rfl) rfl ?_
  intro p e s m args below meth c ls Q F hr hlocks hK hP hl hQ
  have hx := F.1
  have hb := F.2.1
  have hS : va_S (AM b) s.heap s.heap [] := va_S.rf
  have hl : lv_has ls 5 [(0, .ref (b + 0)), (1, .int x1), (2, .int x2)] := hl
  refine lv_iload_n hx hb dX7_remove_0 rfl (lv_at hl 1 rfl) ?_
  obtain ⟨v1, q1, hf⟩ := cl_some hf
  refine g_callSi F hK hP hS [.int x1] (c_X7_isSite l D cI cO b S x1 v1 q1) wd_855 wd_856 wd_9 wd_857 hd_X7_isSite rfl rfl ⟨Nat.le_of_ble_eq_true rfl, Nat.le_of_ble_eq_true rfl⟩ rfl hl (rest := []) rfl (Nat.le_of_ble_eq_true rfl) dX7_remove_1 ⟨Nat.zero_le _, Nat.zero_le _⟩ (fun H locs hP hS => ?_)
  obtain ⟨J20, eJ20, hf⟩ := jn_some hf
  have kJ20 : ∀ (H : Heap) (locs : List Loc) (ls : Array Slot), J20 = some (r, S1) → va_P D vwCl ((wM cI cO b) S) H → va_S (AM b) s.heap H locs → lv_has ls 5 [(0, .ref (b + 0)), (1, .int x1), (2, .int x2)] → W p l e rm_X7_remove s m args below meth c H locs 0 0 Q (F0 m 20 ls []) := by
    intro  H locs ls hf hP hS hl
    rw [eJ20] at hf
    refine lv_iconst (v := 0) hx hb dX7_remove_20 (by decide) ?_
    refine lv_istore_n (lv' := [(3, .int (0 : Int32)), (0, .ref (b + 0)), (1, .int x1), (2, .int x2)]) hx hb dX7_remove_21 rfl hl (by decide) rfl (fun ls hl => ?_)
    refine lv_aload_n hx hb dX7_remove_22 rfl (lv_at hl 1 rfl) ?_
    refine lv_iload_n hx hb dX7_remove_23 rfl (lv_at hl 0 rfl) ?_
    obtain ⟨J58, eJ58, hf⟩ := jn_some hf
    have kJ58 : ∀ (t0_58 : Int32) (H : Heap) (locs : List Loc) (ls : Array Slot), J58 t0_58 = some (r, S1) → va_P D vwCl ((wM cI cO b) S) H → va_S (AM b) s.heap H locs → lv_has ls 5 [(0, .ref (b + 0)), (1, .int x1), (2, .int x2)] → W p l e rm_X7_remove s m args below meth c H locs 0 0 Q (F0 m 58 ls [.int t0_58, .ref (b + 0)]) := by
      intro t0_58 H locs ls hf hP hS hl
      rw [eJ58] at hf
      obtain ⟨v58, S_58, q58, hf⟩ := cl2_some hf
      refine g_calli F hK hP hS [.int t0_58] (c_X7_goesWell l D cI cO b S t0_58 v58 S_58 q58) wd_865 wd_867 wp_24 wd_9 wd_868 wM_o rfl hd_X7_goesWell rfl rfl ⟨Nat.le_of_ble_eq_true rfl, Nat.le_of_ble_eq_true rfl⟩ rfl hl (rest := []) rfl (Nat.le_of_ble_eq_true rfl) dX7_remove_58 ⟨Nat.le_of_ble_eq_true rfl, Nat.le_of_ble_eq_true rfl⟩ (fun H locs hP hS => ?_)
      refine lv_if_ne (tgt := 66) hx hb dX7_remove_61 (by decide) (fun q => ?_) (fun q => ?_)
      · replace hf := ite_t q hf
        refine lv_aload_n hx hb dX7_remove_66 rfl (lv_at hl 0 rfl) ?_
        refine lv_iload_n hx hb dX7_remove_67 rfl (lv_at hl 1 rfl) ?_
        refine lv_iconst (v := 1) hx hb dX7_remove_68 (by decide) ?_
        refine lv_iload_n hx hb dX7_remove_69 rfl (lv_at hl 2 rfl) ?_
        refine lv_iconst (v := -1) hx hb dX7_remove_70 (by decide) ?_
        obtain ⟨v71, S_71, q71, hf⟩ := cl2_some hf
        refine g_calli F hK hP hS [.int x1, .int (1 : Int32), .int x2, .int (-1 : Int32)] (c_X7_deed l D cI cO b S_58 x1 (1 : Int32) x2 (-1 : Int32) v71 S_71 q71) wd_869 wd_871 wp_25 wd_9 wd_872 wM_o rfl hd_X7_deed rfl rfl ⟨Nat.le_of_ble_eq_true rfl, Nat.le_of_ble_eq_true rfl⟩ rfl hl (rest := []) rfl (Nat.le_of_ble_eq_true rfl) dX7_remove_71 ⟨Nat.le_of_ble_eq_true rfl, Nat.le_of_ble_eq_true rfl⟩ (fun H locs hP hS => ?_)
        refine lv_istore (lv' := [(4, .int v71), (0, .ref (b + 0)), (1, .int x1), (2, .int x2)]) hx hb dX7_remove_74 hl (by decide) rfl (fun ls hl => ?_)
        refine lv_aload_n hx hb dX7_remove_76 rfl (lv_at hl 1 rfl) ?_
        refine lv_iload_n hx hb dX7_remove_77 rfl (lv_at hl 2 rfl) ?_
        obtain ⟨S_78, q78, hf⟩ := cl_some hf
        refine g_callv F hK hP hS [.int x1] (c_X7_lay l D cI cO b S_71 x1 S_78 q78) wd_885 wd_887 wp_28 wd_9 wd_888 wM_o rfl hd_X7_lay rfl rfl ⟨Nat.le_of_ble_eq_true rfl, Nat.le_of_ble_eq_true rfl⟩ rfl hl (rest := []) rfl (Nat.le_of_ble_eq_true rfl) dX7_remove_78 ⟨Nat.le_of_ble_eq_true rfl, Nat.le_of_ble_eq_true rfl⟩ (fun H locs hP hS => ?_)
        refine lv_aload_n hx hb dX7_remove_81 rfl (lv_at hl 1 rfl) ?_
        refine g_get F hK hP inA7 0 wM_o rfl 26 (by decide) wd_778 (v := .int (gi S_78 26)) rfl dX7_remove_82 ?_
        exact g_iret F hr hlocks hQ hK hP hS (Prod.mk.inj (Option.some.inj hf)).1 (Prod.mk.inj (Option.some.inj hf)).2 dX7_remove_85
      · replace hf := ite_f (fun h => h q) hf
        refine lv_iconst (v := 0) hx hb dX7_remove_64 (by decide) ?_
        exact g_iret F hr hlocks hQ hK hP hS (Prod.mk.inj (Option.some.inj hf)).1 (Prod.mk.inj (Option.some.inj hf)).2 dX7_remove_65
    clear eJ58
    refine lv_if_ne (tgt := 31) hx hb dX7_remove_24 (by decide) (fun q => ?_) (fun q => ?_)
    · replace hf := ite_t q hf
      refine lv_aload_n hx hb dX7_remove_31 rfl (lv_at hl 1 rfl) ?_
      refine lv_iload_n hx hb dX7_remove_32 rfl (lv_at hl 2 rfl) ?_
      refine lv_iload_n hx hb dX7_remove_33 rfl (lv_at hl 3 rfl) ?_
      obtain ⟨v34, q34, hf⟩ := cl_some hf
      refine g_calli F hK hP hS [.int x1, .int x2] (c_X7_isThere l D cI cO b S x1 x2 v34 q34) wd_881 wd_883 wp_27 wd_9 wd_884 wM_o rfl hd_X7_isThere rfl rfl ⟨Nat.le_of_ble_eq_true rfl, Nat.le_of_ble_eq_true rfl⟩ rfl hl (rest := [.ref (b + 0)]) rfl (Nat.le_of_ble_eq_true rfl) dX7_remove_34 ⟨Nat.le_of_ble_eq_true rfl, Nat.le_of_ble_eq_true rfl⟩ (fun H locs hP hS => ?_)
      refine lv_if_ne (tgt := 44) hx hb dX7_remove_37 (by decide) (fun q => ?_) (fun q => ?_)
      · replace hf := ite_t q hf
        refine lv_aload_n hx hb dX7_remove_44 rfl (lv_at hl 1 rfl) ?_
        refine g_get F hK hP inA7 0 wM_o rfl 1 (by decide) wd_753 (v := .int (gi S 1)) rfl dX7_remove_45 ?_
        refine lv_bipush (v := 90) hx hb dX7_remove_48 (by decide) ?_
        refine lv_icmp_ne (tgt := 57) hx hb dX7_remove_50 (by decide) (fun q => ?_) (fun q => ?_)
        · replace hf := ite_t q hf
          refine lv_iconst (v := 0) hx hb dX7_remove_57 (by decide) ?_
          exact kJ58 _ _ _ _ hf hP hS (lv_sub hl [1, 2, 3] rfl)
        · replace hf := ite_f (fun h => h q) hf
          refine lv_iconst (v := 3) hx hb dX7_remove_53 (by decide) ?_
          refine lv_goto (tgt := 58) hx hb dX7_remove_54 (by decide) ?_
          exact kJ58 _ _ _ _ hf hP hS (lv_sub hl [1, 2, 3] rfl)
      · replace hf := ite_f (fun h => h q) hf
        refine lv_iconst (v := 2) hx hb dX7_remove_40 (by decide) ?_
        refine lv_goto (tgt := 58) hx hb dX7_remove_41 (by decide) ?_
        exact kJ58 _ _ _ _ hf hP hS (lv_sub hl [1, 2, 3] rfl)
    · replace hf := ite_f (fun h => h q) hf
      refine lv_iconst (v := 1) hx hb dX7_remove_27 (by decide) ?_
      refine lv_goto (tgt := 58) hx hb dX7_remove_28 (by decide) ?_
      exact kJ58 _ _ _ _ hf hP hS (lv_sub hl [1, 2, 3] rfl)
  clear eJ20
  obtain ⟨J21, eJ21, hf⟩ := jn_some hf
  have kJ21 : ∀ (t0_21 : Int32) (H : Heap) (locs : List Loc) (ls : Array Slot), J21 t0_21 = some (r, S1) → va_P D vwCl ((wM cI cO b) S) H → va_S (AM b) s.heap H locs → lv_has ls 5 [(0, .ref (b + 0)), (1, .int x1), (2, .int x2)] → W p l e rm_X7_remove s m args below meth c H locs 0 0 Q (F0 m 21 ls [.int t0_21]) := by
    intro t0_21 H locs ls hf hP hS hl
    rw [eJ21] at hf
    refine lv_istore_n (lv' := [(3, .int t0_21), (0, .ref (b + 0)), (1, .int x1), (2, .int x2)]) hx hb dX7_remove_21 rfl hl (by decide) rfl (fun ls hl => ?_)
    refine lv_aload_n hx hb dX7_remove_22 rfl (lv_at hl 1 rfl) ?_
    refine lv_iload_n hx hb dX7_remove_23 rfl (lv_at hl 0 rfl) ?_
    obtain ⟨J58, eJ58, hf⟩ := jn_some hf
    have kJ58 : ∀ (t0_58 : Int32) (H : Heap) (locs : List Loc) (ls : Array Slot), J58 t0_58 = some (r, S1) → va_P D vwCl ((wM cI cO b) S) H → va_S (AM b) s.heap H locs → lv_has ls 5 [(0, .ref (b + 0)), (1, .int x1), (2, .int x2)] → W p l e rm_X7_remove s m args below meth c H locs 0 0 Q (F0 m 58 ls [.int t0_58, .ref (b + 0)]) := by
      intro t0_58 H locs ls hf hP hS hl
      rw [eJ58] at hf
      obtain ⟨v58, S_58, q58, hf⟩ := cl2_some hf
      refine g_calli F hK hP hS [.int t0_58] (c_X7_goesWell l D cI cO b S t0_58 v58 S_58 q58) wd_865 wd_867 wp_24 wd_9 wd_868 wM_o rfl hd_X7_goesWell rfl rfl ⟨Nat.le_of_ble_eq_true rfl, Nat.le_of_ble_eq_true rfl⟩ rfl hl (rest := []) rfl (Nat.le_of_ble_eq_true rfl) dX7_remove_58 ⟨Nat.le_of_ble_eq_true rfl, Nat.le_of_ble_eq_true rfl⟩ (fun H locs hP hS => ?_)
      refine lv_if_ne (tgt := 66) hx hb dX7_remove_61 (by decide) (fun q => ?_) (fun q => ?_)
      · replace hf := ite_t q hf
        refine lv_aload_n hx hb dX7_remove_66 rfl (lv_at hl 0 rfl) ?_
        refine lv_iload_n hx hb dX7_remove_67 rfl (lv_at hl 1 rfl) ?_
        refine lv_iconst (v := 1) hx hb dX7_remove_68 (by decide) ?_
        refine lv_iload_n hx hb dX7_remove_69 rfl (lv_at hl 2 rfl) ?_
        refine lv_iconst (v := -1) hx hb dX7_remove_70 (by decide) ?_
        obtain ⟨v71, S_71, q71, hf⟩ := cl2_some hf
        refine g_calli F hK hP hS [.int x1, .int (1 : Int32), .int x2, .int (-1 : Int32)] (c_X7_deed l D cI cO b S_58 x1 (1 : Int32) x2 (-1 : Int32) v71 S_71 q71) wd_869 wd_871 wp_25 wd_9 wd_872 wM_o rfl hd_X7_deed rfl rfl ⟨Nat.le_of_ble_eq_true rfl, Nat.le_of_ble_eq_true rfl⟩ rfl hl (rest := []) rfl (Nat.le_of_ble_eq_true rfl) dX7_remove_71 ⟨Nat.le_of_ble_eq_true rfl, Nat.le_of_ble_eq_true rfl⟩ (fun H locs hP hS => ?_)
        refine lv_istore (lv' := [(4, .int v71), (0, .ref (b + 0)), (1, .int x1), (2, .int x2)]) hx hb dX7_remove_74 hl (by decide) rfl (fun ls hl => ?_)
        refine lv_aload_n hx hb dX7_remove_76 rfl (lv_at hl 1 rfl) ?_
        refine lv_iload_n hx hb dX7_remove_77 rfl (lv_at hl 2 rfl) ?_
        obtain ⟨S_78, q78, hf⟩ := cl_some hf
        refine g_callv F hK hP hS [.int x1] (c_X7_lay l D cI cO b S_71 x1 S_78 q78) wd_885 wd_887 wp_28 wd_9 wd_888 wM_o rfl hd_X7_lay rfl rfl ⟨Nat.le_of_ble_eq_true rfl, Nat.le_of_ble_eq_true rfl⟩ rfl hl (rest := []) rfl (Nat.le_of_ble_eq_true rfl) dX7_remove_78 ⟨Nat.le_of_ble_eq_true rfl, Nat.le_of_ble_eq_true rfl⟩ (fun H locs hP hS => ?_)
        refine lv_aload_n hx hb dX7_remove_81 rfl (lv_at hl 1 rfl) ?_
        refine g_get F hK hP inA7 0 wM_o rfl 26 (by decide) wd_778 (v := .int (gi S_78 26)) rfl dX7_remove_82 ?_
        exact g_iret F hr hlocks hQ hK hP hS (Prod.mk.inj (Option.some.inj hf)).1 (Prod.mk.inj (Option.some.inj hf)).2 dX7_remove_85
      · replace hf := ite_f (fun h => h q) hf
        refine lv_iconst (v := 0) hx hb dX7_remove_64 (by decide) ?_
        exact g_iret F hr hlocks hQ hK hP hS (Prod.mk.inj (Option.some.inj hf)).1 (Prod.mk.inj (Option.some.inj hf)).2 dX7_remove_65
    clear eJ58
    refine lv_if_ne (tgt := 31) hx hb dX7_remove_24 (by decide) (fun q => ?_) (fun q => ?_)
    · replace hf := ite_t q hf
      refine lv_aload_n hx hb dX7_remove_31 rfl (lv_at hl 1 rfl) ?_
      refine lv_iload_n hx hb dX7_remove_32 rfl (lv_at hl 2 rfl) ?_
      refine lv_iload_n hx hb dX7_remove_33 rfl (lv_at hl 3 rfl) ?_
      obtain ⟨v34, q34, hf⟩ := cl_some hf
      refine g_calli F hK hP hS [.int x1, .int x2] (c_X7_isThere l D cI cO b S x1 x2 v34 q34) wd_881 wd_883 wp_27 wd_9 wd_884 wM_o rfl hd_X7_isThere rfl rfl ⟨Nat.le_of_ble_eq_true rfl, Nat.le_of_ble_eq_true rfl⟩ rfl hl (rest := [.ref (b + 0)]) rfl (Nat.le_of_ble_eq_true rfl) dX7_remove_34 ⟨Nat.le_of_ble_eq_true rfl, Nat.le_of_ble_eq_true rfl⟩ (fun H locs hP hS => ?_)
      refine lv_if_ne (tgt := 44) hx hb dX7_remove_37 (by decide) (fun q => ?_) (fun q => ?_)
      · replace hf := ite_t q hf
        refine lv_aload_n hx hb dX7_remove_44 rfl (lv_at hl 1 rfl) ?_
        refine g_get F hK hP inA7 0 wM_o rfl 1 (by decide) wd_753 (v := .int (gi S 1)) rfl dX7_remove_45 ?_
        refine lv_bipush (v := 90) hx hb dX7_remove_48 (by decide) ?_
        refine lv_icmp_ne (tgt := 57) hx hb dX7_remove_50 (by decide) (fun q => ?_) (fun q => ?_)
        · replace hf := ite_t q hf
          refine lv_iconst (v := 0) hx hb dX7_remove_57 (by decide) ?_
          exact kJ58 _ _ _ _ hf hP hS (lv_sub hl [1, 2, 3] rfl)
        · replace hf := ite_f (fun h => h q) hf
          refine lv_iconst (v := 3) hx hb dX7_remove_53 (by decide) ?_
          refine lv_goto (tgt := 58) hx hb dX7_remove_54 (by decide) ?_
          exact kJ58 _ _ _ _ hf hP hS (lv_sub hl [1, 2, 3] rfl)
      · replace hf := ite_f (fun h => h q) hf
        refine lv_iconst (v := 2) hx hb dX7_remove_40 (by decide) ?_
        refine lv_goto (tgt := 58) hx hb dX7_remove_41 (by decide) ?_
        exact kJ58 _ _ _ _ hf hP hS (lv_sub hl [1, 2, 3] rfl)
    · replace hf := ite_f (fun h => h q) hf
      refine lv_iconst (v := 1) hx hb dX7_remove_27 (by decide) ?_
      refine lv_goto (tgt := 58) hx hb dX7_remove_28 (by decide) ?_
      exact kJ58 _ _ _ _ hf hP hS (lv_sub hl [1, 2, 3] rfl)
  clear eJ21
  refine lv_if_eq (tgt := 20) hx hb dX7_remove_4 (by decide) (fun q => ?_) (fun q => ?_)
  · replace hf := ite_t q hf
    exact kJ20 _ _ _ hf hP hS (lv_sub hl [0, 1, 2] rfl)
  · replace hf := ite_f q hf
    refine lv_aload_n hx hb dX7_remove_7 rfl (lv_at hl 0 rfl) ?_
    refine lv_iload_n hx hb dX7_remove_8 rfl (lv_at hl 1 rfl) ?_
    refine lv_iload_n hx hb dX7_remove_9 rfl (lv_at hl 2 rfl) ?_
    obtain ⟨v10, q10, hf⟩ := cl_some hf
    refine g_calli F hK hP hS [.int x1, .int x2] (c_X7_knowsLine l D cI cO b S x1 x2 v10 q10) wd_861 wd_863 wp_23 wd_9 wd_864 wM_o rfl hd_X7_knowsLine rfl rfl ⟨Nat.le_of_ble_eq_true rfl, Nat.le_of_ble_eq_true rfl⟩ rfl hl (rest := []) rfl (Nat.le_of_ble_eq_true rfl) dX7_remove_10 ⟨Nat.le_of_ble_eq_true rfl, Nat.le_of_ble_eq_true rfl⟩ (fun H locs hP hS => ?_)
    refine lv_if_eq (tgt := 20) hx hb dX7_remove_13 (by decide) (fun q => ?_) (fun q => ?_)
    · replace hf := ite_t q hf
      exact kJ20 _ _ _ hf hP hS (lv_sub hl [0, 1, 2] rfl)
    · replace hf := ite_f q hf
      refine lv_iconst (v := 1) hx hb dX7_remove_16 (by decide) ?_
      refine lv_goto (tgt := 21) hx hb dX7_remove_17 (by decide) ?_
      exact kJ21 _ _ _ _ hf hP hS (lv_sub hl [0, 1, 2] rfl)
abbrev rm_X7_note : Room := { frames := 2, cells := 0, slots := 0, locals := 46 }
theorem hd_X7_note : yX7_note.cls = RX7 ∧ yX7_note.cls ≠ "java/lang/invoke/MethodHandle" ∧ yX7_note.cls ≠ "java/lang/invoke/VarHandle" ∧ (parseMethodDescriptor yX7_note.desc).map (fun d => d.parameters.length) = some 3 := by decide +kernel
set_option maxRecDepth 100000 in
set_option maxHeartbeats 4000000 in
theorem c_X7_note (l : Launch) (D : va_G) (cI cO : ClassId) (b : Nat) (S : St) (x1 : Int32) (x2 : Int32) (x3 : Int32) (r : Int32) (S1 : St) (hf : f_X7_note S x1 x2 x3 = some (r, S1)) : Met l yX7_note (Cond.code yX7_note cX7_note 6 (some .int) :: wsAll) rm_X7_note (PX D (wM cI cO b) (tyM cI cO) S [.ref (b + 0), .int x1, .int x2, .int x3]) (Qi D (wM cI cO b) (tyM cI cO) (AM b) r S1) 0 0 (AM b) := by
  unfold f_X7_note at hf
  refine g_met RX7 (by decide +kernel) (Nat.le_of_ble_eq_true rfl) rfl ?_
  intro p e s m args below meth c ls Q F hr hlocks hK hP hl hQ
  have hx := F.1
  have hb := F.2.1
  have hS : va_S (AM b) s.heap s.heap [] := va_S.rf
  have hl : lv_has ls 6 [(0, .ref (b + 0)), (1, .int x1), (2, .int x2), (3, .int x3)] := hl
  refine lv_iload_n hx hb dX7_note_0 rfl (lv_at hl 1 rfl) ?_
  obtain ⟨v1, q1, hf⟩ := cl_some hf
  refine g_callSi F hK hP hS [.int x1] (c_X7_isSite l D cI cO b S x1 v1 q1) wd_855 wd_856 wd_9 wd_857 hd_X7_isSite rfl rfl ⟨Nat.le_of_ble_eq_true rfl, Nat.le_of_ble_eq_true rfl⟩ rfl hl (rest := []) rfl (Nat.le_of_ble_eq_true rfl) dX7_note_1 ⟨Nat.zero_le _, Nat.zero_le _⟩ (fun H locs hP hS => ?_)
  obtain ⟨J20, eJ20, hf⟩ := jn_some hf
  have kJ20 : ∀ (H : Heap) (locs : List Loc) (ls : Array Slot), J20 = some (r, S1) → va_P D vwCl ((wM cI cO b) S) H → va_S (AM b) s.heap H locs → lv_has ls 6 [(0, .ref (b + 0)), (1, .int x1), (2, .int x2), (3, .int x3)] → W p l e rm_X7_note s m args below meth c H locs 0 0 Q (F0 m 20 ls []) := by
    intro  H locs ls hf hP hS hl
    rw [eJ20] at hf
    refine lv_iconst (v := 0) hx hb dX7_note_20 (by decide) ?_
    refine lv_istore (lv' := [(4, .int (0 : Int32)), (0, .ref (b + 0)), (1, .int x1), (2, .int x2), (3, .int x3)]) hx hb dX7_note_21 hl (by decide) rfl (fun ls hl => ?_)
    refine lv_iload_n hx hb dX7_note_23 rfl (lv_at hl 4 rfl) ?_
    refine lv_iconst (v := 1) hx hb dX7_note_24 (by decide) ?_
    refine lv_iconst (v := 3) hx hb dX7_note_25 (by decide) ?_
    obtain ⟨v26, q26, hf⟩ := cl_some hf
    refine g_callSi F hK hP hS [.int x3, .int (1 : Int32), .int (3 : Int32)] (c_X7_in l D cI cO b S x3 (1 : Int32) (3 : Int32) v26 q26) wd_858 wd_859 wd_9 wd_860 hd_X7_in rfl rfl ⟨Nat.le_of_ble_eq_true rfl, Nat.le_of_ble_eq_true rfl⟩ rfl hl (rest := []) rfl (Nat.le_of_ble_eq_true rfl) dX7_note_26 ⟨Nat.zero_le _, Nat.zero_le _⟩ (fun H locs hP hS => ?_)
    refine lv_istore (lv' := [(5, .int v26), (4, .int (0 : Int32)), (0, .ref (b + 0)), (1, .int x1), (2, .int x2), (3, .int x3)]) hx hb dX7_note_29 hl (by decide) rfl (fun ls hl => ?_)
    refine lv_aload_n hx hb dX7_note_31 rfl (lv_at hl 2 rfl) ?_
    refine lv_iload hx hb dX7_note_32 (lv_at hl 1 rfl) ?_
    obtain ⟨J77, eJ77, hf⟩ := jn_some hf
    have kJ77 : ∀ (t0_77 : Int32) (H : Heap) (locs : List Loc) (ls : Array Slot), J77 t0_77 = some (r, S1) → va_P D vwCl ((wM cI cO b) S) H → va_S (AM b) s.heap H locs → lv_has ls 6 [(0, .ref (b + 0)), (1, .int x1), (2, .int x2), (3, .int x3)] → W p l e rm_X7_note s m args below meth c H locs 0 0 Q (F0 m 77 ls [.int t0_77, .ref (b + 0)]) := by
      intro t0_77 H locs ls hf hP hS hl
      rw [eJ77] at hf
      obtain ⟨v77, S_77, q77, hf⟩ := cl2_some hf
      refine g_calli F hK hP hS [.int t0_77] (c_X7_goesWell l D cI cO b S t0_77 v77 S_77 q77) wd_865 wd_867 wp_24 wd_9 wd_868 wM_o rfl hd_X7_goesWell rfl rfl ⟨Nat.le_of_ble_eq_true rfl, Nat.le_of_ble_eq_true rfl⟩ rfl hl (rest := []) rfl (Nat.le_of_ble_eq_true rfl) dX7_note_77 ⟨Nat.le_of_ble_eq_true rfl, Nat.le_of_ble_eq_true rfl⟩ (fun H locs hP hS => ?_)
      refine lv_if_ne (tgt := 85) hx hb dX7_note_80 (by decide) (fun q => ?_) (fun q => ?_)
      · replace hf := ite_t q hf
        refine lv_aload_n hx hb dX7_note_85 rfl (lv_at hl 0 rfl) ?_
        refine g_get F hK hP inA7 0 wM_o rfl 14 (by decide) wd_766 (v := .ref (b + 11)) rfl dX7_note_86 ?_
        refine lv_aload_n hx hb dX7_note_89 rfl (lv_at hl 0 rfl) ?_
        refine g_get F hK hP inA7 0 wM_o rfl 12 (by decide) wd_764 (v := .int (gi S_77 12)) rfl dX7_note_90 ?_
        refine lv_iload_n hx hb dX7_note_93 rfl (lv_at hl 3 rfl) ?_
        obtain ⟨hi, hf⟩ := ck_some hf
        obtain ⟨S_94, eS_94, hf⟩ := lt_some hf
        refine g_iast (S1 := S_94) hx hb hK hP wM_D hS 11 0 wM_a14 rfl hi (by rw [eS_94]; exact wM_sa_14) dX7_note_94 (fun H locs hP hS => ?_)
        refine lv_aload_n hx hb dX7_note_95 rfl (lv_at hl 0 rfl) ?_
        refine lv_dup hx hb dX7_note_96 rfl ?_
        refine g_get F hK hP inA7 0 wM_o rfl 12 (by decide) wd_764 (v := .int (gi S_94 12)) rfl dX7_note_97 ?_
        refine lv_iconst (v := 1) hx hb dX7_note_100 (by decide) ?_
        refine lv_iadd hx hb dX7_note_101 ?_
        obtain ⟨S_102, eS_102, hf⟩ := lt_some hf
        refine g_puti (S1 := S_102) F hK hP wM_D hS inA7 tyX7 tyX7_ok nmX7 0 wM_o rfl 12 (by decide) wd_764 rfl (by decide +kernel) (Nat.le_of_ble_eq_true rfl) (by rw [eS_102]; exact wM_si_12) dX7_note_102 (fun H locs hP hS => ?_)
        refine lv_aload_n hx hb dX7_note_105 rfl (lv_at hl 0 rfl) ?_
        refine g_get F hK hP inA7 0 wM_o rfl 13 (by decide) wd_765 (v := .ref (b + 10)) rfl dX7_note_106 ?_
        refine lv_aload_n hx hb dX7_note_109 rfl (lv_at hl 0 rfl) ?_
        refine g_get F hK hP inA7 0 wM_o rfl 12 (by decide) wd_764 (v := .int (gi S_102 12)) rfl dX7_note_110 ?_
        refine lv_iconst (v := 1) hx hb dX7_note_113 (by decide) ?_
        refine lv_isub hx hb dX7_note_114 ?_
        refine lv_aload_n hx hb dX7_note_115 rfl (lv_at hl 0 rfl) ?_
        refine lv_iload_n hx hb dX7_note_116 rfl (lv_at hl 1 rfl) ?_
        refine lv_iconst (v := 2) hx hb dX7_note_117 (by decide) ?_
        refine lv_iload_n hx hb dX7_note_118 rfl (lv_at hl 2 rfl) ?_
        refine lv_aload_n hx hb dX7_note_119 rfl (lv_at hl 0 rfl) ?_
        refine g_get F hK hP inA7 0 wM_o rfl 12 (by decide) wd_764 (v := .int (gi S_102 12)) rfl dX7_note_120 ?_
        refine lv_iconst (v := 1) hx hb dX7_note_123 (by decide) ?_
        refine lv_isub hx hb dX7_note_124 ?_
        obtain ⟨v125, S_125, q125, hf⟩ := cl2_some hf
        refine g_calli F hK hP hS [.int x1, .int (2 : Int32), .int x2, .int ((gi S_102 12) - (1 : Int32))] (c_X7_deed l D cI cO b S_102 x1 (2 : Int32) x2 ((gi S_102 12) - (1 : Int32)) v125 S_125 q125) wd_869 wd_871 wp_25 wd_9 wd_872 wM_o rfl hd_X7_deed rfl rfl ⟨Nat.le_of_ble_eq_true rfl, Nat.le_of_ble_eq_true rfl⟩ rfl hl (rest := [.int ((gi S_102 12) - (1 : Int32)), .ref (b + 10)]) rfl (Nat.le_of_ble_eq_true rfl) dX7_note_125 ⟨Nat.le_of_ble_eq_true rfl, Nat.le_of_ble_eq_true rfl⟩ (fun H locs hP hS => ?_)
        obtain ⟨hi, hf⟩ := ck_some hf
        obtain ⟨S_128, eS_128, hf⟩ := lt_some hf
        refine g_iast (S1 := S_128) hx hb hK hP wM_D hS 10 0 wM_a13 rfl hi (by rw [eS_128]; exact wM_sa_13) dX7_note_128 (fun H locs hP hS => ?_)
        refine lv_aload_n hx hb dX7_note_129 rfl (lv_at hl 0 rfl) ?_
        refine g_get F hK hP inA7 0 wM_o rfl 12 (by decide) wd_764 (v := .int (gi S_128 12)) rfl dX7_note_130 ?_
        refine lv_iconst (v := 1) hx hb dX7_note_133 (by decide) ?_
        refine lv_isub hx hb dX7_note_134 ?_
        exact g_iret F hr hlocks hQ hK hP hS (Prod.mk.inj (Option.some.inj hf)).1 (Prod.mk.inj (Option.some.inj hf)).2 dX7_note_135
      · replace hf := ite_f (fun h => h q) hf
        refine lv_iconst (v := 0) hx hb dX7_note_83 (by decide) ?_
        exact g_iret F hr hlocks hQ hK hP hS (Prod.mk.inj (Option.some.inj hf)).1 (Prod.mk.inj (Option.some.inj hf)).2 dX7_note_84
    clear eJ77
    refine lv_if_ne (tgt := 41) hx hb dX7_note_34 (by decide) (fun q => ?_) (fun q => ?_)
    · replace hf := ite_t q hf
      refine lv_iload hx hb dX7_note_41 (lv_at hl 0 rfl) ?_
      refine lv_if_ne (tgt := 50) hx hb dX7_note_43 (by decide) (fun q => ?_) (fun q => ?_)
      · replace hf := ite_t q hf
        refine lv_aload_n hx hb dX7_note_50 rfl (lv_at hl 2 rfl) ?_
        refine lv_iload_n hx hb dX7_note_51 rfl (lv_at hl 3 rfl) ?_
        refine lv_iload_n hx hb dX7_note_52 rfl (lv_at hl 4 rfl) ?_
        obtain ⟨v53, q53, hf⟩ := cl_some hf
        refine g_calli F hK hP hS [.int x1, .int x2] (c_X7_isThere l D cI cO b S x1 x2 v53 q53) wd_881 wd_883 wp_27 wd_9 wd_884 wM_o rfl hd_X7_isThere rfl rfl ⟨Nat.le_of_ble_eq_true rfl, Nat.le_of_ble_eq_true rfl⟩ rfl hl (rest := [.ref (b + 0)]) rfl (Nat.le_of_ble_eq_true rfl) dX7_note_53 ⟨Nat.le_of_ble_eq_true rfl, Nat.le_of_ble_eq_true rfl⟩ (fun H locs hP hS => ?_)
        refine lv_if_ne (tgt := 63) hx hb dX7_note_56 (by decide) (fun q => ?_) (fun q => ?_)
        · replace hf := ite_t q hf
          refine lv_aload_n hx hb dX7_note_63 rfl (lv_at hl 2 rfl) ?_
          refine g_get F hK hP inA7 0 wM_o rfl 1 (by decide) wd_753 (v := .int (gi S 1)) rfl dX7_note_64 ?_
          refine lv_bipush (v := 90) hx hb dX7_note_67 (by decide) ?_
          refine lv_icmp_ne (tgt := 76) hx hb dX7_note_69 (by decide) (fun q => ?_) (fun q => ?_)
          · replace hf := ite_t q hf
            refine lv_iconst (v := 0) hx hb dX7_note_76 (by decide) ?_
            exact kJ77 _ _ _ _ hf hP hS (lv_sub hl [2, 3, 4, 5] rfl)
          · replace hf := ite_f (fun h => h q) hf
            refine lv_iconst (v := 4) hx hb dX7_note_72 (by decide) ?_
            refine lv_goto (tgt := 77) hx hb dX7_note_73 (by decide) ?_
            exact kJ77 _ _ _ _ hf hP hS (lv_sub hl [2, 3, 4, 5] rfl)
        · replace hf := ite_f (fun h => h q) hf
          refine lv_iconst (v := 3) hx hb dX7_note_59 (by decide) ?_
          refine lv_goto (tgt := 77) hx hb dX7_note_60 (by decide) ?_
          exact kJ77 _ _ _ _ hf hP hS (lv_sub hl [2, 3, 4, 5] rfl)
      · replace hf := ite_f (fun h => h q) hf
        refine lv_iconst (v := 2) hx hb dX7_note_46 (by decide) ?_
        refine lv_goto (tgt := 77) hx hb dX7_note_47 (by decide) ?_
        exact kJ77 _ _ _ _ hf hP hS (lv_sub hl [2, 3, 4, 5] rfl)
    · replace hf := ite_f (fun h => h q) hf
      refine lv_iconst (v := 1) hx hb dX7_note_37 (by decide) ?_
      refine lv_goto (tgt := 77) hx hb dX7_note_38 (by decide) ?_
      exact kJ77 _ _ _ _ hf hP hS (lv_sub hl [2, 3, 4, 5] rfl)
  clear eJ20
  obtain ⟨J21, eJ21, hf⟩ := jn_some hf
  have kJ21 : ∀ (t0_21 : Int32) (H : Heap) (locs : List Loc) (ls : Array Slot), J21 t0_21 = some (r, S1) → va_P D vwCl ((wM cI cO b) S) H → va_S (AM b) s.heap H locs → lv_has ls 6 [(0, .ref (b + 0)), (1, .int x1), (2, .int x2), (3, .int x3)] → W p l e rm_X7_note s m args below meth c H locs 0 0 Q (F0 m 21 ls [.int t0_21]) := by
    intro t0_21 H locs ls hf hP hS hl
    rw [eJ21] at hf
    refine lv_istore (lv' := [(4, .int t0_21), (0, .ref (b + 0)), (1, .int x1), (2, .int x2), (3, .int x3)]) hx hb dX7_note_21 hl (by decide) rfl (fun ls hl => ?_)
    refine lv_iload_n hx hb dX7_note_23 rfl (lv_at hl 4 rfl) ?_
    refine lv_iconst (v := 1) hx hb dX7_note_24 (by decide) ?_
    refine lv_iconst (v := 3) hx hb dX7_note_25 (by decide) ?_
    obtain ⟨v26, q26, hf⟩ := cl_some hf
    refine g_callSi F hK hP hS [.int x3, .int (1 : Int32), .int (3 : Int32)] (c_X7_in l D cI cO b S x3 (1 : Int32) (3 : Int32) v26 q26) wd_858 wd_859 wd_9 wd_860 hd_X7_in rfl rfl ⟨Nat.le_of_ble_eq_true rfl, Nat.le_of_ble_eq_true rfl⟩ rfl hl (rest := []) rfl (Nat.le_of_ble_eq_true rfl) dX7_note_26 ⟨Nat.zero_le _, Nat.zero_le _⟩ (fun H locs hP hS => ?_)
    refine lv_istore (lv' := [(5, .int v26), (4, .int t0_21), (0, .ref (b + 0)), (1, .int x1), (2, .int x2), (3, .int x3)]) hx hb dX7_note_29 hl (by decide) rfl (fun ls hl => ?_)
    refine lv_aload_n hx hb dX7_note_31 rfl (lv_at hl 2 rfl) ?_
    refine lv_iload hx hb dX7_note_32 (lv_at hl 1 rfl) ?_
    obtain ⟨J77, eJ77, hf⟩ := jn_some hf
    have kJ77 : ∀ (t0_77 : Int32) (H : Heap) (locs : List Loc) (ls : Array Slot), J77 t0_77 = some (r, S1) → va_P D vwCl ((wM cI cO b) S) H → va_S (AM b) s.heap H locs → lv_has ls 6 [(0, .ref (b + 0)), (1, .int x1), (2, .int x2), (3, .int x3)] → W p l e rm_X7_note s m args below meth c H locs 0 0 Q (F0 m 77 ls [.int t0_77, .ref (b + 0)]) := by
      intro t0_77 H locs ls hf hP hS hl
      rw [eJ77] at hf
      obtain ⟨v77, S_77, q77, hf⟩ := cl2_some hf
      refine g_calli F hK hP hS [.int t0_77] (c_X7_goesWell l D cI cO b S t0_77 v77 S_77 q77) wd_865 wd_867 wp_24 wd_9 wd_868 wM_o rfl hd_X7_goesWell rfl rfl ⟨Nat.le_of_ble_eq_true rfl, Nat.le_of_ble_eq_true rfl⟩ rfl hl (rest := []) rfl (Nat.le_of_ble_eq_true rfl) dX7_note_77 ⟨Nat.le_of_ble_eq_true rfl, Nat.le_of_ble_eq_true rfl⟩ (fun H locs hP hS => ?_)
      refine lv_if_ne (tgt := 85) hx hb dX7_note_80 (by decide) (fun q => ?_) (fun q => ?_)
      · replace hf := ite_t q hf
        refine lv_aload_n hx hb dX7_note_85 rfl (lv_at hl 0 rfl) ?_
        refine g_get F hK hP inA7 0 wM_o rfl 14 (by decide) wd_766 (v := .ref (b + 11)) rfl dX7_note_86 ?_
        refine lv_aload_n hx hb dX7_note_89 rfl (lv_at hl 0 rfl) ?_
        refine g_get F hK hP inA7 0 wM_o rfl 12 (by decide) wd_764 (v := .int (gi S_77 12)) rfl dX7_note_90 ?_
        refine lv_iload_n hx hb dX7_note_93 rfl (lv_at hl 3 rfl) ?_
        obtain ⟨hi, hf⟩ := ck_some hf
        obtain ⟨S_94, eS_94, hf⟩ := lt_some hf
        refine g_iast (S1 := S_94) hx hb hK hP wM_D hS 11 0 wM_a14 rfl hi (by rw [eS_94]; exact wM_sa_14) dX7_note_94 (fun H locs hP hS => ?_)
        refine lv_aload_n hx hb dX7_note_95 rfl (lv_at hl 0 rfl) ?_
        refine lv_dup hx hb dX7_note_96 rfl ?_
        refine g_get F hK hP inA7 0 wM_o rfl 12 (by decide) wd_764 (v := .int (gi S_94 12)) rfl dX7_note_97 ?_
        refine lv_iconst (v := 1) hx hb dX7_note_100 (by decide) ?_
        refine lv_iadd hx hb dX7_note_101 ?_
        obtain ⟨S_102, eS_102, hf⟩ := lt_some hf
        refine g_puti (S1 := S_102) F hK hP wM_D hS inA7 tyX7 tyX7_ok nmX7 0 wM_o rfl 12 (by decide) wd_764 rfl (by decide +kernel) (Nat.le_of_ble_eq_true rfl) (by rw [eS_102]; exact wM_si_12) dX7_note_102 (fun H locs hP hS => ?_)
        refine lv_aload_n hx hb dX7_note_105 rfl (lv_at hl 0 rfl) ?_
        refine g_get F hK hP inA7 0 wM_o rfl 13 (by decide) wd_765 (v := .ref (b + 10)) rfl dX7_note_106 ?_
        refine lv_aload_n hx hb dX7_note_109 rfl (lv_at hl 0 rfl) ?_
        refine g_get F hK hP inA7 0 wM_o rfl 12 (by decide) wd_764 (v := .int (gi S_102 12)) rfl dX7_note_110 ?_
        refine lv_iconst (v := 1) hx hb dX7_note_113 (by decide) ?_
        refine lv_isub hx hb dX7_note_114 ?_
        refine lv_aload_n hx hb dX7_note_115 rfl (lv_at hl 0 rfl) ?_
        refine lv_iload_n hx hb dX7_note_116 rfl (lv_at hl 1 rfl) ?_
        refine lv_iconst (v := 2) hx hb dX7_note_117 (by decide) ?_
        refine lv_iload_n hx hb dX7_note_118 rfl (lv_at hl 2 rfl) ?_
        refine lv_aload_n hx hb dX7_note_119 rfl (lv_at hl 0 rfl) ?_
        refine g_get F hK hP inA7 0 wM_o rfl 12 (by decide) wd_764 (v := .int (gi S_102 12)) rfl dX7_note_120 ?_
        refine lv_iconst (v := 1) hx hb dX7_note_123 (by decide) ?_
        refine lv_isub hx hb dX7_note_124 ?_
        obtain ⟨v125, S_125, q125, hf⟩ := cl2_some hf
        refine g_calli F hK hP hS [.int x1, .int (2 : Int32), .int x2, .int ((gi S_102 12) - (1 : Int32))] (c_X7_deed l D cI cO b S_102 x1 (2 : Int32) x2 ((gi S_102 12) - (1 : Int32)) v125 S_125 q125) wd_869 wd_871 wp_25 wd_9 wd_872 wM_o rfl hd_X7_deed rfl rfl ⟨Nat.le_of_ble_eq_true rfl, Nat.le_of_ble_eq_true rfl⟩ rfl hl (rest := [.int ((gi S_102 12) - (1 : Int32)), .ref (b + 10)]) rfl (Nat.le_of_ble_eq_true rfl) dX7_note_125 ⟨Nat.le_of_ble_eq_true rfl, Nat.le_of_ble_eq_true rfl⟩ (fun H locs hP hS => ?_)
        obtain ⟨hi, hf⟩ := ck_some hf
        obtain ⟨S_128, eS_128, hf⟩ := lt_some hf
        refine g_iast (S1 := S_128) hx hb hK hP wM_D hS 10 0 wM_a13 rfl hi (by rw [eS_128]; exact wM_sa_13) dX7_note_128 (fun H locs hP hS => ?_)
        refine lv_aload_n hx hb dX7_note_129 rfl (lv_at hl 0 rfl) ?_
        refine g_get F hK hP inA7 0 wM_o rfl 12 (by decide) wd_764 (v := .int (gi S_128 12)) rfl dX7_note_130 ?_
        refine lv_iconst (v := 1) hx hb dX7_note_133 (by decide) ?_
        refine lv_isub hx hb dX7_note_134 ?_
        exact g_iret F hr hlocks hQ hK hP hS (Prod.mk.inj (Option.some.inj hf)).1 (Prod.mk.inj (Option.some.inj hf)).2 dX7_note_135
      · replace hf := ite_f (fun h => h q) hf
        refine lv_iconst (v := 0) hx hb dX7_note_83 (by decide) ?_
        exact g_iret F hr hlocks hQ hK hP hS (Prod.mk.inj (Option.some.inj hf)).1 (Prod.mk.inj (Option.some.inj hf)).2 dX7_note_84
    clear eJ77
    refine lv_if_ne (tgt := 41) hx hb dX7_note_34 (by decide) (fun q => ?_) (fun q => ?_)
    · replace hf := ite_t q hf
      refine lv_iload hx hb dX7_note_41 (lv_at hl 0 rfl) ?_
      refine lv_if_ne (tgt := 50) hx hb dX7_note_43 (by decide) (fun q => ?_) (fun q => ?_)
      · replace hf := ite_t q hf
        refine lv_aload_n hx hb dX7_note_50 rfl (lv_at hl 2 rfl) ?_
        refine lv_iload_n hx hb dX7_note_51 rfl (lv_at hl 3 rfl) ?_
        refine lv_iload_n hx hb dX7_note_52 rfl (lv_at hl 4 rfl) ?_
        obtain ⟨v53, q53, hf⟩ := cl_some hf
        refine g_calli F hK hP hS [.int x1, .int x2] (c_X7_isThere l D cI cO b S x1 x2 v53 q53) wd_881 wd_883 wp_27 wd_9 wd_884 wM_o rfl hd_X7_isThere rfl rfl ⟨Nat.le_of_ble_eq_true rfl, Nat.le_of_ble_eq_true rfl⟩ rfl hl (rest := [.ref (b + 0)]) rfl (Nat.le_of_ble_eq_true rfl) dX7_note_53 ⟨Nat.le_of_ble_eq_true rfl, Nat.le_of_ble_eq_true rfl⟩ (fun H locs hP hS => ?_)
        refine lv_if_ne (tgt := 63) hx hb dX7_note_56 (by decide) (fun q => ?_) (fun q => ?_)
        · replace hf := ite_t q hf
          refine lv_aload_n hx hb dX7_note_63 rfl (lv_at hl 2 rfl) ?_
          refine g_get F hK hP inA7 0 wM_o rfl 1 (by decide) wd_753 (v := .int (gi S 1)) rfl dX7_note_64 ?_
          refine lv_bipush (v := 90) hx hb dX7_note_67 (by decide) ?_
          refine lv_icmp_ne (tgt := 76) hx hb dX7_note_69 (by decide) (fun q => ?_) (fun q => ?_)
          · replace hf := ite_t q hf
            refine lv_iconst (v := 0) hx hb dX7_note_76 (by decide) ?_
            exact kJ77 _ _ _ _ hf hP hS (lv_sub hl [2, 3, 4, 5] rfl)
          · replace hf := ite_f (fun h => h q) hf
            refine lv_iconst (v := 4) hx hb dX7_note_72 (by decide) ?_
            refine lv_goto (tgt := 77) hx hb dX7_note_73 (by decide) ?_
            exact kJ77 _ _ _ _ hf hP hS (lv_sub hl [2, 3, 4, 5] rfl)
        · replace hf := ite_f (fun h => h q) hf
          refine lv_iconst (v := 3) hx hb dX7_note_59 (by decide) ?_
          refine lv_goto (tgt := 77) hx hb dX7_note_60 (by decide) ?_
          exact kJ77 _ _ _ _ hf hP hS (lv_sub hl [2, 3, 4, 5] rfl)
      · replace hf := ite_f (fun h => h q) hf
        refine lv_iconst (v := 2) hx hb dX7_note_46 (by decide) ?_
        refine lv_goto (tgt := 77) hx hb dX7_note_47 (by decide) ?_
        exact kJ77 _ _ _ _ hf hP hS (lv_sub hl [2, 3, 4, 5] rfl)
    · replace hf := ite_f (fun h => h q) hf
      refine lv_iconst (v := 1) hx hb dX7_note_37 (by decide) ?_
      refine lv_goto (tgt := 77) hx hb dX7_note_38 (by decide) ?_
      exact kJ77 _ _ _ _ hf hP hS (lv_sub hl [2, 3, 4, 5] rfl)
  clear eJ21
  refine lv_if_eq (tgt := 20) hx hb dX7_note_4 (by decide) (fun q => ?_) (fun q => ?_)
  · replace hf := ite_t q hf
    exact kJ20 _ _ _ hf hP hS (lv_sub hl [0, 1, 2, 3] rfl)
  · replace hf := ite_f q hf
    refine lv_aload_n hx hb dX7_note_7 rfl (lv_at hl 0 rfl) ?_
    refine lv_iload_n hx hb dX7_note_8 rfl (lv_at hl 1 rfl) ?_
    refine lv_iload_n hx hb dX7_note_9 rfl (lv_at hl 2 rfl) ?_
    obtain ⟨v10, q10, hf⟩ := cl_some hf
    refine g_calli F hK hP hS [.int x1, .int x2] (c_X7_knowsLine l D cI cO b S x1 x2 v10 q10) wd_861 wd_863 wp_23 wd_9 wd_864 wM_o rfl hd_X7_knowsLine rfl rfl ⟨Nat.le_of_ble_eq_true rfl, Nat.le_of_ble_eq_true rfl⟩ rfl hl (rest := []) rfl (Nat.le_of_ble_eq_true rfl) dX7_note_10 ⟨Nat.le_of_ble_eq_true rfl, Nat.le_of_ble_eq_true rfl⟩ (fun H locs hP hS => ?_)
    refine lv_if_eq (tgt := 20) hx hb dX7_note_13 (by decide) (fun q => ?_) (fun q => ?_)
    · replace hf := ite_t q hf
      exact kJ20 _ _ _ hf hP hS (lv_sub hl [0, 1, 2, 3] rfl)
    · replace hf := ite_f q hf
      refine lv_iconst (v := 1) hx hb dX7_note_16 (by decide) ?_
      refine lv_goto (tgt := 21) hx hb dX7_note_17 (by decide) ?_
      exact kJ21 _ _ _ _ hf hP hS (lv_sub hl [0, 1, 2, 3] rfl)
abbrev rm_X7_move : Room := { frames := 2, cells := 0, slots := 0, locals := 46 }
theorem hd_X7_move : yX7_move.cls = RX7 ∧ yX7_move.cls ≠ "java/lang/invoke/MethodHandle" ∧ yX7_move.cls ≠ "java/lang/invoke/VarHandle" ∧ (parseMethodDescriptor yX7_move.desc).map (fun d => d.parameters.length) = some 3 := by decide +kernel
set_option maxRecDepth 100000 in
set_option maxHeartbeats 4000000 in
theorem c_X7_move (l : Launch) (D : va_G) (cI cO : ClassId) (b : Nat) (S : St) (x1 : Int32) (x2 : Int32) (x3 : Int32) (S1 : St) (hf : f_X7_move S x1 x2 x3 = some S1) : Met l yX7_move (Cond.code yX7_move cX7_move 6 none :: wsAll) rm_X7_move (PX D (wM cI cO b) (tyM cI cO) S [.ref (b + 0), .int x1, .int x2, .int x3]) (Qv D (wM cI cO b) (tyM cI cO) (AM b) S1) 0 0 (AM b) := by
  unfold f_X7_move at hf
  refine g_met RX7 (by decide +kernel) (Nat.le_of_ble_eq_true rfl) rfl ?_
  intro p e s m args below meth c ls Q F hr hlocks hK hP hl hQ
  have hx := F.1
  have hb := F.2.1
  have hS : va_S (AM b) s.heap s.heap [] := va_S.rf
  have hl : lv_has ls 6 [(0, .ref (b + 0)), (1, .int x1), (2, .int x2), (3, .int x3)] := hl
  refine lv_iload_n hx hb dX7_move_0 rfl (lv_at hl 1 rfl) ?_
  obtain ⟨v1, q1, hf⟩ := cl_some hf
  refine g_callSi F hK hP hS [.int x1] (c_X7_isSite l D cI cO b S x1 v1 q1) wd_855 wd_856 wd_9 wd_857 hd_X7_isSite rfl rfl ⟨Nat.le_of_ble_eq_true rfl, Nat.le_of_ble_eq_true rfl⟩ rfl hl (rest := []) rfl (Nat.le_of_ble_eq_true rfl) dX7_move_1 ⟨Nat.zero_le _, Nat.zero_le _⟩ (fun H locs hP hS => ?_)
  obtain ⟨J29, eJ29, hf⟩ := jn_some hf
  have kJ29 : ∀ (H : Heap) (locs : List Loc) (ls : Array Slot), J29 = some S1 → va_P D vwCl ((wM cI cO b) S) H → va_S (AM b) s.heap H locs → lv_has ls 6 [(0, .ref (b + 0)), (1, .int x1), (2, .int x2), (3, .int x3)] → W p l e rm_X7_move s m args below meth c H locs 0 0 Q (F0 m 29 ls []) := by
    intro  H locs ls hf hP hS hl
    rw [eJ29] at hf
    refine lv_iconst (v := 0) hx hb dX7_move_29 (by decide) ?_
    refine lv_istore (lv' := [(4, .int (0 : Int32)), (0, .ref (b + 0)), (1, .int x1), (2, .int x2), (3, .int x3)]) hx hb dX7_move_30 hl (by decide) rfl (fun ls hl => ?_)
    refine lv_aload_n hx hb dX7_move_32 rfl (lv_at hl 1 rfl) ?_
    refine lv_iload hx hb dX7_move_33 (lv_at hl 0 rfl) ?_
    obtain ⟨J69, eJ69, hf⟩ := jn_some hf
    have kJ69 : ∀ (t0_69 : Int32) (H : Heap) (locs : List Loc) (ls : Array Slot), J69 t0_69 = some S1 → va_P D vwCl ((wM cI cO b) S) H → va_S (AM b) s.heap H locs → lv_has ls 6 [(0, .ref (b + 0)), (1, .int x1), (2, .int x2), (3, .int x3)] → W p l e rm_X7_move s m args below meth c H locs 0 0 Q (F0 m 69 ls [.int t0_69, .ref (b + 0)]) := by
      intro t0_69 H locs ls hf hP hS hl
      rw [eJ69] at hf
      obtain ⟨v69, S_69, q69, hf⟩ := cl2_some hf
      refine g_calli F hK hP hS [.int t0_69] (c_X7_goesWell l D cI cO b S t0_69 v69 S_69 q69) wd_865 wd_867 wp_24 wd_9 wd_868 wM_o rfl hd_X7_goesWell rfl rfl ⟨Nat.le_of_ble_eq_true rfl, Nat.le_of_ble_eq_true rfl⟩ rfl hl (rest := []) rfl (Nat.le_of_ble_eq_true rfl) dX7_move_69 ⟨Nat.le_of_ble_eq_true rfl, Nat.le_of_ble_eq_true rfl⟩ (fun H locs hP hS => ?_)
      refine lv_if_eq (tgt := 85) hx hb dX7_move_72 (by decide) (fun q => ?_) (fun q => ?_)
      · replace hf := ite_t q hf
        exact g_vret F hr hlocks hQ hK hP hS (Option.some.inj hf) dX7_move_85
      · replace hf := ite_f q hf
        refine lv_aload_n hx hb dX7_move_75 rfl (lv_at hl 0 rfl) ?_
        refine lv_iload_n hx hb dX7_move_76 rfl (lv_at hl 1 rfl) ?_
        refine lv_iconst (v := 3) hx hb dX7_move_77 (by decide) ?_
        refine lv_iload_n hx hb dX7_move_78 rfl (lv_at hl 3 rfl) ?_
        refine lv_iload_n hx hb dX7_move_79 rfl (lv_at hl 2 rfl) ?_
        obtain ⟨v80, S_80, q80, hf⟩ := cl2_some hf
        refine g_calli F hK hP hS [.int x1, .int (3 : Int32), .int x3, .int x2] (c_X7_deed l D cI cO b S_69 x1 (3 : Int32) x3 x2 v80 S_80 q80) wd_869 wd_871 wp_25 wd_9 wd_872 wM_o rfl hd_X7_deed rfl rfl ⟨Nat.le_of_ble_eq_true rfl, Nat.le_of_ble_eq_true rfl⟩ rfl hl (rest := []) rfl (Nat.le_of_ble_eq_true rfl) dX7_move_80 ⟨Nat.le_of_ble_eq_true rfl, Nat.le_of_ble_eq_true rfl⟩ (fun H locs hP hS => ?_)
        refine lv_istore (lv' := [(5, .int v80), (0, .ref (b + 0)), (1, .int x1), (2, .int x2), (3, .int x3)]) hx hb dX7_move_83 hl (by decide) rfl (fun ls hl => ?_)
        exact g_vret F hr hlocks hQ hK hP hS (Option.some.inj hf) dX7_move_85
    clear eJ69
    refine lv_if_ne (tgt := 42) hx hb dX7_move_35 (by decide) (fun q => ?_) (fun q => ?_)
    · replace hf := ite_t q hf
      refine lv_aload_n hx hb dX7_move_42 rfl (lv_at hl 1 rfl) ?_
      refine lv_iload_n hx hb dX7_move_43 rfl (lv_at hl 2 rfl) ?_
      refine lv_iload_n hx hb dX7_move_44 rfl (lv_at hl 4 rfl) ?_
      obtain ⟨v45, q45, hf⟩ := cl_some hf
      refine g_calli F hK hP hS [.int x1, .int x3] (c_X7_isThere l D cI cO b S x1 x3 v45 q45) wd_881 wd_883 wp_27 wd_9 wd_884 wM_o rfl hd_X7_isThere rfl rfl ⟨Nat.le_of_ble_eq_true rfl, Nat.le_of_ble_eq_true rfl⟩ rfl hl (rest := [.ref (b + 0)]) rfl (Nat.le_of_ble_eq_true rfl) dX7_move_45 ⟨Nat.le_of_ble_eq_true rfl, Nat.le_of_ble_eq_true rfl⟩ (fun H locs hP hS => ?_)
      refine lv_if_ne (tgt := 55) hx hb dX7_move_48 (by decide) (fun q => ?_) (fun q => ?_)
      · replace hf := ite_t q hf
        refine lv_aload_n hx hb dX7_move_55 rfl (lv_at hl 1 rfl) ?_
        refine g_get F hK hP inA7 0 wM_o rfl 1 (by decide) wd_753 (v := .int (gi S 1)) rfl dX7_move_56 ?_
        refine lv_bipush (v := 90) hx hb dX7_move_59 (by decide) ?_
        refine lv_icmp_ne (tgt := 68) hx hb dX7_move_61 (by decide) (fun q => ?_) (fun q => ?_)
        · replace hf := ite_t q hf
          refine lv_iconst (v := 0) hx hb dX7_move_68 (by decide) ?_
          exact kJ69 _ _ _ _ hf hP hS (lv_sub hl [1, 2, 3, 4] rfl)
        · replace hf := ite_f (fun h => h q) hf
          refine lv_iconst (v := 3) hx hb dX7_move_64 (by decide) ?_
          refine lv_goto (tgt := 69) hx hb dX7_move_65 (by decide) ?_
          exact kJ69 _ _ _ _ hf hP hS (lv_sub hl [1, 2, 3, 4] rfl)
      · replace hf := ite_f (fun h => h q) hf
        refine lv_iconst (v := 2) hx hb dX7_move_51 (by decide) ?_
        refine lv_goto (tgt := 69) hx hb dX7_move_52 (by decide) ?_
        exact kJ69 _ _ _ _ hf hP hS (lv_sub hl [1, 2, 3, 4] rfl)
    · replace hf := ite_f (fun h => h q) hf
      refine lv_iconst (v := 1) hx hb dX7_move_38 (by decide) ?_
      refine lv_goto (tgt := 69) hx hb dX7_move_39 (by decide) ?_
      exact kJ69 _ _ _ _ hf hP hS (lv_sub hl [1, 2, 3, 4] rfl)
  clear eJ29
  obtain ⟨J30, eJ30, hf⟩ := jn_some hf
  have kJ30 : ∀ (t0_30 : Int32) (H : Heap) (locs : List Loc) (ls : Array Slot), J30 t0_30 = some S1 → va_P D vwCl ((wM cI cO b) S) H → va_S (AM b) s.heap H locs → lv_has ls 6 [(0, .ref (b + 0)), (1, .int x1), (2, .int x2), (3, .int x3)] → W p l e rm_X7_move s m args below meth c H locs 0 0 Q (F0 m 30 ls [.int t0_30]) := by
    intro t0_30 H locs ls hf hP hS hl
    rw [eJ30] at hf
    refine lv_istore (lv' := [(4, .int t0_30), (0, .ref (b + 0)), (1, .int x1), (2, .int x2), (3, .int x3)]) hx hb dX7_move_30 hl (by decide) rfl (fun ls hl => ?_)
    refine lv_aload_n hx hb dX7_move_32 rfl (lv_at hl 1 rfl) ?_
    refine lv_iload hx hb dX7_move_33 (lv_at hl 0 rfl) ?_
    obtain ⟨J69, eJ69, hf⟩ := jn_some hf
    have kJ69 : ∀ (t0_69 : Int32) (H : Heap) (locs : List Loc) (ls : Array Slot), J69 t0_69 = some S1 → va_P D vwCl ((wM cI cO b) S) H → va_S (AM b) s.heap H locs → lv_has ls 6 [(0, .ref (b + 0)), (1, .int x1), (2, .int x2), (3, .int x3)] → W p l e rm_X7_move s m args below meth c H locs 0 0 Q (F0 m 69 ls [.int t0_69, .ref (b + 0)]) := by
      intro t0_69 H locs ls hf hP hS hl
      rw [eJ69] at hf
      obtain ⟨v69, S_69, q69, hf⟩ := cl2_some hf
      refine g_calli F hK hP hS [.int t0_69] (c_X7_goesWell l D cI cO b S t0_69 v69 S_69 q69) wd_865 wd_867 wp_24 wd_9 wd_868 wM_o rfl hd_X7_goesWell rfl rfl ⟨Nat.le_of_ble_eq_true rfl, Nat.le_of_ble_eq_true rfl⟩ rfl hl (rest := []) rfl (Nat.le_of_ble_eq_true rfl) dX7_move_69 ⟨Nat.le_of_ble_eq_true rfl, Nat.le_of_ble_eq_true rfl⟩ (fun H locs hP hS => ?_)
      refine lv_if_eq (tgt := 85) hx hb dX7_move_72 (by decide) (fun q => ?_) (fun q => ?_)
      · replace hf := ite_t q hf
        exact g_vret F hr hlocks hQ hK hP hS (Option.some.inj hf) dX7_move_85
      · replace hf := ite_f q hf
        refine lv_aload_n hx hb dX7_move_75 rfl (lv_at hl 0 rfl) ?_
        refine lv_iload_n hx hb dX7_move_76 rfl (lv_at hl 1 rfl) ?_
        refine lv_iconst (v := 3) hx hb dX7_move_77 (by decide) ?_
        refine lv_iload_n hx hb dX7_move_78 rfl (lv_at hl 3 rfl) ?_
        refine lv_iload_n hx hb dX7_move_79 rfl (lv_at hl 2 rfl) ?_
        obtain ⟨v80, S_80, q80, hf⟩ := cl2_some hf
        refine g_calli F hK hP hS [.int x1, .int (3 : Int32), .int x3, .int x2] (c_X7_deed l D cI cO b S_69 x1 (3 : Int32) x3 x2 v80 S_80 q80) wd_869 wd_871 wp_25 wd_9 wd_872 wM_o rfl hd_X7_deed rfl rfl ⟨Nat.le_of_ble_eq_true rfl, Nat.le_of_ble_eq_true rfl⟩ rfl hl (rest := []) rfl (Nat.le_of_ble_eq_true rfl) dX7_move_80 ⟨Nat.le_of_ble_eq_true rfl, Nat.le_of_ble_eq_true rfl⟩ (fun H locs hP hS => ?_)
        refine lv_istore (lv' := [(5, .int v80), (0, .ref (b + 0)), (1, .int x1), (2, .int x2), (3, .int x3)]) hx hb dX7_move_83 hl (by decide) rfl (fun ls hl => ?_)
        exact g_vret F hr hlocks hQ hK hP hS (Option.some.inj hf) dX7_move_85
    clear eJ69
    refine lv_if_ne (tgt := 42) hx hb dX7_move_35 (by decide) (fun q => ?_) (fun q => ?_)
    · replace hf := ite_t q hf
      refine lv_aload_n hx hb dX7_move_42 rfl (lv_at hl 1 rfl) ?_
      refine lv_iload_n hx hb dX7_move_43 rfl (lv_at hl 2 rfl) ?_
      refine lv_iload_n hx hb dX7_move_44 rfl (lv_at hl 4 rfl) ?_
      obtain ⟨v45, q45, hf⟩ := cl_some hf
      refine g_calli F hK hP hS [.int x1, .int x3] (c_X7_isThere l D cI cO b S x1 x3 v45 q45) wd_881 wd_883 wp_27 wd_9 wd_884 wM_o rfl hd_X7_isThere rfl rfl ⟨Nat.le_of_ble_eq_true rfl, Nat.le_of_ble_eq_true rfl⟩ rfl hl (rest := [.ref (b + 0)]) rfl (Nat.le_of_ble_eq_true rfl) dX7_move_45 ⟨Nat.le_of_ble_eq_true rfl, Nat.le_of_ble_eq_true rfl⟩ (fun H locs hP hS => ?_)
      refine lv_if_ne (tgt := 55) hx hb dX7_move_48 (by decide) (fun q => ?_) (fun q => ?_)
      · replace hf := ite_t q hf
        refine lv_aload_n hx hb dX7_move_55 rfl (lv_at hl 1 rfl) ?_
        refine g_get F hK hP inA7 0 wM_o rfl 1 (by decide) wd_753 (v := .int (gi S 1)) rfl dX7_move_56 ?_
        refine lv_bipush (v := 90) hx hb dX7_move_59 (by decide) ?_
        refine lv_icmp_ne (tgt := 68) hx hb dX7_move_61 (by decide) (fun q => ?_) (fun q => ?_)
        · replace hf := ite_t q hf
          refine lv_iconst (v := 0) hx hb dX7_move_68 (by decide) ?_
          exact kJ69 _ _ _ _ hf hP hS (lv_sub hl [1, 2, 3, 4] rfl)
        · replace hf := ite_f (fun h => h q) hf
          refine lv_iconst (v := 3) hx hb dX7_move_64 (by decide) ?_
          refine lv_goto (tgt := 69) hx hb dX7_move_65 (by decide) ?_
          exact kJ69 _ _ _ _ hf hP hS (lv_sub hl [1, 2, 3, 4] rfl)
      · replace hf := ite_f (fun h => h q) hf
        refine lv_iconst (v := 2) hx hb dX7_move_51 (by decide) ?_
        refine lv_goto (tgt := 69) hx hb dX7_move_52 (by decide) ?_
        exact kJ69 _ _ _ _ hf hP hS (lv_sub hl [1, 2, 3, 4] rfl)
    · replace hf := ite_f (fun h => h q) hf
      refine lv_iconst (v := 1) hx hb dX7_move_38 (by decide) ?_
      refine lv_goto (tgt := 69) hx hb dX7_move_39 (by decide) ?_
      exact kJ69 _ _ _ _ hf hP hS (lv_sub hl [1, 2, 3, 4] rfl)
  clear eJ30
  refine lv_if_eq (tgt := 29) hx hb dX7_move_4 (by decide) (fun q => ?_) (fun q => ?_)
  · replace hf := ite_t q hf
    exact kJ29 _ _ _ hf hP hS (lv_sub hl [0, 1, 2, 3] rfl)
  · replace hf := ite_f q hf
    refine lv_aload_n hx hb dX7_move_7 rfl (lv_at hl 0 rfl) ?_
    refine lv_iload_n hx hb dX7_move_8 rfl (lv_at hl 1 rfl) ?_
    refine lv_iload_n hx hb dX7_move_9 rfl (lv_at hl 2 rfl) ?_
    obtain ⟨v10, q10, hf⟩ := cl_some hf
    refine g_calli F hK hP hS [.int x1, .int x2] (c_X7_knowsNote l D cI cO b S x1 x2 v10 q10) wd_905 wd_907 wp_33 wd_9 wd_908 wM_o rfl hd_X7_knowsNote rfl rfl ⟨Nat.le_of_ble_eq_true rfl, Nat.le_of_ble_eq_true rfl⟩ rfl hl (rest := []) rfl (Nat.le_of_ble_eq_true rfl) dX7_move_10 ⟨Nat.le_of_ble_eq_true rfl, Nat.le_of_ble_eq_true rfl⟩ (fun H locs hP hS => ?_)
    refine lv_if_eq (tgt := 29) hx hb dX7_move_13 (by decide) (fun q => ?_) (fun q => ?_)
    · replace hf := ite_t q hf
      exact kJ29 _ _ _ hf hP hS (lv_sub hl [0, 1, 2, 3] rfl)
    · replace hf := ite_f q hf
      refine lv_aload_n hx hb dX7_move_16 rfl (lv_at hl 0 rfl) ?_
      refine lv_iload_n hx hb dX7_move_17 rfl (lv_at hl 1 rfl) ?_
      refine lv_iload_n hx hb dX7_move_18 rfl (lv_at hl 3 rfl) ?_
      obtain ⟨v19, q19, hf⟩ := cl_some hf
      refine g_calli F hK hP hS [.int x1, .int x3] (c_X7_knowsLine l D cI cO b S x1 x3 v19 q19) wd_861 wd_863 wp_23 wd_9 wd_864 wM_o rfl hd_X7_knowsLine rfl rfl ⟨Nat.le_of_ble_eq_true rfl, Nat.le_of_ble_eq_true rfl⟩ rfl hl (rest := []) rfl (Nat.le_of_ble_eq_true rfl) dX7_move_19 ⟨Nat.le_of_ble_eq_true rfl, Nat.le_of_ble_eq_true rfl⟩ (fun H locs hP hS => ?_)
      refine lv_if_eq (tgt := 29) hx hb dX7_move_22 (by decide) (fun q => ?_) (fun q => ?_)
      · replace hf := ite_t q hf
        exact kJ29 _ _ _ hf hP hS (lv_sub hl [0, 1, 2, 3] rfl)
      · replace hf := ite_f q hf
        refine lv_iconst (v := 1) hx hb dX7_move_25 (by decide) ?_
        refine lv_goto (tgt := 30) hx hb dX7_move_26 (by decide) ?_
        exact kJ30 _ _ _ _ hf hP hS (lv_sub hl [0, 1, 2, 3] rfl)
abbrev rm_X7_sync : Room := { frames := 2, cells := 0, slots := 0, locals := 42 }
theorem hd_X7_sync : yX7_sync.cls = RX7 ∧ yX7_sync.cls ≠ "java/lang/invoke/MethodHandle" ∧ yX7_sync.cls ≠ "java/lang/invoke/VarHandle" ∧ (parseMethodDescriptor yX7_sync.desc).map (fun d => d.parameters.length) = some 2 := by decide +kernel
set_option maxRecDepth 100000 in
set_option maxHeartbeats 4000000 in
theorem c_X7_sync (l : Launch) (D : va_G) (cI cO : ClassId) (b : Nat) (S : St) (x1 : Int32) (x2 : Int32) (r : Int32) (S1 : St) (hf : f_X7_sync S x1 x2 = some (r, S1)) : Met l yX7_sync (Cond.code yX7_sync cX7_sync 6 (some .int) :: wsAll) rm_X7_sync (PX D (wM cI cO b) (tyM cI cO) S [.ref (b + 0), .int x1, .int x2]) (Qi D (wM cI cO b) (tyM cI cO) (AM b) r S1) 0 0 (AM b) := by
  unfold f_X7_sync at hf
  refine g_met RX7 (by decide +kernel) (Nat.le_of_ble_eq_true rfl) rfl ?_
  intro p e s m args below meth c ls Q F hr hlocks hK hP hl hQ
  have hx := F.1
  have hb := F.2.1
  have hS : va_S (AM b) s.heap s.heap [] := va_S.rf
  have hl : lv_has ls 6 [(0, .ref (b + 0)), (1, .int x1), (2, .int x2)] := hl
  refine lv_aload_n hx hb dX7_sync_0 rfl (lv_at hl 0 rfl) ?_
  refine lv_iload_n hx hb dX7_sync_1 rfl (lv_at hl 1 rfl) ?_
  obtain ⟨v2, q2, hf⟩ := cl_some hf
  refine g_callSi F hK hP hS [.int x1] (c_X7_isSite l D cI cO b S x1 v2 q2) wd_855 wd_856 wd_9 wd_857 hd_X7_isSite rfl rfl ⟨Nat.le_of_ble_eq_true rfl, Nat.le_of_ble_eq_true rfl⟩ rfl hl (rest := [.ref (b + 0)]) rfl (Nat.le_of_ble_eq_true rfl) dX7_sync_2 ⟨Nat.zero_le _, Nat.zero_le _⟩ (fun H locs hP hS => ?_)
  obtain ⟨J19, eJ19, hf⟩ := jn_some hf
  have kJ19 : ∀ (H : Heap) (locs : List Loc) (ls : Array Slot), J19 = some (r, S1) → va_P D vwCl ((wM cI cO b) S) H → va_S (AM b) s.heap H locs → lv_has ls 6 [(0, .ref (b + 0)), (1, .int x1), (2, .int x2)] → W p l e rm_X7_sync s m args below meth c H locs 0 0 Q (F0 m 19 ls [.ref (b + 0)]) := by
    intro  H locs ls hf hP hS hl
    rw [eJ19] at hf
    refine lv_iconst (v := 1) hx hb dX7_sync_19 (by decide) ?_
    obtain ⟨v20, S_20, q20, hf⟩ := cl2_some hf
    refine g_calli F hK hP hS [.int (1 : Int32)] (c_X7_goesWell l D cI cO b S (1 : Int32) v20 S_20 q20) wd_865 wd_867 wp_24 wd_9 wd_868 wM_o rfl hd_X7_goesWell rfl rfl ⟨Nat.le_of_ble_eq_true rfl, Nat.le_of_ble_eq_true rfl⟩ rfl hl (rest := []) rfl (Nat.le_of_ble_eq_true rfl) dX7_sync_20 ⟨Nat.le_of_ble_eq_true rfl, Nat.le_of_ble_eq_true rfl⟩ (fun H locs hP hS => ?_)
    refine lv_if_ne (tgt := 28) hx hb dX7_sync_23 (by decide) (fun q => ?_) (fun q => ?_)
    · replace hf := ite_t q hf
      refine lv_aload_n hx hb dX7_sync_28 rfl (lv_at hl 0 rfl) ?_
      refine g_get F hK hP inA7 0 wM_o rfl 16 (by decide) wd_768 (v := .ref (b + 13)) rfl dX7_sync_29 ?_
      refine lv_iload_n hx hb dX7_sync_32 rfl (lv_at hl 2 rfl) ?_
      obtain ⟨hi, hf⟩ := ck_some hf
      refine va_iald hx hb hK hP 13 0 wM_a16 rfl hi dX7_sync_33 ?_
      obtain ⟨x3_34, ex3_34, hf⟩ := lt_some hf
      rw [← ex3_34]
      refine lv_istore_n (lv' := [(3, .int x3_34), (0, .ref (b + 0)), (1, .int x1), (2, .int x2)]) hx hb dX7_sync_34 rfl hl (by decide) rfl (fun ls hl => ?_)
      refine lv_iconst (v := 0) hx hb dX7_sync_35 (by decide) ?_
      refine lv_istore (lv' := [(4, .int (0 : Int32)), (3, .int x3_34), (0, .ref (b + 0)), (1, .int x1), (2, .int x2)]) hx hb dX7_sync_36 hl (by decide) rfl (fun ls hl => ?_)
      refine Lp2_ind (P := fun (x4_38 : Int32) (S_38 : St) => ∀ (H : Heap) (locs : List Loc) (ls : Array Slot), va_P D vwCl ((wM cI cO b) S_38) H → va_S (AM b) s.heap H locs → lv_has ls 6 [(0, .ref (b + 0)), (1, .int x1), (2, .int x2), (3, .int x3_34), (4, .int x4_38)] → W p l e rm_X7_sync s m args below meth c H locs 0 0 Q (F0 m 38 ls [])) ?_ _ _ _ hf _ _ _ hP hS (lv_sub hl [2, 3, 4, 1, 0] rfl)
      clear hf hP hS hl
      intro nx38 x4_38 S_38 ih38 hf H locs ls hP hS hl
      refine lv_iload hx hb dX7_sync_38 (lv_at hl 4 rfl) ?_
      refine lv_aload_n hx hb dX7_sync_40 rfl (lv_at hl 0 rfl) ?_
      refine g_get F hK hP inA7 0 wM_o rfl 16 (by decide) wd_768 (v := .ref (b + 13)) rfl dX7_sync_41 ?_
      refine lv_iload_n hx hb dX7_sync_44 rfl (lv_at hl 1 rfl) ?_
      obtain ⟨hi, hf⟩ := ck_some hf
      refine va_iald hx hb hK hP 13 0 wM_a16 rfl hi dX7_sync_45 ?_
      obtain ⟨J96, eJ96, hf⟩ := jn_some hf
      have kJ96 : ∀ (H : Heap) (locs : List Loc) (ls : Array Slot), J96 = some (r, S1) → va_P D vwCl ((wM cI cO b) S_38) H → va_S (AM b) s.heap H locs → lv_has ls 6 [(0, .ref (b + 0)), (1, .int x1), (2, .int x2), (3, .int x3_34)] → W p l e rm_X7_sync s m args below meth c H locs 0 0 Q (F0 m 96 ls []) := by
        intro  H locs ls hf hP hS hl
        rw [eJ96] at hf
        refine lv_aload_n hx hb dX7_sync_96 rfl (lv_at hl 0 rfl) ?_
        refine g_get F hK hP inA7 0 wM_o rfl 15 (by decide) wd_767 (v := .ref (b + 12)) rfl dX7_sync_97 ?_
        refine lv_iload_n hx hb dX7_sync_100 rfl (lv_at hl 2 rfl) ?_
        refine lv_aload_n hx hb dX7_sync_101 rfl (lv_at hl 0 rfl) ?_
        refine g_get F hK hP inA7 0 wM_o rfl 15 (by decide) wd_767 (v := .ref (b + 12)) rfl dX7_sync_102 ?_
        refine lv_iload_n hx hb dX7_sync_105 rfl (lv_at hl 1 rfl) ?_
        obtain ⟨hi, hf⟩ := ck_some hf
        refine va_iald hx hb hK hP 12 0 wM_a15 rfl hi dX7_sync_106 ?_
        refine lv_aload_n hx hb dX7_sync_107 rfl (lv_at hl 0 rfl) ?_
        refine g_get F hK hP inA7 0 wM_o rfl 15 (by decide) wd_767 (v := .ref (b + 12)) rfl dX7_sync_108 ?_
        refine lv_iload_n hx hb dX7_sync_111 rfl (lv_at hl 2 rfl) ?_
        obtain ⟨hi, hf⟩ := ck_some hf
        refine va_iald hx hb hK hP 12 0 wM_a15 rfl hi dX7_sync_112 ?_
        obtain ⟨J131, eJ131, hf⟩ := jn_some hf
        have kJ131 : ∀ (t0_131 : Int32) (H : Heap) (locs : List Loc) (ls : Array Slot), J131 t0_131 = some (r, S1) → va_P D vwCl ((wM cI cO b) S_38) H → va_S (AM b) s.heap H locs → lv_has ls 6 [(0, .ref (b + 0)), (2, .int x2), (3, .int x3_34)] → W p l e rm_X7_sync s m args below meth c H locs 0 0 Q (F0 m 131 ls [.int t0_131, .int x2, .ref (b + 12)]) := by
          intro t0_131 H locs ls hf hP hS hl
          rw [eJ131] at hf
          obtain ⟨hi, hf⟩ := ck_some hf
          obtain ⟨S_131, eS_131, hf⟩ := lt_some hf
          refine g_iast (S1 := S_131) hx hb hK hP wM_D hS 12 0 wM_a15 rfl hi (by rw [eS_131]; exact wM_sa_15) dX7_sync_131 (fun H locs hP hS => ?_)
          refine lv_aload_n hx hb dX7_sync_132 rfl (lv_at hl 0 rfl) ?_
          refine g_get F hK hP inA7 0 wM_o rfl 16 (by decide) wd_768 (v := .ref (b + 13)) rfl dX7_sync_133 ?_
          refine lv_iload_n hx hb dX7_sync_136 rfl (lv_at hl 1 rfl) ?_
          obtain ⟨hi, hf⟩ := ck_some hf
          refine va_iald hx hb hK hP 13 0 wM_a16 rfl hi dX7_sync_137 ?_
          refine lv_iload_n hx hb dX7_sync_138 rfl (lv_at hl 2 rfl) ?_
          refine lv_isub hx hb dX7_sync_139 ?_
          exact g_iret F hr hlocks hQ hK hP hS (Prod.mk.inj (Option.some.inj hf)).1 (Prod.mk.inj (Option.some.inj hf)).2 dX7_sync_140
        clear eJ131
        refine lv_icmp_le (tgt := 125) hx hb dX7_sync_113 (by decide) (fun q => ?_) (fun q => ?_)
        · replace hf := ite_t q hf
          refine lv_aload_n hx hb dX7_sync_125 rfl (lv_at hl 0 rfl) ?_
          refine g_get F hK hP inA7 0 wM_o rfl 15 (by decide) wd_767 (v := .ref (b + 12)) rfl dX7_sync_126 ?_
          refine lv_iload_n hx hb dX7_sync_129 rfl (lv_at hl 2 rfl) ?_
          obtain ⟨hi, hf⟩ := ck_some hf
          refine va_iald hx hb hK hP 12 0 wM_a15 rfl hi dX7_sync_130 ?_
          exact kJ131 _ _ _ _ hf hP hS (lv_sub hl [0, 2, 3] rfl)
        · replace hf := ite_f q hf
          refine lv_aload_n hx hb dX7_sync_116 rfl (lv_at hl 0 rfl) ?_
          refine g_get F hK hP inA7 0 wM_o rfl 15 (by decide) wd_767 (v := .ref (b + 12)) rfl dX7_sync_117 ?_
          refine lv_iload_n hx hb dX7_sync_120 rfl (lv_at hl 1 rfl) ?_
          obtain ⟨hi, hf⟩ := ck_some hf
          refine va_iald hx hb hK hP 12 0 wM_a15 rfl hi dX7_sync_121 ?_
          refine lv_goto (tgt := 131) hx hb dX7_sync_122 (by decide) ?_
          exact kJ131 _ _ _ _ hf hP hS (lv_sub hl [0, 2, 3] rfl)
      clear eJ96
      refine lv_icmp_ge (tgt := 96) hx hb dX7_sync_46 (by decide) (fun q => ?_) (fun q => ?_)
      · replace hf := ite_t q hf
        exact kJ96 _ _ _ hf hP hS (lv_sub hl [0, 1, 2, 3] rfl)
      · replace hf := ite_f q hf
        refine lv_iload_n hx hb dX7_sync_49 rfl (lv_at hl 1 rfl) ?_
        refine lv_iload_n hx hb dX7_sync_50 rfl (lv_at hl 2 rfl) ?_
        refine lv_icmp_eq (tgt := 96) hx hb dX7_sync_51 (by decide) (fun q => ?_) (fun q => ?_)
        · replace hf := ite_t q hf
          exact kJ96 _ _ _ hf hP hS (lv_sub hl [0, 1, 2, 3] rfl)
        · replace hf := ite_f q hf
          refine lv_aload_n hx hb dX7_sync_54 rfl (lv_at hl 0 rfl) ?_
          refine g_get F hK hP inA7 0 wM_o rfl 17 (by decide) wd_769 (v := .ref (b + 14)) rfl dX7_sync_55 ?_
          refine lv_bipush (v := 90) hx hb dX7_sync_58 (by decide) ?_
          refine lv_iload_n hx hb dX7_sync_60 rfl (lv_at hl 1 rfl) ?_
          refine lv_imul hx hb dX7_sync_61 ?_
          refine lv_iload hx hb dX7_sync_62 (lv_at hl 4 rfl) ?_
          refine lv_iadd hx hb dX7_sync_64 ?_
          obtain ⟨hi, hf⟩ := ck_some hf
          refine va_iald hx hb hK hP 14 0 wM_a17 rfl hi dX7_sync_65 ?_
          obtain ⟨x5_66, ex5_66, hf⟩ := lt_some hf
          rw [← ex5_66]
          refine lv_istore (lv' := [(5, .int x5_66), (0, .ref (b + 0)), (1, .int x1), (2, .int x2), (3, .int x3_34), (4, .int x4_38)]) hx hb dX7_sync_66 hl (by decide) rfl (fun ls hl => ?_)
          refine lv_aload_n hx hb dX7_sync_68 rfl (lv_at hl 1 rfl) ?_
          refine g_get F hK hP inA7 0 wM_o rfl 18 (by decide) wd_770 (v := .ref (b + 15)) rfl dX7_sync_69 ?_
          refine lv_bipush (v := 90) hx hb dX7_sync_72 (by decide) ?_
          refine lv_iload_n hx hb dX7_sync_74 rfl (lv_at hl 3 rfl) ?_
          refine lv_imul hx hb dX7_sync_75 ?_
          refine lv_iload hx hb dX7_sync_76 (lv_at hl 0 rfl) ?_
          refine lv_iadd hx hb dX7_sync_78 ?_
          obtain ⟨hi, hf⟩ := ck_some hf
          refine va_zald hx hb hK hP 15 1 wM_a18 rfl hi dX7_sync_79 ?_
          obtain ⟨J90, eJ90, hf⟩ := jn_some hf
          have kJ90 : ∀ (S_90 : St) (H : Heap) (locs : List Loc) (ls : Array Slot), J90 S_90 = some (r, S1) → va_P D vwCl ((wM cI cO b) S_90) H → va_S (AM b) s.heap H locs → lv_has ls 6 [(0, .ref (b + 0)), (1, .int x1), (2, .int x2), (3, .int x3_34), (4, .int x4_38)] → W p l e rm_X7_sync s m args below meth c H locs 0 0 Q (F0 m 90 ls []) := by
            intro S_90 H locs ls hf hP hS hl
            rw [eJ90] at hf
            obtain ⟨x4_90, ex4_90, hf⟩ := lt_some hf
            refine lv_iinc (v := x4_90) (lv' := [(4, .int x4_90), (0, .ref (b + 0)), (1, .int x1), (2, .int x2), (3, .int x3_34)]) hx hb dX7_sync_90 hl (k := 4) rfl (by rw [ex4_90]; rfl) (by decide) rfl (fun ls hl => ?_)
            refine lv_goto (tgt := 38) hx hb dX7_sync_93 (by decide) ?_
            exact ih38 _ _ hf _ _ _ hP hS (lv_sub hl [1, 2, 3, 4, 0] rfl)
          clear eJ90
          refine lv_if_ne (tgt := 90) hx hb dX7_sync_80 (by decide) (fun q => ?_) (fun q => ?_)
          · replace hf := ite_t q hf
            exact kJ90 _ _ _ _ hf hP hS (lv_sub hl [1, 2, 3, 4, 5] rfl)
          · replace hf := ite_f (fun h => h q) hf
            refine lv_aload_n hx hb dX7_sync_83 rfl (lv_at hl 1 rfl) ?_
            refine lv_iload_n hx hb dX7_sync_84 rfl (lv_at hl 3 rfl) ?_
            refine lv_iload hx hb dX7_sync_85 (lv_at hl 0 rfl) ?_
            obtain ⟨S_87, q87, hf⟩ := cl_some hf
            refine g_callv F hK hP hS [.int x2, .int x5_66] (c_X7_learn l D cI cO b S_38 x2 x5_66 S_87 q87) wd_873 wd_875 wp_26 wd_9 wd_876 wM_o rfl hd_X7_learn rfl rfl ⟨Nat.le_of_ble_eq_true rfl, Nat.le_of_ble_eq_true rfl⟩ rfl hl (rest := []) rfl (Nat.le_of_ble_eq_true rfl) dX7_sync_87 ⟨Nat.le_of_ble_eq_true rfl, Nat.le_of_ble_eq_true rfl⟩ (fun H locs hP hS => ?_)
            exact kJ90 _ _ _ _ hf hP hS (lv_sub hl [1, 2, 3, 4, 5] rfl)
    · replace hf := ite_f (fun h => h q) hf
      refine lv_iconst (v := 0) hx hb dX7_sync_26 (by decide) ?_
      exact g_iret F hr hlocks hQ hK hP hS (Prod.mk.inj (Option.some.inj hf)).1 (Prod.mk.inj (Option.some.inj hf)).2 dX7_sync_27
  clear eJ19
  obtain ⟨J20, eJ20, hf⟩ := jn_some hf
  have kJ20 : ∀ (t0_20 : Int32) (H : Heap) (locs : List Loc) (ls : Array Slot), J20 t0_20 = some (r, S1) → va_P D vwCl ((wM cI cO b) S) H → va_S (AM b) s.heap H locs → lv_has ls 6 [(0, .ref (b + 0)), (1, .int x1), (2, .int x2)] → W p l e rm_X7_sync s m args below meth c H locs 0 0 Q (F0 m 20 ls [.int t0_20, .ref (b + 0)]) := by
    intro t0_20 H locs ls hf hP hS hl
    rw [eJ20] at hf
    obtain ⟨v20, S_20, q20, hf⟩ := cl2_some hf
    refine g_calli F hK hP hS [.int t0_20] (c_X7_goesWell l D cI cO b S t0_20 v20 S_20 q20) wd_865 wd_867 wp_24 wd_9 wd_868 wM_o rfl hd_X7_goesWell rfl rfl ⟨Nat.le_of_ble_eq_true rfl, Nat.le_of_ble_eq_true rfl⟩ rfl hl (rest := []) rfl (Nat.le_of_ble_eq_true rfl) dX7_sync_20 ⟨Nat.le_of_ble_eq_true rfl, Nat.le_of_ble_eq_true rfl⟩ (fun H locs hP hS => ?_)
    refine lv_if_ne (tgt := 28) hx hb dX7_sync_23 (by decide) (fun q => ?_) (fun q => ?_)
    · replace hf := ite_t q hf
      refine lv_aload_n hx hb dX7_sync_28 rfl (lv_at hl 0 rfl) ?_
      refine g_get F hK hP inA7 0 wM_o rfl 16 (by decide) wd_768 (v := .ref (b + 13)) rfl dX7_sync_29 ?_
      refine lv_iload_n hx hb dX7_sync_32 rfl (lv_at hl 2 rfl) ?_
      obtain ⟨hi, hf⟩ := ck_some hf
      refine va_iald hx hb hK hP 13 0 wM_a16 rfl hi dX7_sync_33 ?_
      obtain ⟨x3_34, ex3_34, hf⟩ := lt_some hf
      rw [← ex3_34]
      refine lv_istore_n (lv' := [(3, .int x3_34), (0, .ref (b + 0)), (1, .int x1), (2, .int x2)]) hx hb dX7_sync_34 rfl hl (by decide) rfl (fun ls hl => ?_)
      refine lv_iconst (v := 0) hx hb dX7_sync_35 (by decide) ?_
      refine lv_istore (lv' := [(4, .int (0 : Int32)), (3, .int x3_34), (0, .ref (b + 0)), (1, .int x1), (2, .int x2)]) hx hb dX7_sync_36 hl (by decide) rfl (fun ls hl => ?_)
      refine Lp2_ind (P := fun (x4_38 : Int32) (S_38 : St) => ∀ (H : Heap) (locs : List Loc) (ls : Array Slot), va_P D vwCl ((wM cI cO b) S_38) H → va_S (AM b) s.heap H locs → lv_has ls 6 [(0, .ref (b + 0)), (1, .int x1), (2, .int x2), (3, .int x3_34), (4, .int x4_38)] → W p l e rm_X7_sync s m args below meth c H locs 0 0 Q (F0 m 38 ls [])) ?_ _ _ _ hf _ _ _ hP hS (lv_sub hl [2, 3, 4, 1, 0] rfl)
      clear hf hP hS hl
      intro nx38 x4_38 S_38 ih38 hf H locs ls hP hS hl
      refine lv_iload hx hb dX7_sync_38 (lv_at hl 4 rfl) ?_
      refine lv_aload_n hx hb dX7_sync_40 rfl (lv_at hl 0 rfl) ?_
      refine g_get F hK hP inA7 0 wM_o rfl 16 (by decide) wd_768 (v := .ref (b + 13)) rfl dX7_sync_41 ?_
      refine lv_iload_n hx hb dX7_sync_44 rfl (lv_at hl 1 rfl) ?_
      obtain ⟨hi, hf⟩ := ck_some hf
      refine va_iald hx hb hK hP 13 0 wM_a16 rfl hi dX7_sync_45 ?_
      obtain ⟨J96, eJ96, hf⟩ := jn_some hf
      have kJ96 : ∀ (H : Heap) (locs : List Loc) (ls : Array Slot), J96 = some (r, S1) → va_P D vwCl ((wM cI cO b) S_38) H → va_S (AM b) s.heap H locs → lv_has ls 6 [(0, .ref (b + 0)), (1, .int x1), (2, .int x2), (3, .int x3_34)] → W p l e rm_X7_sync s m args below meth c H locs 0 0 Q (F0 m 96 ls []) := by
        intro  H locs ls hf hP hS hl
        rw [eJ96] at hf
        refine lv_aload_n hx hb dX7_sync_96 rfl (lv_at hl 0 rfl) ?_
        refine g_get F hK hP inA7 0 wM_o rfl 15 (by decide) wd_767 (v := .ref (b + 12)) rfl dX7_sync_97 ?_
        refine lv_iload_n hx hb dX7_sync_100 rfl (lv_at hl 2 rfl) ?_
        refine lv_aload_n hx hb dX7_sync_101 rfl (lv_at hl 0 rfl) ?_
        refine g_get F hK hP inA7 0 wM_o rfl 15 (by decide) wd_767 (v := .ref (b + 12)) rfl dX7_sync_102 ?_
        refine lv_iload_n hx hb dX7_sync_105 rfl (lv_at hl 1 rfl) ?_
        obtain ⟨hi, hf⟩ := ck_some hf
        refine va_iald hx hb hK hP 12 0 wM_a15 rfl hi dX7_sync_106 ?_
        refine lv_aload_n hx hb dX7_sync_107 rfl (lv_at hl 0 rfl) ?_
        refine g_get F hK hP inA7 0 wM_o rfl 15 (by decide) wd_767 (v := .ref (b + 12)) rfl dX7_sync_108 ?_
        refine lv_iload_n hx hb dX7_sync_111 rfl (lv_at hl 2 rfl) ?_
        obtain ⟨hi, hf⟩ := ck_some hf
        refine va_iald hx hb hK hP 12 0 wM_a15 rfl hi dX7_sync_112 ?_
        obtain ⟨J131, eJ131, hf⟩ := jn_some hf
        have kJ131 : ∀ (t0_131 : Int32) (H : Heap) (locs : List Loc) (ls : Array Slot), J131 t0_131 = some (r, S1) → va_P D vwCl ((wM cI cO b) S_38) H → va_S (AM b) s.heap H locs → lv_has ls 6 [(0, .ref (b + 0)), (2, .int x2), (3, .int x3_34)] → W p l e rm_X7_sync s m args below meth c H locs 0 0 Q (F0 m 131 ls [.int t0_131, .int x2, .ref (b + 12)]) := by
          intro t0_131 H locs ls hf hP hS hl
          rw [eJ131] at hf
          obtain ⟨hi, hf⟩ := ck_some hf
          obtain ⟨S_131, eS_131, hf⟩ := lt_some hf
          refine g_iast (S1 := S_131) hx hb hK hP wM_D hS 12 0 wM_a15 rfl hi (by rw [eS_131]; exact wM_sa_15) dX7_sync_131 (fun H locs hP hS => ?_)
          refine lv_aload_n hx hb dX7_sync_132 rfl (lv_at hl 0 rfl) ?_
          refine g_get F hK hP inA7 0 wM_o rfl 16 (by decide) wd_768 (v := .ref (b + 13)) rfl dX7_sync_133 ?_
          refine lv_iload_n hx hb dX7_sync_136 rfl (lv_at hl 1 rfl) ?_
          obtain ⟨hi, hf⟩ := ck_some hf
          refine va_iald hx hb hK hP 13 0 wM_a16 rfl hi dX7_sync_137 ?_
          refine lv_iload_n hx hb dX7_sync_138 rfl (lv_at hl 2 rfl) ?_
          refine lv_isub hx hb dX7_sync_139 ?_
          exact g_iret F hr hlocks hQ hK hP hS (Prod.mk.inj (Option.some.inj hf)).1 (Prod.mk.inj (Option.some.inj hf)).2 dX7_sync_140
        clear eJ131
        refine lv_icmp_le (tgt := 125) hx hb dX7_sync_113 (by decide) (fun q => ?_) (fun q => ?_)
        · replace hf := ite_t q hf
          refine lv_aload_n hx hb dX7_sync_125 rfl (lv_at hl 0 rfl) ?_
          refine g_get F hK hP inA7 0 wM_o rfl 15 (by decide) wd_767 (v := .ref (b + 12)) rfl dX7_sync_126 ?_
          refine lv_iload_n hx hb dX7_sync_129 rfl (lv_at hl 2 rfl) ?_
          obtain ⟨hi, hf⟩ := ck_some hf
          refine va_iald hx hb hK hP 12 0 wM_a15 rfl hi dX7_sync_130 ?_
          exact kJ131 _ _ _ _ hf hP hS (lv_sub hl [0, 2, 3] rfl)
        · replace hf := ite_f q hf
          refine lv_aload_n hx hb dX7_sync_116 rfl (lv_at hl 0 rfl) ?_
          refine g_get F hK hP inA7 0 wM_o rfl 15 (by decide) wd_767 (v := .ref (b + 12)) rfl dX7_sync_117 ?_
          refine lv_iload_n hx hb dX7_sync_120 rfl (lv_at hl 1 rfl) ?_
          obtain ⟨hi, hf⟩ := ck_some hf
          refine va_iald hx hb hK hP 12 0 wM_a15 rfl hi dX7_sync_121 ?_
          refine lv_goto (tgt := 131) hx hb dX7_sync_122 (by decide) ?_
          exact kJ131 _ _ _ _ hf hP hS (lv_sub hl [0, 2, 3] rfl)
      clear eJ96
      refine lv_icmp_ge (tgt := 96) hx hb dX7_sync_46 (by decide) (fun q => ?_) (fun q => ?_)
      · replace hf := ite_t q hf
        exact kJ96 _ _ _ hf hP hS (lv_sub hl [0, 1, 2, 3] rfl)
      · replace hf := ite_f q hf
        refine lv_iload_n hx hb dX7_sync_49 rfl (lv_at hl 1 rfl) ?_
        refine lv_iload_n hx hb dX7_sync_50 rfl (lv_at hl 2 rfl) ?_
        refine lv_icmp_eq (tgt := 96) hx hb dX7_sync_51 (by decide) (fun q => ?_) (fun q => ?_)
        · replace hf := ite_t q hf
          exact kJ96 _ _ _ hf hP hS (lv_sub hl [0, 1, 2, 3] rfl)
        · replace hf := ite_f q hf
          refine lv_aload_n hx hb dX7_sync_54 rfl (lv_at hl 0 rfl) ?_
          refine g_get F hK hP inA7 0 wM_o rfl 17 (by decide) wd_769 (v := .ref (b + 14)) rfl dX7_sync_55 ?_
          refine lv_bipush (v := 90) hx hb dX7_sync_58 (by decide) ?_
          refine lv_iload_n hx hb dX7_sync_60 rfl (lv_at hl 1 rfl) ?_
          refine lv_imul hx hb dX7_sync_61 ?_
          refine lv_iload hx hb dX7_sync_62 (lv_at hl 4 rfl) ?_
          refine lv_iadd hx hb dX7_sync_64 ?_
          obtain ⟨hi, hf⟩ := ck_some hf
          refine va_iald hx hb hK hP 14 0 wM_a17 rfl hi dX7_sync_65 ?_
          obtain ⟨x5_66, ex5_66, hf⟩ := lt_some hf
          rw [← ex5_66]
          refine lv_istore (lv' := [(5, .int x5_66), (0, .ref (b + 0)), (1, .int x1), (2, .int x2), (3, .int x3_34), (4, .int x4_38)]) hx hb dX7_sync_66 hl (by decide) rfl (fun ls hl => ?_)
          refine lv_aload_n hx hb dX7_sync_68 rfl (lv_at hl 1 rfl) ?_
          refine g_get F hK hP inA7 0 wM_o rfl 18 (by decide) wd_770 (v := .ref (b + 15)) rfl dX7_sync_69 ?_
          refine lv_bipush (v := 90) hx hb dX7_sync_72 (by decide) ?_
          refine lv_iload_n hx hb dX7_sync_74 rfl (lv_at hl 3 rfl) ?_
          refine lv_imul hx hb dX7_sync_75 ?_
          refine lv_iload hx hb dX7_sync_76 (lv_at hl 0 rfl) ?_
          refine lv_iadd hx hb dX7_sync_78 ?_
          obtain ⟨hi, hf⟩ := ck_some hf
          refine va_zald hx hb hK hP 15 1 wM_a18 rfl hi dX7_sync_79 ?_
          obtain ⟨J90, eJ90, hf⟩ := jn_some hf
          have kJ90 : ∀ (S_90 : St) (H : Heap) (locs : List Loc) (ls : Array Slot), J90 S_90 = some (r, S1) → va_P D vwCl ((wM cI cO b) S_90) H → va_S (AM b) s.heap H locs → lv_has ls 6 [(0, .ref (b + 0)), (1, .int x1), (2, .int x2), (3, .int x3_34), (4, .int x4_38)] → W p l e rm_X7_sync s m args below meth c H locs 0 0 Q (F0 m 90 ls []) := by
            intro S_90 H locs ls hf hP hS hl
            rw [eJ90] at hf
            obtain ⟨x4_90, ex4_90, hf⟩ := lt_some hf
            refine lv_iinc (v := x4_90) (lv' := [(4, .int x4_90), (0, .ref (b + 0)), (1, .int x1), (2, .int x2), (3, .int x3_34)]) hx hb dX7_sync_90 hl (k := 4) rfl (by rw [ex4_90]; rfl) (by decide) rfl (fun ls hl => ?_)
            refine lv_goto (tgt := 38) hx hb dX7_sync_93 (by decide) ?_
            exact ih38 _ _ hf _ _ _ hP hS (lv_sub hl [1, 2, 3, 4, 0] rfl)
          clear eJ90
          refine lv_if_ne (tgt := 90) hx hb dX7_sync_80 (by decide) (fun q => ?_) (fun q => ?_)
          · replace hf := ite_t q hf
            exact kJ90 _ _ _ _ hf hP hS (lv_sub hl [1, 2, 3, 4, 5] rfl)
          · replace hf := ite_f (fun h => h q) hf
            refine lv_aload_n hx hb dX7_sync_83 rfl (lv_at hl 1 rfl) ?_
            refine lv_iload_n hx hb dX7_sync_84 rfl (lv_at hl 3 rfl) ?_
            refine lv_iload hx hb dX7_sync_85 (lv_at hl 0 rfl) ?_
            obtain ⟨S_87, q87, hf⟩ := cl_some hf
            refine g_callv F hK hP hS [.int x2, .int x5_66] (c_X7_learn l D cI cO b S_38 x2 x5_66 S_87 q87) wd_873 wd_875 wp_26 wd_9 wd_876 wM_o rfl hd_X7_learn rfl rfl ⟨Nat.le_of_ble_eq_true rfl, Nat.le_of_ble_eq_true rfl⟩ rfl hl (rest := []) rfl (Nat.le_of_ble_eq_true rfl) dX7_sync_87 ⟨Nat.le_of_ble_eq_true rfl, Nat.le_of_ble_eq_true rfl⟩ (fun H locs hP hS => ?_)
            exact kJ90 _ _ _ _ hf hP hS (lv_sub hl [1, 2, 3, 4, 5] rfl)
    · replace hf := ite_f (fun h => h q) hf
      refine lv_iconst (v := 0) hx hb dX7_sync_26 (by decide) ?_
      exact g_iret F hr hlocks hQ hK hP hS (Prod.mk.inj (Option.some.inj hf)).1 (Prod.mk.inj (Option.some.inj hf)).2 dX7_sync_27
  clear eJ20
  refine lv_if_eq (tgt := 19) hx hb dX7_sync_5 (by decide) (fun q => ?_) (fun q => ?_)
  · replace hf := ite_t q hf
    exact kJ19 _ _ _ hf hP hS (lv_sub hl [0, 1, 2] rfl)
  · replace hf := ite_f q hf
    refine lv_iload_n hx hb dX7_sync_8 rfl (lv_at hl 2 rfl) ?_
    obtain ⟨v9, q9, hf⟩ := cl_some hf
    refine g_callSi F hK hP hS [.int x2] (c_X7_isSite l D cI cO b S x2 v9 q9) wd_855 wd_856 wd_9 wd_857 hd_X7_isSite rfl rfl ⟨Nat.le_of_ble_eq_true rfl, Nat.le_of_ble_eq_true rfl⟩ rfl hl (rest := [.ref (b + 0)]) rfl (Nat.le_of_ble_eq_true rfl) dX7_sync_9 ⟨Nat.zero_le _, Nat.zero_le _⟩ (fun H locs hP hS => ?_)
    refine lv_if_eq (tgt := 19) hx hb dX7_sync_12 (by decide) (fun q => ?_) (fun q => ?_)
    · replace hf := ite_t q hf
      exact kJ19 _ _ _ hf hP hS (lv_sub hl [0, 1, 2] rfl)
    · replace hf := ite_f q hf
      refine lv_iconst (v := 0) hx hb dX7_sync_15 (by decide) ?_
      refine lv_goto (tgt := 20) hx hb dX7_sync_16 (by decide) ?_
      exact kJ20 _ _ _ _ hf hP hS (lv_sub hl [0, 1, 2] rfl)
abbrev rm_X7_print : Room := { frames := 5, cells := 0, slots := 0, locals := 117 }
theorem hd_X7_print : yX7_print.cls = RX7 ∧ yX7_print.cls ≠ "java/lang/invoke/MethodHandle" ∧ yX7_print.cls ≠ "java/lang/invoke/VarHandle" ∧ (parseMethodDescriptor yX7_print.desc).map (fun d => d.parameters.length) = some 0 := by decide +kernel
set_option maxRecDepth 100000 in
set_option maxHeartbeats 4000000 in
theorem c_X7_print (l : Launch) (D : va_G) (cI cO : ClassId) (b : Nat) (S : St) (r : Int32) (S1 : St) (hf : f_X7_print S = some (r, S1)) : Met l yX7_print (Cond.code yX7_print cX7_print 4 (some .int) :: wsAll) rm_X7_print (PX D (wM cI cO b) (tyM cI cO) S [.ref (b + 0)]) (Qi D (wM cI cO b) (tyM cI cO) (AM b) r S1) 0 0 (AM b) := by
  unfold f_X7_print at hf
  refine g_met RX7 (by decide +kernel) (Nat.le_of_ble_eq_true rfl) rfl ?_
  intro p e s m args below meth c ls Q F hr hlocks hK hP hl hQ
  have hx := F.1
  have hb := F.2.1
  have hS : va_S (AM b) s.heap s.heap [] := va_S.rf
  have hl : lv_has ls 4 [(0, .ref (b + 0))] := hl
  refine lv_aload_n hx hb dX7_print_0 rfl (lv_at hl 0 rfl) ?_
  refine lv_iconst (v := 0) hx hb dX7_print_1 (by decide) ?_
  obtain ⟨S_2, q2, hf⟩ := cl_some hf
  refine g_callv F hK hP hS [.int (0 : Int32)] (c_X7_lay l D cI cO b S (0 : Int32) S_2 q2) wd_885 wd_887 wp_28 wd_9 wd_888 wM_o rfl hd_X7_lay rfl rfl ⟨Nat.le_of_ble_eq_true rfl, Nat.le_of_ble_eq_true rfl⟩ rfl hl (rest := []) rfl (Nat.le_of_ble_eq_true rfl) dX7_print_2 ⟨Nat.le_of_ble_eq_true rfl, Nat.le_of_ble_eq_true rfl⟩ (fun H locs hP hS => ?_)
  refine lv_aload_n hx hb dX7_print_5 rfl (lv_at hl 0 rfl) ?_
  refine lv_iconst (v := 2) hx hb dX7_print_6 (by decide) ?_
  refine lv_aload_n hx hb dX7_print_7 rfl (lv_at hl 0 rfl) ?_
  refine g_get F hK hP inA7 0 wM_o rfl 19 (by decide) wd_771 (v := .int (gi S_2 19)) rfl dX7_print_8 ?_
  refine lv_imul hx hb dX7_print_11 ?_
  refine lv_aload_n hx hb dX7_print_12 rfl (lv_at hl 0 rfl) ?_
  refine g_get F hK hP inA7 0 wM_o rfl 30 (by decide) wd_782 (v := .int (gi S_2 30)) rfl dX7_print_13 ?_
  obtain ⟨J24, eJ24, hf⟩ := jn_some hf
  have kJ24 : ∀ (t0_24 : Int32) (H : Heap) (locs : List Loc) (ls : Array Slot), J24 t0_24 = some (r, S1) → va_P D vwCl ((wM cI cO b) S_2) H → va_S (AM b) s.heap H locs → lv_has ls 4 [(0, .ref (b + 0))] → W p l e rm_X7_print s m args below meth c H locs 0 0 Q (F0 m 24 ls [.int t0_24, .ref (b + 0)]) := by
    intro t0_24 H locs ls hf hP hS hl
    rw [eJ24] at hf
    obtain ⟨v24, S_24, q24, hf⟩ := cl2_some hf
    refine g_calli F hK hP hS [.int t0_24] (c_X7_goesWell l D cI cO b S_2 t0_24 v24 S_24 q24) wd_865 wd_867 wp_24 wd_9 wd_868 wM_o rfl hd_X7_goesWell rfl rfl ⟨Nat.le_of_ble_eq_true rfl, Nat.le_of_ble_eq_true rfl⟩ rfl hl (rest := []) rfl (Nat.le_of_ble_eq_true rfl) dX7_print_24 ⟨Nat.le_of_ble_eq_true rfl, Nat.le_of_ble_eq_true rfl⟩ (fun H locs hP hS => ?_)
    refine lv_if_ne (tgt := 32) hx hb dX7_print_27 (by decide) (fun q => ?_) (fun q => ?_)
    · replace hf := ite_t q hf
      refine lv_iconst (v := 0) hx hb dX7_print_32 (by decide) ?_
      refine lv_istore_n (lv' := [(1, .int (0 : Int32)), (0, .ref (b + 0))]) hx hb dX7_print_33 rfl hl (by decide) rfl (fun ls hl => ?_)
      refine lv_iconst (v := 0) hx hb dX7_print_34 (by decide) ?_
      refine lv_istore_n (lv' := [(2, .int (0 : Int32)), (1, .int (0 : Int32)), (0, .ref (b + 0))]) hx hb dX7_print_35 rfl hl (by decide) rfl (fun ls hl => ?_)
      refine Lp3_ind (P := fun (x1_36 : Int32) (x2_36 : Int32) (S_36 : St) => ∀ (H : Heap) (locs : List Loc) (ls : Array Slot), va_P D vwCl ((wM cI cO b) S_36) H → va_S (AM b) s.heap H locs → lv_has ls 4 [(0, .ref (b + 0)), (1, .int x1_36), (2, .int x2_36)] → W p l e rm_X7_print s m args below meth c H locs 0 0 Q (F0 m 36 ls [])) ?_ _ _ _ _ hf _ _ _ hP hS (lv_sub hl [2, 1, 0] rfl)
      clear hf hP hS hl
      intro nx36 x1_36 x2_36 S_36 ih36 hf H locs ls hP hS hl
      refine lv_iload_n hx hb dX7_print_36 rfl (lv_at hl 2 rfl) ?_
      refine lv_aload_n hx hb dX7_print_37 rfl (lv_at hl 0 rfl) ?_
      refine g_get F hK hP inA7 0 wM_o rfl 26 (by decide) wd_778 (v := .int (gi S_36 26)) rfl dX7_print_38 ?_
      refine lv_icmp_ge (tgt := 124) hx hb dX7_print_41 (by decide) (fun q => ?_) (fun q => ?_)
      · replace hf := ite_t q hf
        refine lv_aload_n hx hb dX7_print_124 rfl (lv_at hl 0 rfl) ?_
        refine lv_dup hx hb dX7_print_125 rfl ?_
        refine g_get F hK hP inA7 0 wM_o rfl 19 (by decide) wd_771 (v := .int (gi S_36 19)) rfl dX7_print_126 ?_
        refine lv_iconst (v := 1) hx hb dX7_print_129 (by decide) ?_
        refine lv_iadd hx hb dX7_print_130 ?_
        obtain ⟨S_131, eS_131, hf⟩ := lt_some hf
        refine g_puti (S1 := S_131) F hK hP wM_D hS inA7 tyX7 tyX7_ok nmX7 0 wM_o rfl 19 (by decide) wd_771 rfl (by decide +kernel) (Nat.le_of_ble_eq_true rfl) (by rw [eS_131]; exact wM_si_19) dX7_print_131 (fun H locs hP hS => ?_)
        refine lv_iload_n hx hb dX7_print_134 rfl (lv_at hl 1 rfl) ?_
        exact g_iret F hr hlocks hQ hK hP hS (Prod.mk.inj (Option.some.inj hf)).1 (Prod.mk.inj (Option.some.inj hf)).2 dX7_print_135
      · replace hf := ite_f q hf
        refine lv_aload_n hx hb dX7_print_44 rfl (lv_at hl 0 rfl) ?_
        refine g_get F hK hP inA7 0 wM_o rfl 29 (by decide) wd_781 (v := .ref (b + 23)) rfl dX7_print_45 ?_
        refine lv_iload_n hx hb dX7_print_48 rfl (lv_at hl 2 rfl) ?_
        obtain ⟨hi, hf⟩ := ck_some hf
        refine va_iald hx hb hK hP 23 0 wM_a29 rfl hi dX7_print_49 ?_
        obtain ⟨x3_50, ex3_50, hf⟩ := lt_some hf
        rw [← ex3_50]
        refine lv_istore_n (lv' := [(3, .int x3_50), (0, .ref (b + 0)), (1, .int x1_36), (2, .int x2_36)]) hx hb dX7_print_50 rfl hl (by decide) rfl (fun ls hl => ?_)
        refine lv_iload_n hx hb dX7_print_51 rfl (lv_at hl 0 rfl) ?_
        refine lv_iconst (v := 2) hx hb dX7_print_52 (by decide) ?_
        obtain ⟨hn, hf⟩ := nz_some hf
        refine lv_idiv hx hb dX7_print_53 hn ?_
        refine lv_aload_n hx hb dX7_print_54 rfl (lv_at hl 1 rfl) ?_
        refine g_get F hK hP inA7 0 wM_o rfl 19 (by decide) wd_771 (v := .int (gi S_36 19)) rfl dX7_print_55 ?_
        obtain ⟨J118, eJ118, hf⟩ := jn_some hf
        have kJ118 : ∀ (x1_118 : Int32) (S_118 : St) (H : Heap) (locs : List Loc) (ls : Array Slot), J118 x1_118 S_118 = some (r, S1) → va_P D vwCl ((wM cI cO b) S_118) H → va_S (AM b) s.heap H locs → lv_has ls 4 [(0, .ref (b + 0)), (1, .int x1_118), (2, .int x2_36)] → W p l e rm_X7_print s m args below meth c H locs 0 0 Q (F0 m 118 ls []) := by
          intro x1_118 S_118 H locs ls hf hP hS hl
          rw [eJ118] at hf
          obtain ⟨x2_118, ex2_118, hf⟩ := lt_some hf
          refine lv_iinc (v := x2_118) (lv' := [(2, .int x2_118), (0, .ref (b + 0)), (1, .int x1_118)]) hx hb dX7_print_118 hl (k := 2) rfl (by rw [ex2_118]; rfl) (by decide) rfl (fun ls hl => ?_)
          refine lv_goto (tgt := 36) hx hb dX7_print_121 (by decide) ?_
          exact ih36 _ _ _ hf _ _ _ hP hS (lv_sub hl [1, 2, 0] rfl)
        clear eJ118
        refine lv_icmp_ne (tgt := 118) hx hb dX7_print_58 (by decide) (fun q => ?_) (fun q => ?_)
        · replace hf := ite_t q hf
          exact kJ118 _ _ _ _ _ hf hP hS (lv_sub hl [1, 2, 3] rfl)
        · replace hf := ite_f (fun h => h q) hf
          refine lv_aload_n hx hb dX7_print_61 rfl (lv_at hl 1 rfl) ?_
          refine g_get F hK hP inA7 0 wM_o rfl 21 (by decide) wd_773 (v := .ref (b + 17)) rfl dX7_print_62 ?_
          refine lv_bipush (v := 6) hx hb dX7_print_65 (by decide) ?_
          refine lv_iload_n hx hb dX7_print_67 rfl (lv_at hl 0 rfl) ?_
          refine lv_imul hx hb dX7_print_68 ?_
          refine lv_aload_n hx hb dX7_print_69 rfl (lv_at hl 1 rfl) ?_
          refine g_get F hK hP inA7 0 wM_o rfl 20 (by decide) wd_772 (v := .ref (b + 16)) rfl dX7_print_70 ?_
          refine lv_iload_n hx hb dX7_print_73 rfl (lv_at hl 0 rfl) ?_
          obtain ⟨hi, hf⟩ := ck_some hf
          refine va_iald hx hb hK hP 16 0 wM_a20 rfl hi dX7_print_74 ?_
          refine lv_iadd hx hb dX7_print_75 ?_
          refine lv_aload_n hx hb dX7_print_76 rfl (lv_at hl 1 rfl) ?_
          refine g_get F hK hP inA7 0 wM_o rfl 27 (by decide) wd_779 (v := .ref (b + 21)) rfl dX7_print_77 ?_
          refine lv_iload_n hx hb dX7_print_80 rfl (lv_at hl 3 rfl) ?_
          obtain ⟨hi, hf⟩ := ck_some hf
          refine va_iald hx hb hK hP 21 0 wM_a27 rfl hi dX7_print_81 ?_
          obtain ⟨hi, hf⟩ := ck_some hf
          obtain ⟨S_82, eS_82, hf⟩ := lt_some hf
          refine g_iast (S1 := S_82) hx hb hK hP wM_D hS 17 0 wM_a21 rfl hi (by rw [eS_82]; exact wM_sa_21) dX7_print_82 (fun H locs hP hS => ?_)
          refine lv_aload_n hx hb dX7_print_83 rfl (lv_at hl 1 rfl) ?_
          refine g_get F hK hP inA7 0 wM_o rfl 22 (by decide) wd_774 (v := .ref (b + 18)) rfl dX7_print_84 ?_
          refine lv_bipush (v := 6) hx hb dX7_print_87 (by decide) ?_
          refine lv_iload_n hx hb dX7_print_89 rfl (lv_at hl 0 rfl) ?_
          refine lv_imul hx hb dX7_print_90 ?_
          refine lv_aload_n hx hb dX7_print_91 rfl (lv_at hl 1 rfl) ?_
          refine g_get F hK hP inA7 0 wM_o rfl 20 (by decide) wd_772 (v := .ref (b + 16)) rfl dX7_print_92 ?_
          refine lv_iload_n hx hb dX7_print_95 rfl (lv_at hl 0 rfl) ?_
          obtain ⟨hi, hf⟩ := ck_some hf
          refine va_iald hx hb hK hP 16 0 wM_a20 rfl hi dX7_print_96 ?_
          refine lv_iadd hx hb dX7_print_97 ?_
          refine lv_aload_n hx hb dX7_print_98 rfl (lv_at hl 1 rfl) ?_
          refine g_get F hK hP inA7 0 wM_o rfl 28 (by decide) wd_780 (v := .ref (b + 22)) rfl dX7_print_99 ?_
          refine lv_iload_n hx hb dX7_print_102 rfl (lv_at hl 3 rfl) ?_
          obtain ⟨hi, hf⟩ := ck_some hf
          refine va_iald hx hb hK hP 22 0 wM_a28 rfl hi dX7_print_103 ?_
          obtain ⟨hi, hf⟩ := ck_some hf
          obtain ⟨S_104, eS_104, hf⟩ := lt_some hf
          refine g_iast (S1 := S_104) hx hb hK hP wM_D hS 18 0 wM_a22 rfl hi (by rw [eS_104]; exact wM_sa_22) dX7_print_104 (fun H locs hP hS => ?_)
          refine lv_aload_n hx hb dX7_print_105 rfl (lv_at hl 1 rfl) ?_
          refine g_get F hK hP inA7 0 wM_o rfl 20 (by decide) wd_772 (v := .ref (b + 16)) rfl dX7_print_106 ?_
          refine lv_iload_n hx hb dX7_print_109 rfl (lv_at hl 0 rfl) ?_
          refine lv_dup2_11 hx hb dX7_print_110 rfl rfl ?_
          obtain ⟨hi, hf⟩ := ck_some hf
          refine va_iald hx hb hK hP 16 0 wM_a20 rfl hi dX7_print_111 ?_
          refine lv_iconst (v := 1) hx hb dX7_print_112 (by decide) ?_
          refine lv_iadd hx hb dX7_print_113 ?_
          obtain ⟨hi, hf⟩ := ck_some hf
          obtain ⟨S_114, eS_114, hf⟩ := lt_some hf
          refine g_iast (S1 := S_114) hx hb hK hP wM_D hS 16 0 wM_a20 rfl hi (by rw [eS_114]; exact wM_sa_20) dX7_print_114 (fun H locs hP hS => ?_)
          obtain ⟨x1_115, ex1_115, hf⟩ := lt_some hf
          refine lv_iinc (v := x1_115) (lv' := [(1, .int x1_115), (3, .int x3_50), (0, .ref (b + 0)), (2, .int x2_36)]) hx hb dX7_print_115 hl (k := 2) rfl (by rw [ex1_115]; rfl) (by decide) rfl (fun ls hl => ?_)
          exact kJ118 _ _ _ _ _ hf hP hS (lv_sub hl [2, 0, 3] rfl)
    · replace hf := ite_f (fun h => h q) hf
      refine lv_iconst (v := 0) hx hb dX7_print_30 (by decide) ?_
      exact g_iret F hr hlocks hQ hK hP hS (Prod.mk.inj (Option.some.inj hf)).1 (Prod.mk.inj (Option.some.inj hf)).2 dX7_print_31
  clear eJ24
  refine lv_icmp_lt (tgt := 23) hx hb dX7_print_16 (by decide) (fun q => ?_) (fun q => ?_)
  · replace hf := ite_t q hf
    refine lv_iconst (v := 0) hx hb dX7_print_23 (by decide) ?_
    exact kJ24 _ _ _ _ hf hP hS (lv_sub hl [0] rfl)
  · replace hf := ite_f q hf
    refine lv_iconst (v := 1) hx hb dX7_print_19 (by decide) ?_
    refine lv_goto (tgt := 24) hx hb dX7_print_20 (by decide) ?_
    exact kJ24 _ _ _ _ hf hP hS (lv_sub hl [0] rfl)
abbrev rm_X7_sheets : Room := { frames := 0, cells := 0, slots := 0, locals := 0 }
theorem hd_X7_sheets : yX7_sheets.cls = RX7 ∧ yX7_sheets.cls ≠ "java/lang/invoke/MethodHandle" ∧ yX7_sheets.cls ≠ "java/lang/invoke/VarHandle" ∧ (parseMethodDescriptor yX7_sheets.desc).map (fun d => d.parameters.length) = some 0 := by decide +kernel
set_option maxRecDepth 100000 in
set_option maxHeartbeats 4000000 in
theorem c_X7_sheets (l : Launch) (D : va_G) (cI cO : ClassId) (b : Nat) (S : St) (r : Int32) (S1 : St) (hf : f_X7_sheets S = some (r, S1)) : Met l yX7_sheets (Cond.code yX7_sheets cX7_sheets 1 (some .int) :: wsAll) rm_X7_sheets (PX D (wM cI cO b) (tyM cI cO) S [.ref (b + 0)]) (Qi D (wM cI cO b) (tyM cI cO) (AM b) r S1) 0 0 (AM b) := by
  unfold f_X7_sheets at hf
  refine g_met RX7 (by decide +kernel) (Nat.le_of_ble_eq_true rfl) rfl ?_
  intro p e s m args below meth c ls Q F hr hlocks hK hP hl hQ
  have hx := F.1
  have hb := F.2.1
  have hS : va_S (AM b) s.heap s.heap [] := va_S.rf
  have hl : lv_has ls 1 [(0, .ref (b + 0))] := hl
  refine lv_aload_n hx hb dX7_sheets_0 rfl (lv_at hl 0 rfl) ?_
  refine lv_iconst (v := 0) hx hb dX7_sheets_1 (by decide) ?_
  obtain ⟨S_2, eS_2, hf⟩ := lt_some hf
  refine g_puti (S1 := S_2) F hK hP wM_D hS inA7 tyX7 tyX7_ok nmX7 0 wM_o rfl 0 (by decide) wd_752 rfl (by decide +kernel) (Nat.le_of_ble_eq_true rfl) (by rw [eS_2]; exact wM_si_0) dX7_sheets_2 (fun H locs hP hS => ?_)
  refine lv_aload_n hx hb dX7_sheets_5 rfl (lv_at hl 0 rfl) ?_
  refine g_get F hK hP inA7 0 wM_o rfl 19 (by decide) wd_771 (v := .int (gi S_2 19)) rfl dX7_sheets_6 ?_
  exact g_iret F hr hlocks hQ hK hP hS (Prod.mk.inj (Option.some.inj hf)).1 (Prod.mk.inj (Option.some.inj hf)).2 dX7_sheets_9
abbrev rm_X7_unlike : Room := { frames := 0, cells := 0, slots := 0, locals := 0 }
theorem hd_X7_unlike : yX7_unlike.cls = RX7 ∧ yX7_unlike.cls ≠ "java/lang/invoke/MethodHandle" ∧ yX7_unlike.cls ≠ "java/lang/invoke/VarHandle" ∧ (parseMethodDescriptor yX7_unlike.desc).map (fun d => d.parameters.length) = some 1 := by decide +kernel
set_option maxRecDepth 100000 in
set_option maxHeartbeats 4000000 in
theorem c_X7_unlike (l : Launch) (D : va_G) (cI cO : ClassId) (b : Nat) (S : St) (x1 : Int32) (r : Int32) (hf : f_X7_unlike S x1 = some r) : Met l yX7_unlike (Cond.code yX7_unlike cX7_unlike 8 (some .int) :: wsAll) rm_X7_unlike (PX D (wM cI cO b) (tyM cI cO) S [.ref (b + 0), .int x1]) (Qi D (wM cI cO b) (tyM cI cO) (AM b) r S) 0 0 (AM b) := by
  unfold f_X7_unlike at hf
  refine g_met RX7 (by decide +kernel) (Nat.le_of_ble_eq_true rfl) rfl ?_
  intro p e s m args below meth c ls Q F hr hlocks hK hP hl hQ
  have hx := F.1
  have hb := F.2.1
  have hS : va_S (AM b) s.heap s.heap [] := va_S.rf
  have hl : lv_has ls 8 [(0, .ref (b + 0)), (1, .int x1)] := hl
  refine lv_iconst (v := 0) hx hb dX7_unlike_0 (by decide) ?_
  refine lv_istore_n (lv' := [(2, .int (0 : Int32)), (0, .ref (b + 0)), (1, .int x1)]) hx hb dX7_unlike_1 rfl hl (by decide) rfl (fun ls hl => ?_)
  refine lv_iconst (v := 0) hx hb dX7_unlike_2 (by decide) ?_
  refine lv_istore_n (lv' := [(3, .int (0 : Int32)), (2, .int (0 : Int32)), (0, .ref (b + 0)), (1, .int x1)]) hx hb dX7_unlike_3 rfl hl (by decide) rfl (fun ls hl => ?_)
  refine lv_iconst (v := 0) hx hb dX7_unlike_4 (by decide) ?_
  refine lv_istore (lv' := [(4, .int (0 : Int32)), (3, .int (0 : Int32)), (2, .int (0 : Int32)), (0, .ref (b + 0)), (1, .int x1)]) hx hb dX7_unlike_5 hl (by decide) rfl (fun ls hl => ?_)
  refine Lp3_ind (P := fun (x2_7 : Int32) (x3_7 : Int32) (x4_7 : Int32) => ∀ (H : Heap) (locs : List Loc) (ls : Array Slot), va_P D vwCl ((wM cI cO b) S) H → va_S (AM b) s.heap H locs → lv_has ls 8 [(0, .ref (b + 0)), (1, .int x1), (2, .int x2_7), (3, .int x3_7), (4, .int x4_7)] → W p l e rm_X7_unlike s m args below meth c H locs 0 0 Q (F0 m 7 ls [])) ?_ _ _ _ _ hf _ _ _ hP hS (lv_sub hl [3, 4, 2, 1, 0] rfl)
  clear hf hP hS hl
  intro nx7 x2_7 x3_7 x4_7 ih7 hf H locs ls hP hS hl
  refine lv_iload hx hb dX7_unlike_7 (lv_at hl 4 rfl) ?_
  refine lv_aload_n hx hb dX7_unlike_9 rfl (lv_at hl 0 rfl) ?_
  refine g_get F hK hP inA7 0 wM_o rfl 26 (by decide) wd_778 (v := .int (gi S 26)) rfl dX7_unlike_10 ?_
  refine lv_icmp_ge (tgt := 142) hx hb dX7_unlike_13 (by decide) (fun q => ?_) (fun q => ?_)
  · replace hf := ite_t q hf
    refine lv_aload_n hx hb dX7_unlike_142 rfl (lv_at hl 0 rfl) ?_
    refine g_get F hK hP inA7 0 wM_o rfl 20 (by decide) wd_772 (v := .ref (b + 16)) rfl dX7_unlike_143 ?_
    refine lv_iload_n hx hb dX7_unlike_146 rfl (lv_at hl 1 rfl) ?_
    obtain ⟨hi, hf⟩ := ck_some hf
    refine va_iald hx hb hK hP 16 0 wM_a20 rfl hi dX7_unlike_147 ?_
    refine lv_iload_n hx hb dX7_unlike_148 rfl (lv_at hl 3 rfl) ?_
    refine lv_iadd hx hb dX7_unlike_149 ?_
    refine lv_iconst (v := 2) hx hb dX7_unlike_150 (by decide) ?_
    refine lv_iload_n hx hb dX7_unlike_151 rfl (lv_at hl 2 rfl) ?_
    refine lv_imul hx hb dX7_unlike_152 ?_
    refine lv_isub hx hb dX7_unlike_153 ?_
    exact g_iret F hr hlocks hQ hK hP hS (Option.some.inj hf) rfl dX7_unlike_154
  · replace hf := ite_f q hf
    refine lv_aload_n hx hb dX7_unlike_16 rfl (lv_at hl 0 rfl) ?_
    refine g_get F hK hP inA7 0 wM_o rfl 29 (by decide) wd_781 (v := .ref (b + 23)) rfl dX7_unlike_17 ?_
    refine lv_iload hx hb dX7_unlike_20 (lv_at hl 4 rfl) ?_
    obtain ⟨hi, hf⟩ := ck_some hf
    refine va_iald hx hb hK hP 23 0 wM_a29 rfl hi dX7_unlike_22 ?_
    refine lv_iload_n hx hb dX7_unlike_23 rfl (lv_at hl 1 rfl) ?_
    obtain ⟨J32, eJ32, hf⟩ := jn_some hf
    have kJ32 : ∀ (t0_32 : Int32) (H : Heap) (locs : List Loc) (ls : Array Slot), J32 t0_32 = some r → va_P D vwCl ((wM cI cO b) S) H → va_S (AM b) s.heap H locs → lv_has ls 8 [(0, .ref (b + 0)), (1, .int x1), (2, .int x2_7), (3, .int x3_7), (4, .int x4_7)] → W p l e rm_X7_unlike s m args below meth c H locs 0 0 Q (F0 m 32 ls [.int t0_32]) := by
      intro t0_32 H locs ls hf hP hS hl
      rw [eJ32] at hf
      refine lv_istore (lv' := [(5, .int t0_32), (0, .ref (b + 0)), (1, .int x1), (2, .int x2_7), (3, .int x3_7), (4, .int x4_7)]) hx hb dX7_unlike_32 hl (by decide) rfl (fun ls hl => ?_)
      refine lv_iload_n hx hb dX7_unlike_34 rfl (lv_at hl 4 rfl) ?_
      refine lv_iload hx hb dX7_unlike_35 (lv_at hl 0 rfl) ?_
      obtain ⟨J45, eJ45, hf⟩ := jn_some hf
      have kJ45 : ∀ (t0_45 : Int32) (H : Heap) (locs : List Loc) (ls : Array Slot), J45 t0_45 = some r → va_P D vwCl ((wM cI cO b) S) H → va_S (AM b) s.heap H locs → lv_has ls 8 [(0, .ref (b + 0)), (1, .int x1), (2, .int x2_7), (4, .int x4_7), (5, .int t0_32)] → W p l e rm_X7_unlike s m args below meth c H locs 0 0 Q (F0 m 45 ls [.int t0_45, .int x3_7]) := by
        intro t0_45 H locs ls hf hP hS hl
        rw [eJ45] at hf
        refine lv_iadd hx hb dX7_unlike_45 ?_
        obtain ⟨x3_46, ex3_46, hf⟩ := lt_some hf
        rw [← ex3_46]
        refine lv_istore_n (lv' := [(3, .int x3_46), (0, .ref (b + 0)), (1, .int x1), (2, .int x2_7), (4, .int x4_7), (5, .int t0_32)]) hx hb dX7_unlike_46 rfl hl (by decide) rfl (fun ls hl => ?_)
        refine lv_iconst (v := 0) hx hb dX7_unlike_47 (by decide) ?_
        refine lv_istore (lv' := [(6, .int (0 : Int32)), (3, .int x3_46), (0, .ref (b + 0)), (1, .int x1), (2, .int x2_7), (4, .int x4_7), (5, .int t0_32)]) hx hb dX7_unlike_48 hl (by decide) rfl (fun ls hl => ?_)
        refine Lp2_ind (P := fun (x2_50 : Int32) (x6_50 : Int32) => ∀ (H : Heap) (locs : List Loc) (ls : Array Slot), va_P D vwCl ((wM cI cO b) S) H → va_S (AM b) s.heap H locs → lv_has ls 8 [(0, .ref (b + 0)), (1, .int x1), (2, .int x2_50), (3, .int x3_46), (4, .int x4_7), (5, .int t0_32), (6, .int x6_50)] → W p l e rm_X7_unlike s m args below meth c H locs 0 0 Q (F0 m 50 ls [])) ?_ _ _ _ hf _ _ _ hP hS (lv_sub hl [2, 3, 4, 1, 5, 6, 0] rfl)
        clear hf hP hS hl
        intro nx50 x2_50 x6_50 ih50 hf H locs ls hP hS hl
        refine lv_iload hx hb dX7_unlike_50 (lv_at hl 6 rfl) ?_
        refine lv_aload_n hx hb dX7_unlike_52 rfl (lv_at hl 0 rfl) ?_
        refine g_get F hK hP inA7 0 wM_o rfl 20 (by decide) wd_772 (v := .ref (b + 16)) rfl dX7_unlike_53 ?_
        refine lv_iload_n hx hb dX7_unlike_56 rfl (lv_at hl 1 rfl) ?_
        obtain ⟨hi, hf⟩ := ck_some hf
        refine va_iald hx hb hK hP 16 0 wM_a20 rfl hi dX7_unlike_57 ?_
        obtain ⟨J136, eJ136, hf⟩ := jn_some hf
        have kJ136 : ∀ (H : Heap) (locs : List Loc) (ls : Array Slot), J136 = some r → va_P D vwCl ((wM cI cO b) S) H → va_S (AM b) s.heap H locs → lv_has ls 8 [(0, .ref (b + 0)), (1, .int x1), (2, .int x2_50), (3, .int x3_46), (4, .int x4_7)] → W p l e rm_X7_unlike s m args below meth c H locs 0 0 Q (F0 m 136 ls []) := by
          intro  H locs ls hf hP hS hl
          rw [eJ136] at hf
          obtain ⟨x4_136, ex4_136, hf⟩ := lt_some hf
          refine lv_iinc (v := x4_136) (lv' := [(4, .int x4_136), (0, .ref (b + 0)), (1, .int x1), (2, .int x2_50), (3, .int x3_46)]) hx hb dX7_unlike_136 hl (k := 4) rfl (by rw [ex4_136]; rfl) (by decide) rfl (fun ls hl => ?_)
          refine lv_goto (tgt := 7) hx hb dX7_unlike_139 (by decide) ?_
          exact ih7 _ _ _ hf _ _ _ hP hS (lv_sub hl [1, 2, 3, 4, 0] rfl)
        clear eJ136
        refine lv_icmp_ge (tgt := 136) hx hb dX7_unlike_58 (by decide) (fun q => ?_) (fun q => ?_)
        · replace hf := ite_t q hf
          exact kJ136 _ _ _ hf hP hS (lv_sub hl [0, 1, 2, 3, 4] rfl)
        · replace hf := ite_f q hf
          refine lv_iload hx hb dX7_unlike_61 (lv_at hl 5 rfl) ?_
          refine lv_if_eq (tgt := 136) hx hb dX7_unlike_63 (by decide) (fun q => ?_) (fun q => ?_)
          · replace hf := ite_t q hf
            exact kJ136 _ _ _ hf hP hS (lv_sub hl [0, 1, 2, 3, 4] rfl)
          · replace hf := ite_f q hf
            refine lv_aload_n hx hb dX7_unlike_66 rfl (lv_at hl 0 rfl) ?_
            refine g_get F hK hP inA7 0 wM_o rfl 21 (by decide) wd_773 (v := .ref (b + 17)) rfl dX7_unlike_67 ?_
            refine lv_bipush (v := 6) hx hb dX7_unlike_70 (by decide) ?_
            refine lv_iload_n hx hb dX7_unlike_72 rfl (lv_at hl 1 rfl) ?_
            refine lv_imul hx hb dX7_unlike_73 ?_
            refine lv_iload hx hb dX7_unlike_74 (lv_at hl 6 rfl) ?_
            refine lv_iadd hx hb dX7_unlike_76 ?_
            obtain ⟨hi, hf⟩ := ck_some hf
            refine va_iald hx hb hK hP 17 0 wM_a21 rfl hi dX7_unlike_77 ?_
            refine lv_aload_n hx hb dX7_unlike_78 rfl (lv_at hl 0 rfl) ?_
            refine g_get F hK hP inA7 0 wM_o rfl 27 (by decide) wd_779 (v := .ref (b + 21)) rfl dX7_unlike_79 ?_
            refine lv_iload hx hb dX7_unlike_82 (lv_at hl 4 rfl) ?_
            obtain ⟨hi, hf⟩ := ck_some hf
            refine va_iald hx hb hK hP 21 0 wM_a27 rfl hi dX7_unlike_84 ?_
            obtain ⟨J114, eJ114, hf⟩ := jn_some hf
            have kJ114 : ∀ (H : Heap) (locs : List Loc) (ls : Array Slot), J114 = some r → va_P D vwCl ((wM cI cO b) S) H → va_S (AM b) s.heap H locs → lv_has ls 8 [(0, .ref (b + 0)), (1, .int x1), (2, .int x2_50), (3, .int x3_46), (4, .int x4_7), (5, .int t0_32), (6, .int x6_50)] → W p l e rm_X7_unlike s m args below meth c H locs 0 0 Q (F0 m 114 ls []) := by
              intro  H locs ls hf hP hS hl
              rw [eJ114] at hf
              refine lv_iconst (v := 0) hx hb dX7_unlike_114 (by decide) ?_
              refine lv_istore (lv' := [(7, .int (0 : Int32)), (0, .ref (b + 0)), (1, .int x1), (2, .int x2_50), (3, .int x3_46), (4, .int x4_7), (5, .int t0_32), (6, .int x6_50)]) hx hb dX7_unlike_115 hl (by decide) rfl (fun ls hl => ?_)
              refine lv_iload_n hx hb dX7_unlike_117 rfl (lv_at hl 3 rfl) ?_
              refine lv_iload hx hb dX7_unlike_118 (lv_at hl 0 rfl) ?_
              obtain ⟨J128, eJ128, hf⟩ := jn_some hf
              have kJ128 : ∀ (t0_128 : Int32) (H : Heap) (locs : List Loc) (ls : Array Slot), J128 t0_128 = some r → va_P D vwCl ((wM cI cO b) S) H → va_S (AM b) s.heap H locs → lv_has ls 8 [(0, .ref (b + 0)), (1, .int x1), (3, .int x3_46), (4, .int x4_7), (5, .int t0_32), (6, .int x6_50)] → W p l e rm_X7_unlike s m args below meth c H locs 0 0 Q (F0 m 128 ls [.int t0_128, .int x2_50]) := by
                intro t0_128 H locs ls hf hP hS hl
                rw [eJ128] at hf
                refine lv_iadd hx hb dX7_unlike_128 ?_
                obtain ⟨x2_129, ex2_129, hf⟩ := lt_some hf
                rw [← ex2_129]
                refine lv_istore_n (lv' := [(2, .int x2_129), (0, .ref (b + 0)), (1, .int x1), (3, .int x3_46), (4, .int x4_7), (5, .int t0_32), (6, .int x6_50)]) hx hb dX7_unlike_129 rfl hl (by decide) rfl (fun ls hl => ?_)
                obtain ⟨x6_130, ex6_130, hf⟩ := lt_some hf
                refine lv_iinc (v := x6_130) (lv' := [(6, .int x6_130), (2, .int x2_129), (0, .ref (b + 0)), (1, .int x1), (3, .int x3_46), (4, .int x4_7), (5, .int t0_32)]) hx hb dX7_unlike_130 hl (k := 6) rfl (by rw [ex6_130]; rfl) (by decide) rfl (fun ls hl => ?_)
                refine lv_goto (tgt := 50) hx hb dX7_unlike_133 (by decide) ?_
                exact ih50 _ _ hf _ _ _ hP hS (lv_sub hl [2, 3, 1, 4, 5, 6, 0] rfl)
              clear eJ128
              refine lv_if_eq (tgt := 127) hx hb dX7_unlike_120 (by decide) (fun q => ?_) (fun q => ?_)
              · replace hf := ite_t q hf
                refine lv_iconst (v := 0) hx hb dX7_unlike_127 (by decide) ?_
                exact kJ128 _ _ _ _ hf hP hS (lv_sub hl [1, 2, 4, 5, 6, 7] rfl)
              · replace hf := ite_f q hf
                refine lv_iconst (v := 1) hx hb dX7_unlike_123 (by decide) ?_
                refine lv_goto (tgt := 128) hx hb dX7_unlike_124 (by decide) ?_
                exact kJ128 _ _ _ _ hf hP hS (lv_sub hl [1, 2, 4, 5, 6, 7] rfl)
            clear eJ114
            obtain ⟨J115, eJ115, hf⟩ := jn_some hf
            have kJ115 : ∀ (t0_115 : Int32) (H : Heap) (locs : List Loc) (ls : Array Slot), J115 t0_115 = some r → va_P D vwCl ((wM cI cO b) S) H → va_S (AM b) s.heap H locs → lv_has ls 8 [(0, .ref (b + 0)), (1, .int x1), (2, .int x2_50), (3, .int x3_46), (4, .int x4_7), (5, .int t0_32), (6, .int x6_50)] → W p l e rm_X7_unlike s m args below meth c H locs 0 0 Q (F0 m 115 ls [.int t0_115]) := by
              intro t0_115 H locs ls hf hP hS hl
              rw [eJ115] at hf
              refine lv_istore (lv' := [(7, .int t0_115), (0, .ref (b + 0)), (1, .int x1), (2, .int x2_50), (3, .int x3_46), (4, .int x4_7), (5, .int t0_32), (6, .int x6_50)]) hx hb dX7_unlike_115 hl (by decide) rfl (fun ls hl => ?_)
              refine lv_iload_n hx hb dX7_unlike_117 rfl (lv_at hl 3 rfl) ?_
              refine lv_iload hx hb dX7_unlike_118 (lv_at hl 0 rfl) ?_
              obtain ⟨J128, eJ128, hf⟩ := jn_some hf
              have kJ128 : ∀ (t0_128 : Int32) (H : Heap) (locs : List Loc) (ls : Array Slot), J128 t0_128 = some r → va_P D vwCl ((wM cI cO b) S) H → va_S (AM b) s.heap H locs → lv_has ls 8 [(0, .ref (b + 0)), (1, .int x1), (3, .int x3_46), (4, .int x4_7), (5, .int t0_32), (6, .int x6_50)] → W p l e rm_X7_unlike s m args below meth c H locs 0 0 Q (F0 m 128 ls [.int t0_128, .int x2_50]) := by
                intro t0_128 H locs ls hf hP hS hl
                rw [eJ128] at hf
                refine lv_iadd hx hb dX7_unlike_128 ?_
                obtain ⟨x2_129, ex2_129, hf⟩ := lt_some hf
                rw [← ex2_129]
                refine lv_istore_n (lv' := [(2, .int x2_129), (0, .ref (b + 0)), (1, .int x1), (3, .int x3_46), (4, .int x4_7), (5, .int t0_32), (6, .int x6_50)]) hx hb dX7_unlike_129 rfl hl (by decide) rfl (fun ls hl => ?_)
                obtain ⟨x6_130, ex6_130, hf⟩ := lt_some hf
                refine lv_iinc (v := x6_130) (lv' := [(6, .int x6_130), (2, .int x2_129), (0, .ref (b + 0)), (1, .int x1), (3, .int x3_46), (4, .int x4_7), (5, .int t0_32)]) hx hb dX7_unlike_130 hl (k := 6) rfl (by rw [ex6_130]; rfl) (by decide) rfl (fun ls hl => ?_)
                refine lv_goto (tgt := 50) hx hb dX7_unlike_133 (by decide) ?_
                exact ih50 _ _ hf _ _ _ hP hS (lv_sub hl [2, 3, 1, 4, 5, 6, 0] rfl)
              clear eJ128
              refine lv_if_eq (tgt := 127) hx hb dX7_unlike_120 (by decide) (fun q => ?_) (fun q => ?_)
              · replace hf := ite_t q hf
                refine lv_iconst (v := 0) hx hb dX7_unlike_127 (by decide) ?_
                exact kJ128 _ _ _ _ hf hP hS (lv_sub hl [1, 2, 4, 5, 6, 7] rfl)
              · replace hf := ite_f q hf
                refine lv_iconst (v := 1) hx hb dX7_unlike_123 (by decide) ?_
                refine lv_goto (tgt := 128) hx hb dX7_unlike_124 (by decide) ?_
                exact kJ128 _ _ _ _ hf hP hS (lv_sub hl [1, 2, 4, 5, 6, 7] rfl)
            clear eJ115
            refine lv_icmp_ne (tgt := 114) hx hb dX7_unlike_85 (by decide) (fun q => ?_) (fun q => ?_)
            · replace hf := ite_t q hf
              exact kJ114 _ _ _ hf hP hS (lv_sub hl [0, 1, 2, 3, 4, 5, 6] rfl)
            · replace hf := ite_f (fun h => h q) hf
              refine lv_aload_n hx hb dX7_unlike_88 rfl (lv_at hl 0 rfl) ?_
              refine g_get F hK hP inA7 0 wM_o rfl 22 (by decide) wd_774 (v := .ref (b + 18)) rfl dX7_unlike_89 ?_
              refine lv_bipush (v := 6) hx hb dX7_unlike_92 (by decide) ?_
              refine lv_iload_n hx hb dX7_unlike_94 rfl (lv_at hl 1 rfl) ?_
              refine lv_imul hx hb dX7_unlike_95 ?_
              refine lv_iload hx hb dX7_unlike_96 (lv_at hl 6 rfl) ?_
              refine lv_iadd hx hb dX7_unlike_98 ?_
              obtain ⟨hi, hf⟩ := ck_some hf
              refine va_iald hx hb hK hP 18 0 wM_a22 rfl hi dX7_unlike_99 ?_
              refine lv_aload_n hx hb dX7_unlike_100 rfl (lv_at hl 0 rfl) ?_
              refine g_get F hK hP inA7 0 wM_o rfl 28 (by decide) wd_780 (v := .ref (b + 22)) rfl dX7_unlike_101 ?_
              refine lv_iload hx hb dX7_unlike_104 (lv_at hl 4 rfl) ?_
              obtain ⟨hi, hf⟩ := ck_some hf
              refine va_iald hx hb hK hP 22 0 wM_a28 rfl hi dX7_unlike_106 ?_
              refine lv_icmp_ne (tgt := 114) hx hb dX7_unlike_107 (by decide) (fun q => ?_) (fun q => ?_)
              · replace hf := ite_t q hf
                exact kJ114 _ _ _ hf hP hS (lv_sub hl [0, 1, 2, 3, 4, 5, 6] rfl)
              · replace hf := ite_f (fun h => h q) hf
                refine lv_iconst (v := 1) hx hb dX7_unlike_110 (by decide) ?_
                refine lv_goto (tgt := 115) hx hb dX7_unlike_111 (by decide) ?_
                exact kJ115 _ _ _ _ hf hP hS (lv_sub hl [0, 1, 2, 3, 4, 5, 6] rfl)
      clear eJ45
      refine lv_if_eq (tgt := 44) hx hb dX7_unlike_37 (by decide) (fun q => ?_) (fun q => ?_)
      · replace hf := ite_t q hf
        refine lv_iconst (v := 0) hx hb dX7_unlike_44 (by decide) ?_
        exact kJ45 _ _ _ _ hf hP hS (lv_sub hl [1, 2, 3, 5, 0] rfl)
      · replace hf := ite_f q hf
        refine lv_iconst (v := 1) hx hb dX7_unlike_40 (by decide) ?_
        refine lv_goto (tgt := 45) hx hb dX7_unlike_41 (by decide) ?_
        exact kJ45 _ _ _ _ hf hP hS (lv_sub hl [1, 2, 3, 5, 0] rfl)
    clear eJ32
    refine lv_icmp_ne (tgt := 31) hx hb dX7_unlike_24 (by decide) (fun q => ?_) (fun q => ?_)
    · replace hf := ite_t q hf
      refine lv_iconst (v := 0) hx hb dX7_unlike_31 (by decide) ?_
      exact kJ32 _ _ _ _ hf hP hS (lv_sub hl [0, 1, 2, 3, 4] rfl)
    · replace hf := ite_f (fun h => h q) hf
      refine lv_iconst (v := 1) hx hb dX7_unlike_27 (by decide) ?_
      refine lv_goto (tgt := 32) hx hb dX7_unlike_28 (by decide) ?_
      exact kJ32 _ _ _ _ hf hP hS (lv_sub hl [0, 1, 2, 3, 4] rfl)
abbrev rm_X7_differs : Room := { frames := 5, cells := 0, slots := 0, locals := 117 }
theorem hd_X7_differs : yX7_differs.cls = RX7 ∧ yX7_differs.cls ≠ "java/lang/invoke/MethodHandle" ∧ yX7_differs.cls ≠ "java/lang/invoke/VarHandle" ∧ (parseMethodDescriptor yX7_differs.desc).map (fun d => d.parameters.length) = some 1 := by decide +kernel
set_option maxRecDepth 100000 in
set_option maxHeartbeats 4000000 in
theorem c_X7_differs (l : Launch) (D : va_G) (cI cO : ClassId) (b : Nat) (S : St) (x1 : Int32) (r : Int32) (S1 : St) (hf : f_X7_differs S x1 = some (r, S1)) : Met l yX7_differs (Cond.code yX7_differs cX7_differs 2 (some .int) :: wsAll) rm_X7_differs (PX D (wM cI cO b) (tyM cI cO) S [.ref (b + 0), .int x1]) (Qi D (wM cI cO b) (tyM cI cO) (AM b) r S1) 0 0 (AM b) := by
  unfold f_X7_differs at hf
  refine g_met RX7 (by decide +kernel) (Nat.le_of_ble_eq_true rfl) rfl ?_
  intro p e s m args below meth c ls Q F hr hlocks hK hP hl hQ
  have hx := F.1
  have hb := F.2.1
  have hS : va_S (AM b) s.heap s.heap [] := va_S.rf
  have hl : lv_has ls 2 [(0, .ref (b + 0)), (1, .int x1)] := hl
  refine lv_aload_n hx hb dX7_differs_0 rfl (lv_at hl 0 rfl) ?_
  refine lv_iload_n hx hb dX7_differs_1 rfl (lv_at hl 1 rfl) ?_
  refine lv_iconst (v := 0) hx hb dX7_differs_2 (by decide) ?_
  refine lv_iconst (v := 2) hx hb dX7_differs_3 (by decide) ?_
  refine lv_aload_n hx hb dX7_differs_4 rfl (lv_at hl 0 rfl) ?_
  refine g_get F hK hP inA7 0 wM_o rfl 19 (by decide) wd_771 (v := .int (gi S 19)) rfl dX7_differs_5 ?_
  refine lv_imul hx hb dX7_differs_8 ?_
  refine lv_iconst (v := 1) hx hb dX7_differs_9 (by decide) ?_
  refine lv_isub hx hb dX7_differs_10 ?_
  obtain ⟨v11, q11, hf⟩ := cl_some hf
  refine g_callSi F hK hP hS [.int x1, .int (0 : Int32), .int (((2 : Int32) * (gi S 19)) - (1 : Int32))] (c_X7_in l D cI cO b S x1 (0 : Int32) (((2 : Int32) * (gi S 19)) - (1 : Int32)) v11 q11) wd_858 wd_859 wd_9 wd_860 hd_X7_in rfl rfl ⟨Nat.le_of_ble_eq_true rfl, Nat.le_of_ble_eq_true rfl⟩ rfl hl (rest := [.ref (b + 0)]) rfl (Nat.le_of_ble_eq_true rfl) dX7_differs_11 ⟨Nat.zero_le _, Nat.zero_le _⟩ (fun H locs hP hS => ?_)
  obtain ⟨J22, eJ22, hf⟩ := jn_some hf
  have kJ22 : ∀ (t0_22 : Int32) (H : Heap) (locs : List Loc) (ls : Array Slot), J22 t0_22 = some (r, S1) → va_P D vwCl ((wM cI cO b) S) H → va_S (AM b) s.heap H locs → lv_has ls 2 [(0, .ref (b + 0)), (1, .int x1)] → W p l e rm_X7_differs s m args below meth c H locs 0 0 Q (F0 m 22 ls [.int t0_22, .ref (b + 0)]) := by
    intro t0_22 H locs ls hf hP hS hl
    rw [eJ22] at hf
    obtain ⟨v22, S_22, q22, hf⟩ := cl2_some hf
    refine g_calli F hK hP hS [.int t0_22] (c_X7_goesWell l D cI cO b S t0_22 v22 S_22 q22) wd_865 wd_867 wp_24 wd_9 wd_868 wM_o rfl hd_X7_goesWell rfl rfl ⟨Nat.le_of_ble_eq_true rfl, Nat.le_of_ble_eq_true rfl⟩ rfl hl (rest := []) rfl (Nat.le_of_ble_eq_true rfl) dX7_differs_22 ⟨Nat.le_of_ble_eq_true rfl, Nat.le_of_ble_eq_true rfl⟩ (fun H locs hP hS => ?_)
    refine lv_if_ne (tgt := 30) hx hb dX7_differs_25 (by decide) (fun q => ?_) (fun q => ?_)
    · replace hf := ite_t q hf
      refine lv_aload_n hx hb dX7_differs_30 rfl (lv_at hl 0 rfl) ?_
      refine lv_iconst (v := 0) hx hb dX7_differs_31 (by decide) ?_
      obtain ⟨S_32, q32, hf⟩ := cl_some hf
      refine g_callv F hK hP hS [.int (0 : Int32)] (c_X7_lay l D cI cO b S_22 (0 : Int32) S_32 q32) wd_885 wd_887 wp_28 wd_9 wd_888 wM_o rfl hd_X7_lay rfl rfl ⟨Nat.le_of_ble_eq_true rfl, Nat.le_of_ble_eq_true rfl⟩ rfl hl (rest := []) rfl (Nat.le_of_ble_eq_true rfl) dX7_differs_32 ⟨Nat.le_of_ble_eq_true rfl, Nat.le_of_ble_eq_true rfl⟩ (fun H locs hP hS => ?_)
      refine lv_aload_n hx hb dX7_differs_35 rfl (lv_at hl 0 rfl) ?_
      refine lv_iload_n hx hb dX7_differs_36 rfl (lv_at hl 1 rfl) ?_
      obtain ⟨v37, q37, hf⟩ := cl_some hf
      refine g_calli F hK hP hS [.int x1] (c_X7_unlike l D cI cO b S_32 x1 v37 q37) wd_949 wd_951 wp_38 wd_9 wd_952 wM_o rfl hd_X7_unlike rfl rfl ⟨Nat.le_of_ble_eq_true rfl, Nat.le_of_ble_eq_true rfl⟩ rfl hl (rest := []) rfl (Nat.le_of_ble_eq_true rfl) dX7_differs_37 ⟨Nat.le_of_ble_eq_true rfl, Nat.le_of_ble_eq_true rfl⟩ (fun H locs hP hS => ?_)
      exact g_iret F hr hlocks hQ hK hP hS (Prod.mk.inj (Option.some.inj hf)).1 (Prod.mk.inj (Option.some.inj hf)).2 dX7_differs_40
    · replace hf := ite_f (fun h => h q) hf
      refine lv_iconst (v := 0) hx hb dX7_differs_28 (by decide) ?_
      exact g_iret F hr hlocks hQ hK hP hS (Prod.mk.inj (Option.some.inj hf)).1 (Prod.mk.inj (Option.some.inj hf)).2 dX7_differs_29
  clear eJ22
  refine lv_if_eq (tgt := 21) hx hb dX7_differs_14 (by decide) (fun q => ?_) (fun q => ?_)
  · replace hf := ite_t q hf
    refine lv_iconst (v := 1) hx hb dX7_differs_21 (by decide) ?_
    exact kJ22 _ _ _ _ hf hP hS (lv_sub hl [0, 1] rfl)
  · replace hf := ite_f q hf
    refine lv_iconst (v := 0) hx hb dX7_differs_17 (by decide) ?_
    refine lv_goto (tgt := 22) hx hb dX7_differs_18 (by decide) ?_
    exact kJ22 _ _ _ _ hf hP hS (lv_sub hl [0, 1] rfl)
abbrev rm_X7_cost : Room := { frames := 5, cells := 0, slots := 0, locals := 117 }
theorem hd_X7_cost : yX7_cost.cls = RX7 ∧ yX7_cost.cls ≠ "java/lang/invoke/MethodHandle" ∧ yX7_cost.cls ≠ "java/lang/invoke/VarHandle" ∧ (parseMethodDescriptor yX7_cost.desc).map (fun d => d.parameters.length) = some 0 := by decide +kernel
set_option maxRecDepth 100000 in
set_option maxHeartbeats 4000000 in
theorem c_X7_cost (l : Launch) (D : va_G) (cI cO : ClassId) (b : Nat) (S : St) (r : Int32) (S1 : St) (hf : f_X7_cost S = some (r, S1)) : Met l yX7_cost (Cond.code yX7_cost cX7_cost 6 (some .int) :: wsAll) rm_X7_cost (PX D (wM cI cO b) (tyM cI cO) S [.ref (b + 0)]) (Qi D (wM cI cO b) (tyM cI cO) (AM b) r S1) 0 0 (AM b) := by
  unfold f_X7_cost at hf
  refine g_met RX7 (by decide +kernel) (Nat.le_of_ble_eq_true rfl) rfl ?_
  intro p e s m args below meth c ls Q F hr hlocks hK hP hl hQ
  have hx := F.1
  have hb := F.2.1
  have hS : va_S (AM b) s.heap s.heap [] := va_S.rf
  have hl : lv_has ls 6 [(0, .ref (b + 0))] := hl
  refine lv_aload_n hx hb dX7_cost_0 rfl (lv_at hl 0 rfl) ?_
  refine lv_iconst (v := 0) hx hb dX7_cost_1 (by decide) ?_
  obtain ⟨S_2, eS_2, hf⟩ := lt_some hf
  refine g_puti (S1 := S_2) F hK hP wM_D hS inA7 tyX7 tyX7_ok nmX7 0 wM_o rfl 0 (by decide) wd_752 rfl (by decide +kernel) (Nat.le_of_ble_eq_true rfl) (by rw [eS_2]; exact wM_si_0) dX7_cost_2 (fun H locs hP hS => ?_)
  refine lv_aload_n hx hb dX7_cost_5 rfl (lv_at hl 0 rfl) ?_
  refine lv_iconst (v := 0) hx hb dX7_cost_6 (by decide) ?_
  obtain ⟨S_7, q7, hf⟩ := cl_some hf
  refine g_callv F hK hP hS [.int (0 : Int32)] (c_X7_lay l D cI cO b S_2 (0 : Int32) S_7 q7) wd_885 wd_887 wp_28 wd_9 wd_888 wM_o rfl hd_X7_lay rfl rfl ⟨Nat.le_of_ble_eq_true rfl, Nat.le_of_ble_eq_true rfl⟩ rfl hl (rest := []) rfl (Nat.le_of_ble_eq_true rfl) dX7_cost_7 ⟨Nat.le_of_ble_eq_true rfl, Nat.le_of_ble_eq_true rfl⟩ (fun H locs hP hS => ?_)
  refine lv_iconst (v := 0) hx hb dX7_cost_10 (by decide) ?_
  refine lv_istore_n (lv' := [(1, .int (0 : Int32)), (0, .ref (b + 0))]) hx hb dX7_cost_11 rfl hl (by decide) rfl (fun ls hl => ?_)
  refine lv_iconst (v := 0) hx hb dX7_cost_12 (by decide) ?_
  refine lv_istore_n (lv' := [(2, .int (0 : Int32)), (1, .int (0 : Int32)), (0, .ref (b + 0))]) hx hb dX7_cost_13 rfl hl (by decide) rfl (fun ls hl => ?_)
  refine Lp2_ind (P := fun (x1_14 : Int32) (x2_14 : Int32) => ∀ (H : Heap) (locs : List Loc) (ls : Array Slot), va_P D vwCl ((wM cI cO b) S_7) H → va_S (AM b) s.heap H locs → lv_has ls 6 [(0, .ref (b + 0)), (1, .int x1_14), (2, .int x2_14)] → W p l e rm_X7_cost s m args below meth c H locs 0 0 Q (F0 m 14 ls [])) ?_ _ _ _ hf _ _ _ hP hS (lv_sub hl [2, 1, 0] rfl)
  clear hf hP hS hl
  intro nx14 x1_14 x2_14 ih14 hf H locs ls hP hS hl
  refine lv_iload_n hx hb dX7_cost_14 rfl (lv_at hl 2 rfl) ?_
  refine lv_aload_n hx hb dX7_cost_15 rfl (lv_at hl 0 rfl) ?_
  refine g_get F hK hP inA7 0 wM_o rfl 19 (by decide) wd_771 (v := .int (gi S_7 19)) rfl dX7_cost_16 ?_
  refine lv_icmp_ge (tgt := 91) hx hb dX7_cost_19 (by decide) (fun q => ?_) (fun q => ?_)
  · replace hf := ite_t q hf
    refine lv_iload_n hx hb dX7_cost_91 rfl (lv_at hl 1 rfl) ?_
    exact g_iret F hr hlocks hQ hK hP hS (Prod.mk.inj (Option.some.inj hf)).1 (Prod.mk.inj (Option.some.inj hf)).2 dX7_cost_92
  · replace hf := ite_f q hf
    refine lv_aload_n hx hb dX7_cost_22 rfl (lv_at hl 0 rfl) ?_
    refine lv_iconst (v := 2) hx hb dX7_cost_23 (by decide) ?_
    refine lv_iload_n hx hb dX7_cost_24 rfl (lv_at hl 2 rfl) ?_
    refine lv_imul hx hb dX7_cost_25 ?_
    obtain ⟨v26, q26, hf⟩ := cl_some hf
    refine g_calli F hK hP hS [.int ((2 : Int32) * x2_14)] (c_X7_unlike l D cI cO b S_7 ((2 : Int32) * x2_14) v26 q26) wd_949 wd_951 wp_38 wd_9 wd_952 wM_o rfl hd_X7_unlike rfl rfl ⟨Nat.le_of_ble_eq_true rfl, Nat.le_of_ble_eq_true rfl⟩ rfl hl (rest := []) rfl (Nat.le_of_ble_eq_true rfl) dX7_cost_26 ⟨Nat.le_of_ble_eq_true rfl, Nat.le_of_ble_eq_true rfl⟩ (fun H locs hP hS => ?_)
    refine lv_istore_n (lv' := [(3, .int v26), (0, .ref (b + 0)), (1, .int x1_14), (2, .int x2_14)]) hx hb dX7_cost_29 rfl hl (by decide) rfl (fun ls hl => ?_)
    refine lv_aload_n hx hb dX7_cost_30 rfl (lv_at hl 1 rfl) ?_
    refine lv_iconst (v := 2) hx hb dX7_cost_31 (by decide) ?_
    refine lv_iload_n hx hb dX7_cost_32 rfl (lv_at hl 3 rfl) ?_
    refine lv_imul hx hb dX7_cost_33 ?_
    refine lv_iconst (v := 1) hx hb dX7_cost_34 (by decide) ?_
    refine lv_iadd hx hb dX7_cost_35 ?_
    obtain ⟨v36, q36, hf⟩ := cl_some hf
    refine g_calli F hK hP hS [.int (((2 : Int32) * x2_14) + (1 : Int32))] (c_X7_unlike l D cI cO b S_7 (((2 : Int32) * x2_14) + (1 : Int32)) v36 q36) wd_949 wd_951 wp_38 wd_9 wd_952 wM_o rfl hd_X7_unlike rfl rfl ⟨Nat.le_of_ble_eq_true rfl, Nat.le_of_ble_eq_true rfl⟩ rfl hl (rest := []) rfl (Nat.le_of_ble_eq_true rfl) dX7_cost_36 ⟨Nat.le_of_ble_eq_true rfl, Nat.le_of_ble_eq_true rfl⟩ (fun H locs hP hS => ?_)
    refine lv_istore (lv' := [(4, .int v36), (3, .int v26), (0, .ref (b + 0)), (1, .int x1_14), (2, .int x2_14)]) hx hb dX7_cost_39 hl (by decide) rfl (fun ls hl => ?_)
    refine lv_iload_n hx hb dX7_cost_41 rfl (lv_at hl 1 rfl) ?_
    obtain ⟨J52, eJ52, hf⟩ := jn_some hf
    have kJ52 : ∀ (t0_52 : Int32) (H : Heap) (locs : List Loc) (ls : Array Slot), J52 t0_52 = some (r, S1) → va_P D vwCl ((wM cI cO b) S_7) H → va_S (AM b) s.heap H locs → lv_has ls 6 [(0, .ref (b + 0)), (1, .int x1_14), (2, .int x2_14), (4, .int v36)] → W p l e rm_X7_cost s m args below meth c H locs 0 0 Q (F0 m 52 ls [.int t0_52]) := by
      intro t0_52 H locs ls hf hP hS hl
      rw [eJ52] at hf
      refine lv_iload hx hb dX7_cost_52 (lv_at hl 3 rfl) ?_
      obtain ⟨J65, eJ65, hf⟩ := jn_some hf
      have kJ65 : ∀ (t0_65 : Int32) (H : Heap) (locs : List Loc) (ls : Array Slot), J65 t0_65 = some (r, S1) → va_P D vwCl ((wM cI cO b) S_7) H → va_S (AM b) s.heap H locs → lv_has ls 6 [(0, .ref (b + 0)), (1, .int x1_14), (2, .int x2_14)] → W p l e rm_X7_cost s m args below meth c H locs 0 0 Q (F0 m 65 ls [.int t0_65, .int t0_52]) := by
        intro t0_65 H locs ls hf hP hS hl
        rw [eJ65] at hf
        refine lv_iadd hx hb dX7_cost_65 ?_
        obtain ⟨x5_66, ex5_66, hf⟩ := lt_some hf
        rw [← ex5_66]
        refine lv_istore (lv' := [(5, .int x5_66), (0, .ref (b + 0)), (1, .int x1_14), (2, .int x2_14)]) hx hb dX7_cost_66 hl (by decide) rfl (fun ls hl => ?_)
        refine lv_iload_n hx hb dX7_cost_68 rfl (lv_at hl 2 rfl) ?_
        refine lv_iload hx hb dX7_cost_69 (lv_at hl 0 rfl) ?_
        refine lv_bipush (v := 10) hx hb dX7_cost_71 (by decide) ?_
        obtain ⟨J83, eJ83, hf⟩ := jn_some hf
        have kJ83 : ∀ (t0_83 : Int32) (H : Heap) (locs : List Loc) (ls : Array Slot), J83 t0_83 = some (r, S1) → va_P D vwCl ((wM cI cO b) S_7) H → va_S (AM b) s.heap H locs → lv_has ls 6 [(0, .ref (b + 0)), (2, .int x2_14)] → W p l e rm_X7_cost s m args below meth c H locs 0 0 Q (F0 m 83 ls [.int t0_83, .int x1_14]) := by
          intro t0_83 H locs ls hf hP hS hl
          rw [eJ83] at hf
          refine lv_iadd hx hb dX7_cost_83 ?_
          obtain ⟨x1_84, ex1_84, hf⟩ := lt_some hf
          rw [← ex1_84]
          refine lv_istore_n (lv' := [(1, .int x1_84), (0, .ref (b + 0)), (2, .int x2_14)]) hx hb dX7_cost_84 rfl hl (by decide) rfl (fun ls hl => ?_)
          obtain ⟨x2_85, ex2_85, hf⟩ := lt_some hf
          refine lv_iinc (v := x2_85) (lv' := [(2, .int x2_85), (1, .int x1_84), (0, .ref (b + 0))]) hx hb dX7_cost_85 hl (k := 2) rfl (by rw [ex2_85]; rfl) (by decide) rfl (fun ls hl => ?_)
          refine lv_goto (tgt := 14) hx hb dX7_cost_88 (by decide) ?_
          exact ih14 _ _ hf _ _ _ hP hS (lv_sub hl [2, 1, 0] rfl)
        clear eJ83
        refine lv_icmp_ge (tgt := 81) hx hb dX7_cost_73 (by decide) (fun q => ?_) (fun q => ?_)
        · replace hf := ite_t q hf
          refine lv_bipush (v := 10) hx hb dX7_cost_81 (by decide) ?_
          exact kJ83 _ _ _ _ hf hP hS (lv_sub hl [1, 3] rfl)
        · replace hf := ite_f q hf
          refine lv_iload hx hb dX7_cost_76 (lv_at hl 0 rfl) ?_
          refine lv_goto (tgt := 83) hx hb dX7_cost_78 (by decide) ?_
          exact kJ83 _ _ _ _ hf hP hS (lv_sub hl [1, 3] rfl)
      clear eJ65
      refine lv_if_le (tgt := 64) hx hb dX7_cost_54 (by decide) (fun q => ?_) (fun q => ?_)
      · replace hf := ite_t q hf
        refine lv_iconst (v := 0) hx hb dX7_cost_64 (by decide) ?_
        exact kJ65 _ _ _ _ hf hP hS (lv_sub hl [0, 1, 2] rfl)
      · replace hf := ite_f q hf
        refine lv_iconst (v := 1) hx hb dX7_cost_57 (by decide) ?_
        refine lv_iload hx hb dX7_cost_58 (lv_at hl 3 rfl) ?_
        refine lv_iadd hx hb dX7_cost_60 ?_
        refine lv_goto (tgt := 65) hx hb dX7_cost_61 (by decide) ?_
        exact kJ65 _ _ _ _ hf hP hS (lv_sub hl [0, 1, 2] rfl)
    clear eJ52
    refine lv_if_le (tgt := 51) hx hb dX7_cost_42 (by decide) (fun q => ?_) (fun q => ?_)
    · replace hf := ite_t q hf
      refine lv_iconst (v := 0) hx hb dX7_cost_51 (by decide) ?_
      exact kJ52 _ _ _ _ hf hP hS (lv_sub hl [2, 3, 4, 0] rfl)
    · replace hf := ite_f q hf
      refine lv_iconst (v := 1) hx hb dX7_cost_45 (by decide) ?_
      refine lv_iload_n hx hb dX7_cost_46 rfl (lv_at hl 1 rfl) ?_
      refine lv_iadd hx hb dX7_cost_47 ?_
      refine lv_goto (tgt := 52) hx hb dX7_cost_48 (by decide) ?_
      exact kJ52 _ _ _ _ hf hP hS (lv_sub hl [2, 3, 4, 0] rfl)
abbrev rm_X7_lines : Room := { frames := 4, cells := 0, slots := 0, locals := 93 }
theorem hd_X7_lines : yX7_lines.cls = RX7 ∧ yX7_lines.cls ≠ "java/lang/invoke/MethodHandle" ∧ yX7_lines.cls ≠ "java/lang/invoke/VarHandle" ∧ (parseMethodDescriptor yX7_lines.desc).map (fun d => d.parameters.length) = some 1 := by decide +kernel
set_option maxRecDepth 100000 in
set_option maxHeartbeats 4000000 in
theorem c_X7_lines (l : Launch) (D : va_G) (cI cO : ClassId) (b : Nat) (S : St) (x1 : Int32) (r : Int32) (S1 : St) (hf : f_X7_lines S x1 = some (r, S1)) : Met l yX7_lines (Cond.code yX7_lines cX7_lines 2 (some .int) :: wsAll) rm_X7_lines (PX D (wM cI cO b) (tyM cI cO) S [.ref (b + 0), .int x1]) (Qi D (wM cI cO b) (tyM cI cO) (AM b) r S1) 0 0 (AM b) := by
  unfold f_X7_lines at hf
  refine g_met RX7 (by decide +kernel) (Nat.le_of_ble_eq_true rfl) rfl ?_
  intro p e s m args below meth c ls Q F hr hlocks hK hP hl hQ
  have hx := F.1
  have hb := F.2.1
  have hS : va_S (AM b) s.heap s.heap [] := va_S.rf
  have hl : lv_has ls 2 [(0, .ref (b + 0)), (1, .int x1)] := hl
  refine lv_aload_n hx hb dX7_lines_0 rfl (lv_at hl 0 rfl) ?_
  refine lv_iload_n hx hb dX7_lines_1 rfl (lv_at hl 1 rfl) ?_
  obtain ⟨v2, q2, hf⟩ := cl_some hf
  refine g_callSi F hK hP hS [.int x1] (c_X7_isSite l D cI cO b S x1 v2 q2) wd_855 wd_856 wd_9 wd_857 hd_X7_isSite rfl rfl ⟨Nat.le_of_ble_eq_true rfl, Nat.le_of_ble_eq_true rfl⟩ rfl hl (rest := [.ref (b + 0)]) rfl (Nat.le_of_ble_eq_true rfl) dX7_lines_2 ⟨Nat.zero_le _, Nat.zero_le _⟩ (fun H locs hP hS => ?_)
  obtain ⟨J13, eJ13, hf⟩ := jn_some hf
  have kJ13 : ∀ (t0_13 : Int32) (H : Heap) (locs : List Loc) (ls : Array Slot), J13 t0_13 = some (r, S1) → va_P D vwCl ((wM cI cO b) S) H → va_S (AM b) s.heap H locs → lv_has ls 2 [(0, .ref (b + 0)), (1, .int x1)] → W p l e rm_X7_lines s m args below meth c H locs 0 0 Q (F0 m 13 ls [.int t0_13, .ref (b + 0)]) := by
    intro t0_13 H locs ls hf hP hS hl
    rw [eJ13] at hf
    obtain ⟨v13, S_13, q13, hf⟩ := cl2_some hf
    refine g_calli F hK hP hS [.int t0_13] (c_X7_goesWell l D cI cO b S t0_13 v13 S_13 q13) wd_865 wd_867 wp_24 wd_9 wd_868 wM_o rfl hd_X7_goesWell rfl rfl ⟨Nat.le_of_ble_eq_true rfl, Nat.le_of_ble_eq_true rfl⟩ rfl hl (rest := []) rfl (Nat.le_of_ble_eq_true rfl) dX7_lines_13 ⟨Nat.le_of_ble_eq_true rfl, Nat.le_of_ble_eq_true rfl⟩ (fun H locs hP hS => ?_)
    refine lv_if_ne (tgt := 21) hx hb dX7_lines_16 (by decide) (fun q => ?_) (fun q => ?_)
    · replace hf := ite_t q hf
      refine lv_aload_n hx hb dX7_lines_21 rfl (lv_at hl 0 rfl) ?_
      refine lv_iload_n hx hb dX7_lines_22 rfl (lv_at hl 1 rfl) ?_
      obtain ⟨S_23, q23, hf⟩ := cl_some hf
      refine g_callv F hK hP hS [.int x1] (c_X7_arrange l D cI cO b S_13 x1 S_23 q23) wd_889 wd_891 wp_29 wd_9 wd_892 wM_o rfl hd_X7_arrange rfl rfl ⟨Nat.le_of_ble_eq_true rfl, Nat.le_of_ble_eq_true rfl⟩ rfl hl (rest := []) rfl (Nat.le_of_ble_eq_true rfl) dX7_lines_23 ⟨Nat.le_of_ble_eq_true rfl, Nat.le_of_ble_eq_true rfl⟩ (fun H locs hP hS => ?_)
      refine lv_aload_n hx hb dX7_lines_26 rfl (lv_at hl 0 rfl) ?_
      refine g_get F hK hP inA7 0 wM_o rfl 26 (by decide) wd_778 (v := .int (gi S_23 26)) rfl dX7_lines_27 ?_
      exact g_iret F hr hlocks hQ hK hP hS (Prod.mk.inj (Option.some.inj hf)).1 (Prod.mk.inj (Option.some.inj hf)).2 dX7_lines_30
    · replace hf := ite_f (fun h => h q) hf
      refine lv_iconst (v := 0) hx hb dX7_lines_19 (by decide) ?_
      exact g_iret F hr hlocks hQ hK hP hS (Prod.mk.inj (Option.some.inj hf)).1 (Prod.mk.inj (Option.some.inj hf)).2 dX7_lines_20
  clear eJ13
  refine lv_if_eq (tgt := 12) hx hb dX7_lines_5 (by decide) (fun q => ?_) (fun q => ?_)
  · replace hf := ite_t q hf
    refine lv_iconst (v := 1) hx hb dX7_lines_12 (by decide) ?_
    exact kJ13 _ _ _ _ hf hP hS (lv_sub hl [0, 1] rfl)
  · replace hf := ite_f q hf
    refine lv_iconst (v := 0) hx hb dX7_lines_8 (by decide) ?_
    refine lv_goto (tgt := 13) hx hb dX7_lines_9 (by decide) ?_
    exact kJ13 _ _ _ _ hf hP hS (lv_sub hl [0, 1] rfl)
abbrev rm_X7_lineAt : Room := { frames := 5, cells := 0, slots := 0, locals := 117 }
theorem hd_X7_lineAt : yX7_lineAt.cls = RX7 ∧ yX7_lineAt.cls ≠ "java/lang/invoke/MethodHandle" ∧ yX7_lineAt.cls ≠ "java/lang/invoke/VarHandle" ∧ (parseMethodDescriptor yX7_lineAt.desc).map (fun d => d.parameters.length) = some 3 := by decide +kernel
set_option maxRecDepth 100000 in
set_option maxHeartbeats 4000000 in
theorem c_X7_lineAt (l : Launch) (D : va_G) (cI cO : ClassId) (b : Nat) (S : St) (x1 : Int32) (x2 : Int32) (x3 : Int32) (r : Int32) (S1 : St) (hf : f_X7_lineAt S x1 x2 x3 = some (r, S1)) : Met l yX7_lineAt (Cond.code yX7_lineAt cX7_lineAt 5 (some .int) :: wsAll) rm_X7_lineAt (PX D (wM cI cO b) (tyM cI cO) S [.ref (b + 0), .int x1, .int x2, .int x3]) (Qi D (wM cI cO b) (tyM cI cO) (AM b) r S1) 0 0 (AM b) := by
  unfold f_X7_lineAt at hf
  refine g_met RX7 (by decide +kernel) (Nat.le_of_ble_eq_true rfl) rfl ?_
  intro p e s m args below meth c ls Q F hr hlocks hK hP hl hQ
  have hx := F.1
  have hb := F.2.1
  have hS : va_S (AM b) s.heap s.heap [] := va_S.rf
  have hl : lv_has ls 5 [(0, .ref (b + 0)), (1, .int x1), (2, .int x2), (3, .int x3)] := hl
  refine lv_iload_n hx hb dX7_lineAt_0 rfl (lv_at hl 1 rfl) ?_
  obtain ⟨v1, q1, hf⟩ := cl_some hf
  refine g_callSi F hK hP hS [.int x1] (c_X7_isSite l D cI cO b S x1 v1 q1) wd_855 wd_856 wd_9 wd_857 hd_X7_isSite rfl rfl ⟨Nat.le_of_ble_eq_true rfl, Nat.le_of_ble_eq_true rfl⟩ rfl hl (rest := []) rfl (Nat.le_of_ble_eq_true rfl) dX7_lineAt_1 ⟨Nat.zero_le _, Nat.zero_le _⟩ (fun H locs hP hS => ?_)
  obtain ⟨J15, eJ15, hf⟩ := jn_some hf
  have kJ15 : ∀ (H : Heap) (locs : List Loc) (ls : Array Slot), J15 = some (r, S1) → va_P D vwCl ((wM cI cO b) S) H → va_S (AM b) s.heap H locs → lv_has ls 5 [(0, .ref (b + 0)), (1, .int x1), (2, .int x2), (3, .int x3)] → W p l e rm_X7_lineAt s m args below meth c H locs 0 0 Q (F0 m 15 ls []) := by
    intro  H locs ls hf hP hS hl
    rw [eJ15] at hf
    refine lv_iconst (v := 0) hx hb dX7_lineAt_15 (by decide) ?_
    refine lv_istore (lv' := [(4, .int (0 : Int32)), (0, .ref (b + 0)), (1, .int x1), (2, .int x2), (3, .int x3)]) hx hb dX7_lineAt_16 hl (by decide) rfl (fun ls hl => ?_)
    refine lv_aload_n hx hb dX7_lineAt_18 rfl (lv_at hl 1 rfl) ?_
    refine lv_iload hx hb dX7_lineAt_19 (lv_at hl 0 rfl) ?_
    obtain ⟨J42, eJ42, hf⟩ := jn_some hf
    have kJ42 : ∀ (t0_42 : Int32) (H : Heap) (locs : List Loc) (ls : Array Slot), J42 t0_42 = some (r, S1) → va_P D vwCl ((wM cI cO b) S) H → va_S (AM b) s.heap H locs → lv_has ls 5 [(0, .ref (b + 0)), (1, .int x1), (2, .int x2), (3, .int x3)] → W p l e rm_X7_lineAt s m args below meth c H locs 0 0 Q (F0 m 42 ls [.int t0_42, .ref (b + 0)]) := by
      intro t0_42 H locs ls hf hP hS hl
      rw [eJ42] at hf
      obtain ⟨v42, S_42, q42, hf⟩ := cl2_some hf
      refine g_calli F hK hP hS [.int t0_42] (c_X7_goesWell l D cI cO b S t0_42 v42 S_42 q42) wd_865 wd_867 wp_24 wd_9 wd_868 wM_o rfl hd_X7_goesWell rfl rfl ⟨Nat.le_of_ble_eq_true rfl, Nat.le_of_ble_eq_true rfl⟩ rfl hl (rest := []) rfl (Nat.le_of_ble_eq_true rfl) dX7_lineAt_42 ⟨Nat.le_of_ble_eq_true rfl, Nat.le_of_ble_eq_true rfl⟩ (fun H locs hP hS => ?_)
      refine lv_if_ne (tgt := 50) hx hb dX7_lineAt_45 (by decide) (fun q => ?_) (fun q => ?_)
      · replace hf := ite_t q hf
        refine lv_aload_n hx hb dX7_lineAt_50 rfl (lv_at hl 0 rfl) ?_
        refine lv_iload_n hx hb dX7_lineAt_51 rfl (lv_at hl 1 rfl) ?_
        obtain ⟨S_52, q52, hf⟩ := cl_some hf
        refine g_callv F hK hP hS [.int x1] (c_X7_lay l D cI cO b S_42 x1 S_52 q52) wd_885 wd_887 wp_28 wd_9 wd_888 wM_o rfl hd_X7_lay rfl rfl ⟨Nat.le_of_ble_eq_true rfl, Nat.le_of_ble_eq_true rfl⟩ rfl hl (rest := []) rfl (Nat.le_of_ble_eq_true rfl) dX7_lineAt_52 ⟨Nat.le_of_ble_eq_true rfl, Nat.le_of_ble_eq_true rfl⟩ (fun H locs hP hS => ?_)
        refine lv_iload_n hx hb dX7_lineAt_55 rfl (lv_at hl 2 rfl) ?_
        refine lv_aload_n hx hb dX7_lineAt_56 rfl (lv_at hl 0 rfl) ?_
        refine g_get F hK hP inA7 0 wM_o rfl 26 (by decide) wd_778 (v := .int (gi S_52 26)) rfl dX7_lineAt_57 ?_
        refine lv_icmp_lt (tgt := 65) hx hb dX7_lineAt_60 (by decide) (fun q => ?_) (fun q => ?_)
        · replace hf := ite_t q hf
          refine lv_iload_n hx hb dX7_lineAt_65 rfl (lv_at hl 3 rfl) ?_
          refine lv_if_ne (tgt := 78) hx hb dX7_lineAt_66 (by decide) (fun q => ?_) (fun q => ?_)
          · replace hf := ite_t q hf
            refine lv_iload_n hx hb dX7_lineAt_78 rfl (lv_at hl 3 rfl) ?_
            refine lv_iconst (v := 1) hx hb dX7_lineAt_79 (by decide) ?_
            refine lv_icmp_ne (tgt := 97) hx hb dX7_lineAt_80 (by decide) (fun q => ?_) (fun q => ?_)
            · replace hf := ite_t q hf
              refine lv_iload_n hx hb dX7_lineAt_97 rfl (lv_at hl 3 rfl) ?_
              refine lv_iconst (v := 2) hx hb dX7_lineAt_98 (by decide) ?_
              refine lv_icmp_ne (tgt := 111) hx hb dX7_lineAt_99 (by decide) (fun q => ?_) (fun q => ?_)
              · replace hf := ite_t q hf
                refine lv_iload_n hx hb dX7_lineAt_111 rfl (lv_at hl 3 rfl) ?_
                refine lv_iconst (v := 3) hx hb dX7_lineAt_112 (by decide) ?_
                refine lv_icmp_ne (tgt := 132) hx hb dX7_lineAt_113 (by decide) (fun q => ?_) (fun q => ?_)
                · replace hf := ite_t q hf
                  refine lv_aload_n hx hb dX7_lineAt_132 rfl (lv_at hl 0 rfl) ?_
                  refine g_get F hK hP inA7 0 wM_o rfl 29 (by decide) wd_781 (v := .ref (b + 23)) rfl dX7_lineAt_133 ?_
                  refine lv_iload_n hx hb dX7_lineAt_136 rfl (lv_at hl 2 rfl) ?_
                  obtain ⟨hi, hf⟩ := ck_some hf
                  refine va_iald hx hb hK hP 23 0 wM_a29 rfl hi dX7_lineAt_137 ?_
                  exact g_iret F hr hlocks hQ hK hP hS (Prod.mk.inj (Option.some.inj hf)).1 (Prod.mk.inj (Option.some.inj hf)).2 dX7_lineAt_138
                · replace hf := ite_f (fun h => h q) hf
                  refine lv_aload_n hx hb dX7_lineAt_116 rfl (lv_at hl 0 rfl) ?_
                  refine lv_iload_n hx hb dX7_lineAt_117 rfl (lv_at hl 2 rfl) ?_
                  obtain ⟨v118, q118, hf⟩ := cl_some hf
                  refine g_calli F hK hP hS [.int x2] (c_X7_isBegun l D cI cO b S_52 x2 v118 q118) wd_921 wd_923 wp_37 wd_9 wd_924 wM_o rfl hd_X7_isBegun rfl rfl ⟨Nat.le_of_ble_eq_true rfl, Nat.le_of_ble_eq_true rfl⟩ rfl hl (rest := []) rfl (Nat.le_of_ble_eq_true rfl) dX7_lineAt_118 ⟨Nat.le_of_ble_eq_true rfl, Nat.le_of_ble_eq_true rfl⟩ (fun H locs hP hS => ?_)
                  refine lv_if_eq (tgt := 128) hx hb dX7_lineAt_121 (by decide) (fun q => ?_) (fun q => ?_)
                  · replace hf := ite_t q hf
                    refine lv_iconst (v := 0) hx hb dX7_lineAt_128 (by decide) ?_
                    refine lv_goto (tgt := 138) hx hb dX7_lineAt_129 (by decide) ?_
                    exact g_iret F hr hlocks hQ hK hP hS (Prod.mk.inj (Option.some.inj hf)).1 (Prod.mk.inj (Option.some.inj hf)).2 dX7_lineAt_138
                  · replace hf := ite_f q hf
                    refine lv_iconst (v := 1) hx hb dX7_lineAt_124 (by decide) ?_
                    refine lv_goto (tgt := 138) hx hb dX7_lineAt_125 (by decide) ?_
                    exact g_iret F hr hlocks hQ hK hP hS (Prod.mk.inj (Option.some.inj hf)).1 (Prod.mk.inj (Option.some.inj hf)).2 dX7_lineAt_138
              · replace hf := ite_f (fun h => h q) hf
                refine lv_aload_n hx hb dX7_lineAt_102 rfl (lv_at hl 0 rfl) ?_
                refine g_get F hK hP inA7 0 wM_o rfl 28 (by decide) wd_780 (v := .ref (b + 22)) rfl dX7_lineAt_103 ?_
                refine lv_iload_n hx hb dX7_lineAt_106 rfl (lv_at hl 2 rfl) ?_
                obtain ⟨hi, hf⟩ := ck_some hf
                refine va_iald hx hb hK hP 22 0 wM_a28 rfl hi dX7_lineAt_107 ?_
                refine lv_goto (tgt := 138) hx hb dX7_lineAt_108 (by decide) ?_
                exact g_iret F hr hlocks hQ hK hP hS (Prod.mk.inj (Option.some.inj hf)).1 (Prod.mk.inj (Option.some.inj hf)).2 dX7_lineAt_138
            · replace hf := ite_f (fun h => h q) hf
              refine lv_aload_n hx hb dX7_lineAt_83 rfl (lv_at hl 0 rfl) ?_
              refine g_get F hK hP inA7 0 wM_o rfl 10 (by decide) wd_762 (v := .ref (b + 8)) rfl dX7_lineAt_84 ?_
              refine lv_aload_n hx hb dX7_lineAt_87 rfl (lv_at hl 0 rfl) ?_
              refine g_get F hK hP inA7 0 wM_o rfl 27 (by decide) wd_779 (v := .ref (b + 21)) rfl dX7_lineAt_88 ?_
              refine lv_iload_n hx hb dX7_lineAt_91 rfl (lv_at hl 2 rfl) ?_
              obtain ⟨hi, hf⟩ := ck_some hf
              refine va_iald hx hb hK hP 21 0 wM_a27 rfl hi dX7_lineAt_92 ?_
              obtain ⟨hi, hf⟩ := ck_some hf
              refine va_iald hx hb hK hP 8 0 wM_a10 rfl hi dX7_lineAt_93 ?_
              refine lv_goto (tgt := 138) hx hb dX7_lineAt_94 (by decide) ?_
              exact g_iret F hr hlocks hQ hK hP hS (Prod.mk.inj (Option.some.inj hf)).1 (Prod.mk.inj (Option.some.inj hf)).2 dX7_lineAt_138
          · replace hf := ite_f (fun h => h q) hf
            refine lv_aload_n hx hb dX7_lineAt_69 rfl (lv_at hl 0 rfl) ?_
            refine g_get F hK hP inA7 0 wM_o rfl 27 (by decide) wd_779 (v := .ref (b + 21)) rfl dX7_lineAt_70 ?_
            refine lv_iload_n hx hb dX7_lineAt_73 rfl (lv_at hl 2 rfl) ?_
            obtain ⟨hi, hf⟩ := ck_some hf
            refine va_iald hx hb hK hP 21 0 wM_a27 rfl hi dX7_lineAt_74 ?_
            refine lv_goto (tgt := 138) hx hb dX7_lineAt_75 (by decide) ?_
            exact g_iret F hr hlocks hQ hK hP hS (Prod.mk.inj (Option.some.inj hf)).1 (Prod.mk.inj (Option.some.inj hf)).2 dX7_lineAt_138
        · replace hf := ite_f q hf
          refine lv_iconst (v := -1) hx hb dX7_lineAt_63 (by decide) ?_
          exact g_iret F hr hlocks hQ hK hP hS (Prod.mk.inj (Option.some.inj hf)).1 (Prod.mk.inj (Option.some.inj hf)).2 dX7_lineAt_64
      · replace hf := ite_f (fun h => h q) hf
        refine lv_iconst (v := 0) hx hb dX7_lineAt_48 (by decide) ?_
        exact g_iret F hr hlocks hQ hK hP hS (Prod.mk.inj (Option.some.inj hf)).1 (Prod.mk.inj (Option.some.inj hf)).2 dX7_lineAt_49
    clear eJ42
    refine lv_if_ne (tgt := 28) hx hb dX7_lineAt_21 (by decide) (fun q => ?_) (fun q => ?_)
    · replace hf := ite_t q hf
      refine lv_iload_n hx hb dX7_lineAt_28 rfl (lv_at hl 4 rfl) ?_
      refine lv_iconst (v := 0) hx hb dX7_lineAt_29 (by decide) ?_
      refine lv_iconst (v := 4) hx hb dX7_lineAt_30 (by decide) ?_
      obtain ⟨v31, q31, hf⟩ := cl_some hf
      refine g_callSi F hK hP hS [.int x3, .int (0 : Int32), .int (4 : Int32)] (c_X7_in l D cI cO b S x3 (0 : Int32) (4 : Int32) v31 q31) wd_858 wd_859 wd_9 wd_860 hd_X7_in rfl rfl ⟨Nat.le_of_ble_eq_true rfl, Nat.le_of_ble_eq_true rfl⟩ rfl hl (rest := [.ref (b + 0)]) rfl (Nat.le_of_ble_eq_true rfl) dX7_lineAt_31 ⟨Nat.zero_le _, Nat.zero_le _⟩ (fun H locs hP hS => ?_)
      refine lv_if_eq (tgt := 41) hx hb dX7_lineAt_34 (by decide) (fun q => ?_) (fun q => ?_)
      · replace hf := ite_t q hf
        refine lv_iconst (v := 2) hx hb dX7_lineAt_41 (by decide) ?_
        exact kJ42 _ _ _ _ hf hP hS (lv_sub hl [1, 2, 3, 4] rfl)
      · replace hf := ite_f q hf
        refine lv_iconst (v := 0) hx hb dX7_lineAt_37 (by decide) ?_
        refine lv_goto (tgt := 42) hx hb dX7_lineAt_38 (by decide) ?_
        exact kJ42 _ _ _ _ hf hP hS (lv_sub hl [1, 2, 3, 4] rfl)
    · replace hf := ite_f (fun h => h q) hf
      refine lv_iconst (v := 1) hx hb dX7_lineAt_24 (by decide) ?_
      refine lv_goto (tgt := 42) hx hb dX7_lineAt_25 (by decide) ?_
      exact kJ42 _ _ _ _ hf hP hS (lv_sub hl [1, 2, 3, 4] rfl)
  clear eJ15
  obtain ⟨J16, eJ16, hf⟩ := jn_some hf
  have kJ16 : ∀ (t0_16 : Int32) (H : Heap) (locs : List Loc) (ls : Array Slot), J16 t0_16 = some (r, S1) → va_P D vwCl ((wM cI cO b) S) H → va_S (AM b) s.heap H locs → lv_has ls 5 [(0, .ref (b + 0)), (1, .int x1), (2, .int x2), (3, .int x3)] → W p l e rm_X7_lineAt s m args below meth c H locs 0 0 Q (F0 m 16 ls [.int t0_16]) := by
    intro t0_16 H locs ls hf hP hS hl
    rw [eJ16] at hf
    refine lv_istore (lv' := [(4, .int t0_16), (0, .ref (b + 0)), (1, .int x1), (2, .int x2), (3, .int x3)]) hx hb dX7_lineAt_16 hl (by decide) rfl (fun ls hl => ?_)
    refine lv_aload_n hx hb dX7_lineAt_18 rfl (lv_at hl 1 rfl) ?_
    refine lv_iload hx hb dX7_lineAt_19 (lv_at hl 0 rfl) ?_
    obtain ⟨J42, eJ42, hf⟩ := jn_some hf
    have kJ42 : ∀ (t0_42 : Int32) (H : Heap) (locs : List Loc) (ls : Array Slot), J42 t0_42 = some (r, S1) → va_P D vwCl ((wM cI cO b) S) H → va_S (AM b) s.heap H locs → lv_has ls 5 [(0, .ref (b + 0)), (1, .int x1), (2, .int x2), (3, .int x3)] → W p l e rm_X7_lineAt s m args below meth c H locs 0 0 Q (F0 m 42 ls [.int t0_42, .ref (b + 0)]) := by
      intro t0_42 H locs ls hf hP hS hl
      rw [eJ42] at hf
      obtain ⟨v42, S_42, q42, hf⟩ := cl2_some hf
      refine g_calli F hK hP hS [.int t0_42] (c_X7_goesWell l D cI cO b S t0_42 v42 S_42 q42) wd_865 wd_867 wp_24 wd_9 wd_868 wM_o rfl hd_X7_goesWell rfl rfl ⟨Nat.le_of_ble_eq_true rfl, Nat.le_of_ble_eq_true rfl⟩ rfl hl (rest := []) rfl (Nat.le_of_ble_eq_true rfl) dX7_lineAt_42 ⟨Nat.le_of_ble_eq_true rfl, Nat.le_of_ble_eq_true rfl⟩ (fun H locs hP hS => ?_)
      refine lv_if_ne (tgt := 50) hx hb dX7_lineAt_45 (by decide) (fun q => ?_) (fun q => ?_)
      · replace hf := ite_t q hf
        refine lv_aload_n hx hb dX7_lineAt_50 rfl (lv_at hl 0 rfl) ?_
        refine lv_iload_n hx hb dX7_lineAt_51 rfl (lv_at hl 1 rfl) ?_
        obtain ⟨S_52, q52, hf⟩ := cl_some hf
        refine g_callv F hK hP hS [.int x1] (c_X7_lay l D cI cO b S_42 x1 S_52 q52) wd_885 wd_887 wp_28 wd_9 wd_888 wM_o rfl hd_X7_lay rfl rfl ⟨Nat.le_of_ble_eq_true rfl, Nat.le_of_ble_eq_true rfl⟩ rfl hl (rest := []) rfl (Nat.le_of_ble_eq_true rfl) dX7_lineAt_52 ⟨Nat.le_of_ble_eq_true rfl, Nat.le_of_ble_eq_true rfl⟩ (fun H locs hP hS => ?_)
        refine lv_iload_n hx hb dX7_lineAt_55 rfl (lv_at hl 2 rfl) ?_
        refine lv_aload_n hx hb dX7_lineAt_56 rfl (lv_at hl 0 rfl) ?_
        refine g_get F hK hP inA7 0 wM_o rfl 26 (by decide) wd_778 (v := .int (gi S_52 26)) rfl dX7_lineAt_57 ?_
        refine lv_icmp_lt (tgt := 65) hx hb dX7_lineAt_60 (by decide) (fun q => ?_) (fun q => ?_)
        · replace hf := ite_t q hf
          refine lv_iload_n hx hb dX7_lineAt_65 rfl (lv_at hl 3 rfl) ?_
          refine lv_if_ne (tgt := 78) hx hb dX7_lineAt_66 (by decide) (fun q => ?_) (fun q => ?_)
          · replace hf := ite_t q hf
            refine lv_iload_n hx hb dX7_lineAt_78 rfl (lv_at hl 3 rfl) ?_
            refine lv_iconst (v := 1) hx hb dX7_lineAt_79 (by decide) ?_
            refine lv_icmp_ne (tgt := 97) hx hb dX7_lineAt_80 (by decide) (fun q => ?_) (fun q => ?_)
            · replace hf := ite_t q hf
              refine lv_iload_n hx hb dX7_lineAt_97 rfl (lv_at hl 3 rfl) ?_
              refine lv_iconst (v := 2) hx hb dX7_lineAt_98 (by decide) ?_
              refine lv_icmp_ne (tgt := 111) hx hb dX7_lineAt_99 (by decide) (fun q => ?_) (fun q => ?_)
              · replace hf := ite_t q hf
                refine lv_iload_n hx hb dX7_lineAt_111 rfl (lv_at hl 3 rfl) ?_
                refine lv_iconst (v := 3) hx hb dX7_lineAt_112 (by decide) ?_
                refine lv_icmp_ne (tgt := 132) hx hb dX7_lineAt_113 (by decide) (fun q => ?_) (fun q => ?_)
                · replace hf := ite_t q hf
                  refine lv_aload_n hx hb dX7_lineAt_132 rfl (lv_at hl 0 rfl) ?_
                  refine g_get F hK hP inA7 0 wM_o rfl 29 (by decide) wd_781 (v := .ref (b + 23)) rfl dX7_lineAt_133 ?_
                  refine lv_iload_n hx hb dX7_lineAt_136 rfl (lv_at hl 2 rfl) ?_
                  obtain ⟨hi, hf⟩ := ck_some hf
                  refine va_iald hx hb hK hP 23 0 wM_a29 rfl hi dX7_lineAt_137 ?_
                  exact g_iret F hr hlocks hQ hK hP hS (Prod.mk.inj (Option.some.inj hf)).1 (Prod.mk.inj (Option.some.inj hf)).2 dX7_lineAt_138
                · replace hf := ite_f (fun h => h q) hf
                  refine lv_aload_n hx hb dX7_lineAt_116 rfl (lv_at hl 0 rfl) ?_
                  refine lv_iload_n hx hb dX7_lineAt_117 rfl (lv_at hl 2 rfl) ?_
                  obtain ⟨v118, q118, hf⟩ := cl_some hf
                  refine g_calli F hK hP hS [.int x2] (c_X7_isBegun l D cI cO b S_52 x2 v118 q118) wd_921 wd_923 wp_37 wd_9 wd_924 wM_o rfl hd_X7_isBegun rfl rfl ⟨Nat.le_of_ble_eq_true rfl, Nat.le_of_ble_eq_true rfl⟩ rfl hl (rest := []) rfl (Nat.le_of_ble_eq_true rfl) dX7_lineAt_118 ⟨Nat.le_of_ble_eq_true rfl, Nat.le_of_ble_eq_true rfl⟩ (fun H locs hP hS => ?_)
                  refine lv_if_eq (tgt := 128) hx hb dX7_lineAt_121 (by decide) (fun q => ?_) (fun q => ?_)
                  · replace hf := ite_t q hf
                    refine lv_iconst (v := 0) hx hb dX7_lineAt_128 (by decide) ?_
                    refine lv_goto (tgt := 138) hx hb dX7_lineAt_129 (by decide) ?_
                    exact g_iret F hr hlocks hQ hK hP hS (Prod.mk.inj (Option.some.inj hf)).1 (Prod.mk.inj (Option.some.inj hf)).2 dX7_lineAt_138
                  · replace hf := ite_f q hf
                    refine lv_iconst (v := 1) hx hb dX7_lineAt_124 (by decide) ?_
                    refine lv_goto (tgt := 138) hx hb dX7_lineAt_125 (by decide) ?_
                    exact g_iret F hr hlocks hQ hK hP hS (Prod.mk.inj (Option.some.inj hf)).1 (Prod.mk.inj (Option.some.inj hf)).2 dX7_lineAt_138
              · replace hf := ite_f (fun h => h q) hf
                refine lv_aload_n hx hb dX7_lineAt_102 rfl (lv_at hl 0 rfl) ?_
                refine g_get F hK hP inA7 0 wM_o rfl 28 (by decide) wd_780 (v := .ref (b + 22)) rfl dX7_lineAt_103 ?_
                refine lv_iload_n hx hb dX7_lineAt_106 rfl (lv_at hl 2 rfl) ?_
                obtain ⟨hi, hf⟩ := ck_some hf
                refine va_iald hx hb hK hP 22 0 wM_a28 rfl hi dX7_lineAt_107 ?_
                refine lv_goto (tgt := 138) hx hb dX7_lineAt_108 (by decide) ?_
                exact g_iret F hr hlocks hQ hK hP hS (Prod.mk.inj (Option.some.inj hf)).1 (Prod.mk.inj (Option.some.inj hf)).2 dX7_lineAt_138
            · replace hf := ite_f (fun h => h q) hf
              refine lv_aload_n hx hb dX7_lineAt_83 rfl (lv_at hl 0 rfl) ?_
              refine g_get F hK hP inA7 0 wM_o rfl 10 (by decide) wd_762 (v := .ref (b + 8)) rfl dX7_lineAt_84 ?_
              refine lv_aload_n hx hb dX7_lineAt_87 rfl (lv_at hl 0 rfl) ?_
              refine g_get F hK hP inA7 0 wM_o rfl 27 (by decide) wd_779 (v := .ref (b + 21)) rfl dX7_lineAt_88 ?_
              refine lv_iload_n hx hb dX7_lineAt_91 rfl (lv_at hl 2 rfl) ?_
              obtain ⟨hi, hf⟩ := ck_some hf
              refine va_iald hx hb hK hP 21 0 wM_a27 rfl hi dX7_lineAt_92 ?_
              obtain ⟨hi, hf⟩ := ck_some hf
              refine va_iald hx hb hK hP 8 0 wM_a10 rfl hi dX7_lineAt_93 ?_
              refine lv_goto (tgt := 138) hx hb dX7_lineAt_94 (by decide) ?_
              exact g_iret F hr hlocks hQ hK hP hS (Prod.mk.inj (Option.some.inj hf)).1 (Prod.mk.inj (Option.some.inj hf)).2 dX7_lineAt_138
          · replace hf := ite_f (fun h => h q) hf
            refine lv_aload_n hx hb dX7_lineAt_69 rfl (lv_at hl 0 rfl) ?_
            refine g_get F hK hP inA7 0 wM_o rfl 27 (by decide) wd_779 (v := .ref (b + 21)) rfl dX7_lineAt_70 ?_
            refine lv_iload_n hx hb dX7_lineAt_73 rfl (lv_at hl 2 rfl) ?_
            obtain ⟨hi, hf⟩ := ck_some hf
            refine va_iald hx hb hK hP 21 0 wM_a27 rfl hi dX7_lineAt_74 ?_
            refine lv_goto (tgt := 138) hx hb dX7_lineAt_75 (by decide) ?_
            exact g_iret F hr hlocks hQ hK hP hS (Prod.mk.inj (Option.some.inj hf)).1 (Prod.mk.inj (Option.some.inj hf)).2 dX7_lineAt_138
        · replace hf := ite_f q hf
          refine lv_iconst (v := -1) hx hb dX7_lineAt_63 (by decide) ?_
          exact g_iret F hr hlocks hQ hK hP hS (Prod.mk.inj (Option.some.inj hf)).1 (Prod.mk.inj (Option.some.inj hf)).2 dX7_lineAt_64
      · replace hf := ite_f (fun h => h q) hf
        refine lv_iconst (v := 0) hx hb dX7_lineAt_48 (by decide) ?_
        exact g_iret F hr hlocks hQ hK hP hS (Prod.mk.inj (Option.some.inj hf)).1 (Prod.mk.inj (Option.some.inj hf)).2 dX7_lineAt_49
    clear eJ42
    refine lv_if_ne (tgt := 28) hx hb dX7_lineAt_21 (by decide) (fun q => ?_) (fun q => ?_)
    · replace hf := ite_t q hf
      refine lv_iload_n hx hb dX7_lineAt_28 rfl (lv_at hl 4 rfl) ?_
      refine lv_iconst (v := 0) hx hb dX7_lineAt_29 (by decide) ?_
      refine lv_iconst (v := 4) hx hb dX7_lineAt_30 (by decide) ?_
      obtain ⟨v31, q31, hf⟩ := cl_some hf
      refine g_callSi F hK hP hS [.int x3, .int (0 : Int32), .int (4 : Int32)] (c_X7_in l D cI cO b S x3 (0 : Int32) (4 : Int32) v31 q31) wd_858 wd_859 wd_9 wd_860 hd_X7_in rfl rfl ⟨Nat.le_of_ble_eq_true rfl, Nat.le_of_ble_eq_true rfl⟩ rfl hl (rest := [.ref (b + 0)]) rfl (Nat.le_of_ble_eq_true rfl) dX7_lineAt_31 ⟨Nat.zero_le _, Nat.zero_le _⟩ (fun H locs hP hS => ?_)
      refine lv_if_eq (tgt := 41) hx hb dX7_lineAt_34 (by decide) (fun q => ?_) (fun q => ?_)
      · replace hf := ite_t q hf
        refine lv_iconst (v := 2) hx hb dX7_lineAt_41 (by decide) ?_
        exact kJ42 _ _ _ _ hf hP hS (lv_sub hl [1, 2, 3, 4] rfl)
      · replace hf := ite_f q hf
        refine lv_iconst (v := 0) hx hb dX7_lineAt_37 (by decide) ?_
        refine lv_goto (tgt := 42) hx hb dX7_lineAt_38 (by decide) ?_
        exact kJ42 _ _ _ _ hf hP hS (lv_sub hl [1, 2, 3, 4] rfl)
    · replace hf := ite_f (fun h => h q) hf
      refine lv_iconst (v := 1) hx hb dX7_lineAt_24 (by decide) ?_
      refine lv_goto (tgt := 42) hx hb dX7_lineAt_25 (by decide) ?_
      exact kJ42 _ _ _ _ hf hP hS (lv_sub hl [1, 2, 3, 4] rfl)
  clear eJ16
  refine lv_if_eq (tgt := 15) hx hb dX7_lineAt_4 (by decide) (fun q => ?_) (fun q => ?_)
  · replace hf := ite_t q hf
    exact kJ15 _ _ _ hf hP hS (lv_sub hl [0, 1, 2, 3] rfl)
  · replace hf := ite_f q hf
    refine lv_iload_n hx hb dX7_lineAt_7 rfl (lv_at hl 2 rfl) ?_
    refine lv_if_lt (tgt := 15) hx hb dX7_lineAt_8 (by decide) (fun q => ?_) (fun q => ?_)
    · replace hf := ite_t q hf
      exact kJ15 _ _ _ hf hP hS (lv_sub hl [0, 1, 2, 3] rfl)
    · replace hf := ite_f q hf
      refine lv_iconst (v := 1) hx hb dX7_lineAt_11 (by decide) ?_
      refine lv_goto (tgt := 16) hx hb dX7_lineAt_12 (by decide) ?_
      exact kJ16 _ _ _ _ hf hP hS (lv_sub hl [0, 1, 2, 3] rfl)
abbrev rm_X7_lineAnew : Room := { frames := 4, cells := 0, slots := 0, locals := 93 }
theorem hd_X7_lineAnew : yX7_lineAnew.cls = RX7 ∧ yX7_lineAnew.cls ≠ "java/lang/invoke/MethodHandle" ∧ yX7_lineAnew.cls ≠ "java/lang/invoke/VarHandle" ∧ (parseMethodDescriptor yX7_lineAnew.desc).map (fun d => d.parameters.length) = some 2 := by decide +kernel
set_option maxRecDepth 100000 in
set_option maxHeartbeats 4000000 in
theorem c_X7_lineAnew (l : Launch) (D : va_G) (cI cO : ClassId) (b : Nat) (S : St) (x1 : Int32) (x2 : Int32) (r : Int32) (S1 : St) (hf : f_X7_lineAnew S x1 x2 = some (r, S1)) : Met l yX7_lineAnew (Cond.code yX7_lineAnew cX7_lineAnew 3 (some .int) :: wsAll) rm_X7_lineAnew (PX D (wM cI cO b) (tyM cI cO) S [.ref (b + 0), .int x1, .int x2]) (Qi D (wM cI cO b) (tyM cI cO) (AM b) r S1) 0 0 (AM b) := by
  unfold f_X7_lineAnew at hf
  refine g_met RX7 (by decide +kernel) (Nat.le_of_ble_eq_true rfl) rfl ?_
  intro p e s m args below meth c ls Q F hr hlocks hK hP hl hQ
  have hx := F.1
  have hb := F.2.1
  have hS : va_S (AM b) s.heap s.heap [] := va_S.rf
  have hl : lv_has ls 3 [(0, .ref (b + 0)), (1, .int x1), (2, .int x2)] := hl
  refine lv_aload_n hx hb dX7_lineAnew_0 rfl (lv_at hl 0 rfl) ?_
  refine lv_iload_n hx hb dX7_lineAnew_1 rfl (lv_at hl 1 rfl) ?_
  obtain ⟨v2, q2, hf⟩ := cl_some hf
  refine g_callSi F hK hP hS [.int x1] (c_X7_isSite l D cI cO b S x1 v2 q2) wd_855 wd_856 wd_9 wd_857 hd_X7_isSite rfl rfl ⟨Nat.le_of_ble_eq_true rfl, Nat.le_of_ble_eq_true rfl⟩ rfl hl (rest := [.ref (b + 0)]) rfl (Nat.le_of_ble_eq_true rfl) dX7_lineAnew_2 ⟨Nat.zero_le _, Nat.zero_le _⟩ (fun H locs hP hS => ?_)
  obtain ⟨J16, eJ16, hf⟩ := jn_some hf
  have kJ16 : ∀ (H : Heap) (locs : List Loc) (ls : Array Slot), J16 = some (r, S1) → va_P D vwCl ((wM cI cO b) S) H → va_S (AM b) s.heap H locs → lv_has ls 3 [(0, .ref (b + 0)), (1, .int x1), (2, .int x2)] → W p l e rm_X7_lineAnew s m args below meth c H locs 0 0 Q (F0 m 16 ls [.ref (b + 0)]) := by
    intro  H locs ls hf hP hS hl
    rw [eJ16] at hf
    refine lv_iconst (v := 1) hx hb dX7_lineAnew_16 (by decide) ?_
    obtain ⟨v17, S_17, q17, hf⟩ := cl2_some hf
    refine g_calli F hK hP hS [.int (1 : Int32)] (c_X7_goesWell l D cI cO b S (1 : Int32) v17 S_17 q17) wd_865 wd_867 wp_24 wd_9 wd_868 wM_o rfl hd_X7_goesWell rfl rfl ⟨Nat.le_of_ble_eq_true rfl, Nat.le_of_ble_eq_true rfl⟩ rfl hl (rest := []) rfl (Nat.le_of_ble_eq_true rfl) dX7_lineAnew_17 ⟨Nat.le_of_ble_eq_true rfl, Nat.le_of_ble_eq_true rfl⟩ (fun H locs hP hS => ?_)
    refine lv_if_ne (tgt := 25) hx hb dX7_lineAnew_20 (by decide) (fun q => ?_) (fun q => ?_)
    · replace hf := ite_t q hf
      refine lv_aload_n hx hb dX7_lineAnew_25 rfl (lv_at hl 0 rfl) ?_
      refine lv_iload_n hx hb dX7_lineAnew_26 rfl (lv_at hl 1 rfl) ?_
      obtain ⟨S_27, q27, hf⟩ := cl_some hf
      refine g_callv F hK hP hS [.int x1] (c_X7_arrange l D cI cO b S_17 x1 S_27 q27) wd_889 wd_891 wp_29 wd_9 wd_892 wM_o rfl hd_X7_arrange rfl rfl ⟨Nat.le_of_ble_eq_true rfl, Nat.le_of_ble_eq_true rfl⟩ rfl hl (rest := []) rfl (Nat.le_of_ble_eq_true rfl) dX7_lineAnew_27 ⟨Nat.le_of_ble_eq_true rfl, Nat.le_of_ble_eq_true rfl⟩ (fun H locs hP hS => ?_)
      refine lv_iload_n hx hb dX7_lineAnew_30 rfl (lv_at hl 2 rfl) ?_
      refine lv_aload_n hx hb dX7_lineAnew_31 rfl (lv_at hl 0 rfl) ?_
      refine g_get F hK hP inA7 0 wM_o rfl 26 (by decide) wd_778 (v := .int (gi S_27 26)) rfl dX7_lineAnew_32 ?_
      refine lv_icmp_ge (tgt := 47) hx hb dX7_lineAnew_35 (by decide) (fun q => ?_) (fun q => ?_)
      · replace hf := ite_t q hf
        refine lv_iconst (v := -1) hx hb dX7_lineAnew_47 (by decide) ?_
        exact g_iret F hr hlocks hQ hK hP hS (Prod.mk.inj (Option.some.inj hf)).1 (Prod.mk.inj (Option.some.inj hf)).2 dX7_lineAnew_48
      · replace hf := ite_f q hf
        refine lv_aload_n hx hb dX7_lineAnew_38 rfl (lv_at hl 0 rfl) ?_
        refine g_get F hK hP inA7 0 wM_o rfl 27 (by decide) wd_779 (v := .ref (b + 21)) rfl dX7_lineAnew_39 ?_
        refine lv_iload_n hx hb dX7_lineAnew_42 rfl (lv_at hl 2 rfl) ?_
        obtain ⟨hi, hf⟩ := ck_some hf
        refine va_iald hx hb hK hP 21 0 wM_a27 rfl hi dX7_lineAnew_43 ?_
        refine lv_goto (tgt := 48) hx hb dX7_lineAnew_44 (by decide) ?_
        exact g_iret F hr hlocks hQ hK hP hS (Prod.mk.inj (Option.some.inj hf)).1 (Prod.mk.inj (Option.some.inj hf)).2 dX7_lineAnew_48
    · replace hf := ite_f (fun h => h q) hf
      refine lv_iconst (v := 0) hx hb dX7_lineAnew_23 (by decide) ?_
      exact g_iret F hr hlocks hQ hK hP hS (Prod.mk.inj (Option.some.inj hf)).1 (Prod.mk.inj (Option.some.inj hf)).2 dX7_lineAnew_24
  clear eJ16
  obtain ⟨J17, eJ17, hf⟩ := jn_some hf
  have kJ17 : ∀ (t0_17 : Int32) (H : Heap) (locs : List Loc) (ls : Array Slot), J17 t0_17 = some (r, S1) → va_P D vwCl ((wM cI cO b) S) H → va_S (AM b) s.heap H locs → lv_has ls 3 [(0, .ref (b + 0)), (1, .int x1), (2, .int x2)] → W p l e rm_X7_lineAnew s m args below meth c H locs 0 0 Q (F0 m 17 ls [.int t0_17, .ref (b + 0)]) := by
    intro t0_17 H locs ls hf hP hS hl
    rw [eJ17] at hf
    obtain ⟨v17, S_17, q17, hf⟩ := cl2_some hf
    refine g_calli F hK hP hS [.int t0_17] (c_X7_goesWell l D cI cO b S t0_17 v17 S_17 q17) wd_865 wd_867 wp_24 wd_9 wd_868 wM_o rfl hd_X7_goesWell rfl rfl ⟨Nat.le_of_ble_eq_true rfl, Nat.le_of_ble_eq_true rfl⟩ rfl hl (rest := []) rfl (Nat.le_of_ble_eq_true rfl) dX7_lineAnew_17 ⟨Nat.le_of_ble_eq_true rfl, Nat.le_of_ble_eq_true rfl⟩ (fun H locs hP hS => ?_)
    refine lv_if_ne (tgt := 25) hx hb dX7_lineAnew_20 (by decide) (fun q => ?_) (fun q => ?_)
    · replace hf := ite_t q hf
      refine lv_aload_n hx hb dX7_lineAnew_25 rfl (lv_at hl 0 rfl) ?_
      refine lv_iload_n hx hb dX7_lineAnew_26 rfl (lv_at hl 1 rfl) ?_
      obtain ⟨S_27, q27, hf⟩ := cl_some hf
      refine g_callv F hK hP hS [.int x1] (c_X7_arrange l D cI cO b S_17 x1 S_27 q27) wd_889 wd_891 wp_29 wd_9 wd_892 wM_o rfl hd_X7_arrange rfl rfl ⟨Nat.le_of_ble_eq_true rfl, Nat.le_of_ble_eq_true rfl⟩ rfl hl (rest := []) rfl (Nat.le_of_ble_eq_true rfl) dX7_lineAnew_27 ⟨Nat.le_of_ble_eq_true rfl, Nat.le_of_ble_eq_true rfl⟩ (fun H locs hP hS => ?_)
      refine lv_iload_n hx hb dX7_lineAnew_30 rfl (lv_at hl 2 rfl) ?_
      refine lv_aload_n hx hb dX7_lineAnew_31 rfl (lv_at hl 0 rfl) ?_
      refine g_get F hK hP inA7 0 wM_o rfl 26 (by decide) wd_778 (v := .int (gi S_27 26)) rfl dX7_lineAnew_32 ?_
      refine lv_icmp_ge (tgt := 47) hx hb dX7_lineAnew_35 (by decide) (fun q => ?_) (fun q => ?_)
      · replace hf := ite_t q hf
        refine lv_iconst (v := -1) hx hb dX7_lineAnew_47 (by decide) ?_
        exact g_iret F hr hlocks hQ hK hP hS (Prod.mk.inj (Option.some.inj hf)).1 (Prod.mk.inj (Option.some.inj hf)).2 dX7_lineAnew_48
      · replace hf := ite_f q hf
        refine lv_aload_n hx hb dX7_lineAnew_38 rfl (lv_at hl 0 rfl) ?_
        refine g_get F hK hP inA7 0 wM_o rfl 27 (by decide) wd_779 (v := .ref (b + 21)) rfl dX7_lineAnew_39 ?_
        refine lv_iload_n hx hb dX7_lineAnew_42 rfl (lv_at hl 2 rfl) ?_
        obtain ⟨hi, hf⟩ := ck_some hf
        refine va_iald hx hb hK hP 21 0 wM_a27 rfl hi dX7_lineAnew_43 ?_
        refine lv_goto (tgt := 48) hx hb dX7_lineAnew_44 (by decide) ?_
        exact g_iret F hr hlocks hQ hK hP hS (Prod.mk.inj (Option.some.inj hf)).1 (Prod.mk.inj (Option.some.inj hf)).2 dX7_lineAnew_48
    · replace hf := ite_f (fun h => h q) hf
      refine lv_iconst (v := 0) hx hb dX7_lineAnew_23 (by decide) ?_
      exact g_iret F hr hlocks hQ hK hP hS (Prod.mk.inj (Option.some.inj hf)).1 (Prod.mk.inj (Option.some.inj hf)).2 dX7_lineAnew_24
  clear eJ17
  refine lv_if_eq (tgt := 16) hx hb dX7_lineAnew_5 (by decide) (fun q => ?_) (fun q => ?_)
  · replace hf := ite_t q hf
    exact kJ16 _ _ _ hf hP hS (lv_sub hl [0, 1, 2] rfl)
  · replace hf := ite_f q hf
    refine lv_iload_n hx hb dX7_lineAnew_8 rfl (lv_at hl 2 rfl) ?_
    refine lv_if_lt (tgt := 16) hx hb dX7_lineAnew_9 (by decide) (fun q => ?_) (fun q => ?_)
    · replace hf := ite_t q hf
      exact kJ16 _ _ _ hf hP hS (lv_sub hl [0, 1, 2] rfl)
    · replace hf := ite_f q hf
      refine lv_iconst (v := 0) hx hb dX7_lineAnew_12 (by decide) ?_
      refine lv_goto (tgt := 17) hx hb dX7_lineAnew_13 (by decide) ?_
      exact kJ17 _ _ _ _ hf hP hS (lv_sub hl [0, 1, 2] rfl)
abbrev rm_X7_noteAt : Room := { frames := 4, cells := 0, slots := 0, locals := 93 }
theorem hd_X7_noteAt : yX7_noteAt.cls = RX7 ∧ yX7_noteAt.cls ≠ "java/lang/invoke/MethodHandle" ∧ yX7_noteAt.cls ≠ "java/lang/invoke/VarHandle" ∧ (parseMethodDescriptor yX7_noteAt.desc).map (fun d => d.parameters.length) = some 2 := by decide +kernel
set_option maxRecDepth 100000 in
set_option maxHeartbeats 4000000 in
theorem c_X7_noteAt (l : Launch) (D : va_G) (cI cO : ClassId) (b : Nat) (S : St) (x1 : Int32) (x2 : Int32) (r : Int32) (S1 : St) (hf : f_X7_noteAt S x1 x2 = some (r, S1)) : Met l yX7_noteAt (Cond.code yX7_noteAt cX7_noteAt 3 (some .int) :: wsAll) rm_X7_noteAt (PX D (wM cI cO b) (tyM cI cO) S [.ref (b + 0), .int x1, .int x2]) (Qi D (wM cI cO b) (tyM cI cO) (AM b) r S1) 0 0 (AM b) := by
  unfold f_X7_noteAt at hf
  refine g_met RX7 (by decide +kernel) (Nat.le_of_ble_eq_true rfl) rfl ?_
  intro p e s m args below meth c ls Q F hr hlocks hK hP hl hQ
  have hx := F.1
  have hb := F.2.1
  have hS : va_S (AM b) s.heap s.heap [] := va_S.rf
  have hl : lv_has ls 3 [(0, .ref (b + 0)), (1, .int x1), (2, .int x2)] := hl
  refine lv_aload_n hx hb dX7_noteAt_0 rfl (lv_at hl 0 rfl) ?_
  refine lv_iload_n hx hb dX7_noteAt_1 rfl (lv_at hl 1 rfl) ?_
  obtain ⟨v2, q2, hf⟩ := cl_some hf
  refine g_callSi F hK hP hS [.int x1] (c_X7_isSite l D cI cO b S x1 v2 q2) wd_855 wd_856 wd_9 wd_857 hd_X7_isSite rfl rfl ⟨Nat.le_of_ble_eq_true rfl, Nat.le_of_ble_eq_true rfl⟩ rfl hl (rest := [.ref (b + 0)]) rfl (Nat.le_of_ble_eq_true rfl) dX7_noteAt_2 ⟨Nat.zero_le _, Nat.zero_le _⟩ (fun H locs hP hS => ?_)
  obtain ⟨J21, eJ21, hf⟩ := jn_some hf
  have kJ21 : ∀ (H : Heap) (locs : List Loc) (ls : Array Slot), J21 = some (r, S1) → va_P D vwCl ((wM cI cO b) S) H → va_S (AM b) s.heap H locs → lv_has ls 3 [(0, .ref (b + 0)), (1, .int x1), (2, .int x2)] → W p l e rm_X7_noteAt s m args below meth c H locs 0 0 Q (F0 m 21 ls [.ref (b + 0)]) := by
    intro  H locs ls hf hP hS hl
    rw [eJ21] at hf
    refine lv_iconst (v := 1) hx hb dX7_noteAt_21 (by decide) ?_
    obtain ⟨v22, S_22, q22, hf⟩ := cl2_some hf
    refine g_calli F hK hP hS [.int (1 : Int32)] (c_X7_goesWell l D cI cO b S (1 : Int32) v22 S_22 q22) wd_865 wd_867 wp_24 wd_9 wd_868 wM_o rfl hd_X7_goesWell rfl rfl ⟨Nat.le_of_ble_eq_true rfl, Nat.le_of_ble_eq_true rfl⟩ rfl hl (rest := []) rfl (Nat.le_of_ble_eq_true rfl) dX7_noteAt_22 ⟨Nat.le_of_ble_eq_true rfl, Nat.le_of_ble_eq_true rfl⟩ (fun H locs hP hS => ?_)
    refine lv_if_ne (tgt := 30) hx hb dX7_noteAt_25 (by decide) (fun q => ?_) (fun q => ?_)
    · replace hf := ite_t q hf
      refine lv_aload_n hx hb dX7_noteAt_30 rfl (lv_at hl 0 rfl) ?_
      refine lv_iload_n hx hb dX7_noteAt_31 rfl (lv_at hl 1 rfl) ?_
      obtain ⟨S_32, q32, hf⟩ := cl_some hf
      refine g_callv F hK hP hS [.int x1] (c_X7_arrange l D cI cO b S_22 x1 S_32 q32) wd_889 wd_891 wp_29 wd_9 wd_892 wM_o rfl hd_X7_arrange rfl rfl ⟨Nat.le_of_ble_eq_true rfl, Nat.le_of_ble_eq_true rfl⟩ rfl hl (rest := []) rfl (Nat.le_of_ble_eq_true rfl) dX7_noteAt_32 ⟨Nat.le_of_ble_eq_true rfl, Nat.le_of_ble_eq_true rfl⟩ (fun H locs hP hS => ?_)
      refine lv_aload_n hx hb dX7_noteAt_35 rfl (lv_at hl 0 rfl) ?_
      refine lv_iload_n hx hb dX7_noteAt_36 rfl (lv_at hl 1 rfl) ?_
      refine lv_iload_n hx hb dX7_noteAt_37 rfl (lv_at hl 2 rfl) ?_
      obtain ⟨v38, q38, hf⟩ := cl_some hf
      refine g_calli F hK hP hS [.int x1, .int x2] (c_X7_placeOf l D cI cO b S_32 x1 x2 v38 q38) wd_909 wd_911 wp_34 wd_9 wd_912 wM_o rfl hd_X7_placeOf rfl rfl ⟨Nat.le_of_ble_eq_true rfl, Nat.le_of_ble_eq_true rfl⟩ rfl hl (rest := []) rfl (Nat.le_of_ble_eq_true rfl) dX7_noteAt_38 ⟨Nat.le_of_ble_eq_true rfl, Nat.le_of_ble_eq_true rfl⟩ (fun H locs hP hS => ?_)
      exact g_iret F hr hlocks hQ hK hP hS (Prod.mk.inj (Option.some.inj hf)).1 (Prod.mk.inj (Option.some.inj hf)).2 dX7_noteAt_41
    · replace hf := ite_f (fun h => h q) hf
      refine lv_iconst (v := 0) hx hb dX7_noteAt_28 (by decide) ?_
      exact g_iret F hr hlocks hQ hK hP hS (Prod.mk.inj (Option.some.inj hf)).1 (Prod.mk.inj (Option.some.inj hf)).2 dX7_noteAt_29
  clear eJ21
  obtain ⟨J22, eJ22, hf⟩ := jn_some hf
  have kJ22 : ∀ (t0_22 : Int32) (H : Heap) (locs : List Loc) (ls : Array Slot), J22 t0_22 = some (r, S1) → va_P D vwCl ((wM cI cO b) S) H → va_S (AM b) s.heap H locs → lv_has ls 3 [(0, .ref (b + 0)), (1, .int x1), (2, .int x2)] → W p l e rm_X7_noteAt s m args below meth c H locs 0 0 Q (F0 m 22 ls [.int t0_22, .ref (b + 0)]) := by
    intro t0_22 H locs ls hf hP hS hl
    rw [eJ22] at hf
    obtain ⟨v22, S_22, q22, hf⟩ := cl2_some hf
    refine g_calli F hK hP hS [.int t0_22] (c_X7_goesWell l D cI cO b S t0_22 v22 S_22 q22) wd_865 wd_867 wp_24 wd_9 wd_868 wM_o rfl hd_X7_goesWell rfl rfl ⟨Nat.le_of_ble_eq_true rfl, Nat.le_of_ble_eq_true rfl⟩ rfl hl (rest := []) rfl (Nat.le_of_ble_eq_true rfl) dX7_noteAt_22 ⟨Nat.le_of_ble_eq_true rfl, Nat.le_of_ble_eq_true rfl⟩ (fun H locs hP hS => ?_)
    refine lv_if_ne (tgt := 30) hx hb dX7_noteAt_25 (by decide) (fun q => ?_) (fun q => ?_)
    · replace hf := ite_t q hf
      refine lv_aload_n hx hb dX7_noteAt_30 rfl (lv_at hl 0 rfl) ?_
      refine lv_iload_n hx hb dX7_noteAt_31 rfl (lv_at hl 1 rfl) ?_
      obtain ⟨S_32, q32, hf⟩ := cl_some hf
      refine g_callv F hK hP hS [.int x1] (c_X7_arrange l D cI cO b S_22 x1 S_32 q32) wd_889 wd_891 wp_29 wd_9 wd_892 wM_o rfl hd_X7_arrange rfl rfl ⟨Nat.le_of_ble_eq_true rfl, Nat.le_of_ble_eq_true rfl⟩ rfl hl (rest := []) rfl (Nat.le_of_ble_eq_true rfl) dX7_noteAt_32 ⟨Nat.le_of_ble_eq_true rfl, Nat.le_of_ble_eq_true rfl⟩ (fun H locs hP hS => ?_)
      refine lv_aload_n hx hb dX7_noteAt_35 rfl (lv_at hl 0 rfl) ?_
      refine lv_iload_n hx hb dX7_noteAt_36 rfl (lv_at hl 1 rfl) ?_
      refine lv_iload_n hx hb dX7_noteAt_37 rfl (lv_at hl 2 rfl) ?_
      obtain ⟨v38, q38, hf⟩ := cl_some hf
      refine g_calli F hK hP hS [.int x1, .int x2] (c_X7_placeOf l D cI cO b S_32 x1 x2 v38 q38) wd_909 wd_911 wp_34 wd_9 wd_912 wM_o rfl hd_X7_placeOf rfl rfl ⟨Nat.le_of_ble_eq_true rfl, Nat.le_of_ble_eq_true rfl⟩ rfl hl (rest := []) rfl (Nat.le_of_ble_eq_true rfl) dX7_noteAt_38 ⟨Nat.le_of_ble_eq_true rfl, Nat.le_of_ble_eq_true rfl⟩ (fun H locs hP hS => ?_)
      exact g_iret F hr hlocks hQ hK hP hS (Prod.mk.inj (Option.some.inj hf)).1 (Prod.mk.inj (Option.some.inj hf)).2 dX7_noteAt_41
    · replace hf := ite_f (fun h => h q) hf
      refine lv_iconst (v := 0) hx hb dX7_noteAt_28 (by decide) ?_
      exact g_iret F hr hlocks hQ hK hP hS (Prod.mk.inj (Option.some.inj hf)).1 (Prod.mk.inj (Option.some.inj hf)).2 dX7_noteAt_29
  clear eJ22
  refine lv_if_eq (tgt := 21) hx hb dX7_noteAt_5 (by decide) (fun q => ?_) (fun q => ?_)
  · replace hf := ite_t q hf
    exact kJ21 _ _ _ hf hP hS (lv_sub hl [0, 1, 2] rfl)
  · replace hf := ite_f q hf
    refine lv_aload_n hx hb dX7_noteAt_8 rfl (lv_at hl 0 rfl) ?_
    refine lv_iload_n hx hb dX7_noteAt_9 rfl (lv_at hl 1 rfl) ?_
    refine lv_iload_n hx hb dX7_noteAt_10 rfl (lv_at hl 2 rfl) ?_
    obtain ⟨v11, q11, hf⟩ := cl_some hf
    refine g_calli F hK hP hS [.int x1, .int x2] (c_X7_knowsNote l D cI cO b S x1 x2 v11 q11) wd_905 wd_907 wp_33 wd_9 wd_908 wM_o rfl hd_X7_knowsNote rfl rfl ⟨Nat.le_of_ble_eq_true rfl, Nat.le_of_ble_eq_true rfl⟩ rfl hl (rest := [.ref (b + 0)]) rfl (Nat.le_of_ble_eq_true rfl) dX7_noteAt_11 ⟨Nat.le_of_ble_eq_true rfl, Nat.le_of_ble_eq_true rfl⟩ (fun H locs hP hS => ?_)
    refine lv_if_eq (tgt := 21) hx hb dX7_noteAt_14 (by decide) (fun q => ?_) (fun q => ?_)
    · replace hf := ite_t q hf
      exact kJ21 _ _ _ hf hP hS (lv_sub hl [0, 1, 2] rfl)
    · replace hf := ite_f q hf
      refine lv_iconst (v := 0) hx hb dX7_noteAt_17 (by decide) ?_
      refine lv_goto (tgt := 22) hx hb dX7_noteAt_18 (by decide) ?_
      exact kJ22 _ _ _ _ hf hP hS (lv_sub hl [0, 1, 2] rfl)
abbrev rm_X7_pages : Room := { frames := 5, cells := 0, slots := 0, locals := 117 }
theorem hd_X7_pages : yX7_pages.cls = RX7 ∧ yX7_pages.cls ≠ "java/lang/invoke/MethodHandle" ∧ yX7_pages.cls ≠ "java/lang/invoke/VarHandle" ∧ (parseMethodDescriptor yX7_pages.desc).map (fun d => d.parameters.length) = some 1 := by decide +kernel
set_option maxRecDepth 100000 in
set_option maxHeartbeats 4000000 in
theorem c_X7_pages (l : Launch) (D : va_G) (cI cO : ClassId) (b : Nat) (S : St) (x1 : Int32) (r : Int32) (S1 : St) (hf : f_X7_pages S x1 = some (r, S1)) : Met l yX7_pages (Cond.code yX7_pages cX7_pages 2 (some .int) :: wsAll) rm_X7_pages (PX D (wM cI cO b) (tyM cI cO) S [.ref (b + 0), .int x1]) (Qi D (wM cI cO b) (tyM cI cO) (AM b) r S1) 0 0 (AM b) := by
  unfold f_X7_pages at hf
  refine g_met RX7 (by decide +kernel) (Nat.le_of_ble_eq_true rfl) rfl ?_
  intro p e s m args below meth c ls Q F hr hlocks hK hP hl hQ
  have hx := F.1
  have hb := F.2.1
  have hS : va_S (AM b) s.heap s.heap [] := va_S.rf
  have hl : lv_has ls 2 [(0, .ref (b + 0)), (1, .int x1)] := hl
  refine lv_aload_n hx hb dX7_pages_0 rfl (lv_at hl 0 rfl) ?_
  refine lv_iload_n hx hb dX7_pages_1 rfl (lv_at hl 1 rfl) ?_
  obtain ⟨v2, q2, hf⟩ := cl_some hf
  refine g_callSi F hK hP hS [.int x1] (c_X7_isSite l D cI cO b S x1 v2 q2) wd_855 wd_856 wd_9 wd_857 hd_X7_isSite rfl rfl ⟨Nat.le_of_ble_eq_true rfl, Nat.le_of_ble_eq_true rfl⟩ rfl hl (rest := [.ref (b + 0)]) rfl (Nat.le_of_ble_eq_true rfl) dX7_pages_2 ⟨Nat.zero_le _, Nat.zero_le _⟩ (fun H locs hP hS => ?_)
  obtain ⟨J13, eJ13, hf⟩ := jn_some hf
  have kJ13 : ∀ (t0_13 : Int32) (H : Heap) (locs : List Loc) (ls : Array Slot), J13 t0_13 = some (r, S1) → va_P D vwCl ((wM cI cO b) S) H → va_S (AM b) s.heap H locs → lv_has ls 2 [(0, .ref (b + 0)), (1, .int x1)] → W p l e rm_X7_pages s m args below meth c H locs 0 0 Q (F0 m 13 ls [.int t0_13, .ref (b + 0)]) := by
    intro t0_13 H locs ls hf hP hS hl
    rw [eJ13] at hf
    obtain ⟨v13, S_13, q13, hf⟩ := cl2_some hf
    refine g_calli F hK hP hS [.int t0_13] (c_X7_goesWell l D cI cO b S t0_13 v13 S_13 q13) wd_865 wd_867 wp_24 wd_9 wd_868 wM_o rfl hd_X7_goesWell rfl rfl ⟨Nat.le_of_ble_eq_true rfl, Nat.le_of_ble_eq_true rfl⟩ rfl hl (rest := []) rfl (Nat.le_of_ble_eq_true rfl) dX7_pages_13 ⟨Nat.le_of_ble_eq_true rfl, Nat.le_of_ble_eq_true rfl⟩ (fun H locs hP hS => ?_)
    refine lv_if_ne (tgt := 21) hx hb dX7_pages_16 (by decide) (fun q => ?_) (fun q => ?_)
    · replace hf := ite_t q hf
      refine lv_aload_n hx hb dX7_pages_21 rfl (lv_at hl 0 rfl) ?_
      refine lv_iload_n hx hb dX7_pages_22 rfl (lv_at hl 1 rfl) ?_
      obtain ⟨S_23, q23, hf⟩ := cl_some hf
      refine g_callv F hK hP hS [.int x1] (c_X7_lay l D cI cO b S_13 x1 S_23 q23) wd_885 wd_887 wp_28 wd_9 wd_888 wM_o rfl hd_X7_lay rfl rfl ⟨Nat.le_of_ble_eq_true rfl, Nat.le_of_ble_eq_true rfl⟩ rfl hl (rest := []) rfl (Nat.le_of_ble_eq_true rfl) dX7_pages_23 ⟨Nat.le_of_ble_eq_true rfl, Nat.le_of_ble_eq_true rfl⟩ (fun H locs hP hS => ?_)
      refine lv_aload_n hx hb dX7_pages_26 rfl (lv_at hl 0 rfl) ?_
      refine g_get F hK hP inA7 0 wM_o rfl 30 (by decide) wd_782 (v := .int (gi S_23 30)) rfl dX7_pages_27 ?_
      exact g_iret F hr hlocks hQ hK hP hS (Prod.mk.inj (Option.some.inj hf)).1 (Prod.mk.inj (Option.some.inj hf)).2 dX7_pages_30
    · replace hf := ite_f (fun h => h q) hf
      refine lv_iconst (v := 0) hx hb dX7_pages_19 (by decide) ?_
      exact g_iret F hr hlocks hQ hK hP hS (Prod.mk.inj (Option.some.inj hf)).1 (Prod.mk.inj (Option.some.inj hf)).2 dX7_pages_20
  clear eJ13
  refine lv_if_eq (tgt := 12) hx hb dX7_pages_5 (by decide) (fun q => ?_) (fun q => ?_)
  · replace hf := ite_t q hf
    refine lv_iconst (v := 1) hx hb dX7_pages_12 (by decide) ?_
    exact kJ13 _ _ _ _ hf hP hS (lv_sub hl [0, 1] rfl)
  · replace hf := ite_f q hf
    refine lv_iconst (v := 0) hx hb dX7_pages_8 (by decide) ?_
    refine lv_goto (tgt := 13) hx hb dX7_pages_9 (by decide) ?_
    exact kJ13 _ _ _ _ hf hP hS (lv_sub hl [0, 1] rfl)
abbrev rm_X7_aheadAnew : Room := { frames := 5, cells := 0, slots := 0, locals := 117 }
theorem hd_X7_aheadAnew : yX7_aheadAnew.cls = RX7 ∧ yX7_aheadAnew.cls ≠ "java/lang/invoke/MethodHandle" ∧ yX7_aheadAnew.cls ≠ "java/lang/invoke/VarHandle" ∧ (parseMethodDescriptor yX7_aheadAnew.desc).map (fun d => d.parameters.length) = some 2 := by decide +kernel
set_option maxRecDepth 100000 in
set_option maxHeartbeats 4000000 in
theorem c_X7_aheadAnew (l : Launch) (D : va_G) (cI cO : ClassId) (b : Nat) (S : St) (x1 : Int32) (x2 : Int32) (r : Int32) (S1 : St) (hf : f_X7_aheadAnew S x1 x2 = some (r, S1)) : Met l yX7_aheadAnew (Cond.code yX7_aheadAnew cX7_aheadAnew 5 (some .int) :: wsAll) rm_X7_aheadAnew (PX D (wM cI cO b) (tyM cI cO) S [.ref (b + 0), .int x1, .int x2]) (Qi D (wM cI cO b) (tyM cI cO) (AM b) r S1) 0 0 (AM b) := by
  unfold f_X7_aheadAnew at hf
  refine g_met RX7 (by decide +kernel) (Nat.le_of_ble_eq_true rfl) rfl ?_
  intro p e s m args below meth c ls Q F hr hlocks hK hP hl hQ
  have hx := F.1
  have hb := F.2.1
  have hS : va_S (AM b) s.heap s.heap [] := va_S.rf
  have hl : lv_has ls 5 [(0, .ref (b + 0)), (1, .int x1), (2, .int x2)] := hl
  refine lv_aload_n hx hb dX7_aheadAnew_0 rfl (lv_at hl 0 rfl) ?_
  refine lv_iload_n hx hb dX7_aheadAnew_1 rfl (lv_at hl 1 rfl) ?_
  obtain ⟨v2, q2, hf⟩ := cl_some hf
  refine g_callSi F hK hP hS [.int x1] (c_X7_isSite l D cI cO b S x1 v2 q2) wd_855 wd_856 wd_9 wd_857 hd_X7_isSite rfl rfl ⟨Nat.le_of_ble_eq_true rfl, Nat.le_of_ble_eq_true rfl⟩ rfl hl (rest := [.ref (b + 0)]) rfl (Nat.le_of_ble_eq_true rfl) dX7_aheadAnew_2 ⟨Nat.zero_le _, Nat.zero_le _⟩ (fun H locs hP hS => ?_)
  obtain ⟨J16, eJ16, hf⟩ := jn_some hf
  have kJ16 : ∀ (H : Heap) (locs : List Loc) (ls : Array Slot), J16 = some (r, S1) → va_P D vwCl ((wM cI cO b) S) H → va_S (AM b) s.heap H locs → lv_has ls 5 [(0, .ref (b + 0)), (1, .int x1), (2, .int x2)] → W p l e rm_X7_aheadAnew s m args below meth c H locs 0 0 Q (F0 m 16 ls [.ref (b + 0)]) := by
    intro  H locs ls hf hP hS hl
    rw [eJ16] at hf
    refine lv_iconst (v := 1) hx hb dX7_aheadAnew_16 (by decide) ?_
    obtain ⟨v17, S_17, q17, hf⟩ := cl2_some hf
    refine g_calli F hK hP hS [.int (1 : Int32)] (c_X7_goesWell l D cI cO b S (1 : Int32) v17 S_17 q17) wd_865 wd_867 wp_24 wd_9 wd_868 wM_o rfl hd_X7_goesWell rfl rfl ⟨Nat.le_of_ble_eq_true rfl, Nat.le_of_ble_eq_true rfl⟩ rfl hl (rest := []) rfl (Nat.le_of_ble_eq_true rfl) dX7_aheadAnew_17 ⟨Nat.le_of_ble_eq_true rfl, Nat.le_of_ble_eq_true rfl⟩ (fun H locs hP hS => ?_)
    refine lv_if_ne (tgt := 25) hx hb dX7_aheadAnew_20 (by decide) (fun q => ?_) (fun q => ?_)
    · replace hf := ite_t q hf
      refine lv_aload_n hx hb dX7_aheadAnew_25 rfl (lv_at hl 0 rfl) ?_
      refine lv_iload_n hx hb dX7_aheadAnew_26 rfl (lv_at hl 1 rfl) ?_
      obtain ⟨S_27, q27, hf⟩ := cl_some hf
      refine g_callv F hK hP hS [.int x1] (c_X7_lay l D cI cO b S_17 x1 S_27 q27) wd_885 wd_887 wp_28 wd_9 wd_888 wM_o rfl hd_X7_lay rfl rfl ⟨Nat.le_of_ble_eq_true rfl, Nat.le_of_ble_eq_true rfl⟩ rfl hl (rest := []) rfl (Nat.le_of_ble_eq_true rfl) dX7_aheadAnew_27 ⟨Nat.le_of_ble_eq_true rfl, Nat.le_of_ble_eq_true rfl⟩ (fun H locs hP hS => ?_)
      refine lv_iconst (v := 0) hx hb dX7_aheadAnew_30 (by decide) ?_
      refine lv_istore_n (lv' := [(3, .int (0 : Int32)), (0, .ref (b + 0)), (1, .int x1), (2, .int x2)]) hx hb dX7_aheadAnew_31 rfl hl (by decide) rfl (fun ls hl => ?_)
      refine lv_iconst (v := 0) hx hb dX7_aheadAnew_32 (by decide) ?_
      refine lv_istore (lv' := [(4, .int (0 : Int32)), (3, .int (0 : Int32)), (0, .ref (b + 0)), (1, .int x1), (2, .int x2)]) hx hb dX7_aheadAnew_33 hl (by decide) rfl (fun ls hl => ?_)
      refine Lp2_ind (P := fun (x3_35 : Int32) (x4_35 : Int32) => ∀ (H : Heap) (locs : List Loc) (ls : Array Slot), va_P D vwCl ((wM cI cO b) S_27) H → va_S (AM b) s.heap H locs → lv_has ls 5 [(0, .ref (b + 0)), (2, .int x2), (3, .int x3_35), (4, .int x4_35)] → W p l e rm_X7_aheadAnew s m args below meth c H locs 0 0 Q (F0 m 35 ls [])) ?_ _ _ _ hf _ _ _ hP hS (lv_sub hl [2, 4, 1, 0] rfl)
      clear hf hP hS hl
      intro nx35 x3_35 x4_35 ih35 hf H locs ls hP hS hl
      refine lv_iload hx hb dX7_aheadAnew_35 (lv_at hl 3 rfl) ?_
      refine lv_aload_n hx hb dX7_aheadAnew_37 rfl (lv_at hl 0 rfl) ?_
      refine g_get F hK hP inA7 0 wM_o rfl 26 (by decide) wd_778 (v := .int (gi S_27 26)) rfl dX7_aheadAnew_38 ?_
      refine lv_icmp_ge (tgt := 69) hx hb dX7_aheadAnew_41 (by decide) (fun q => ?_) (fun q => ?_)
      · replace hf := ite_t q hf
        refine lv_iload_n hx hb dX7_aheadAnew_69 rfl (lv_at hl 2 rfl) ?_
        exact g_iret F hr hlocks hQ hK hP hS (Prod.mk.inj (Option.some.inj hf)).1 (Prod.mk.inj (Option.some.inj hf)).2 dX7_aheadAnew_70
      · replace hf := ite_f q hf
        refine lv_iload_n hx hb dX7_aheadAnew_44 rfl (lv_at hl 2 rfl) ?_
        refine lv_aload_n hx hb dX7_aheadAnew_45 rfl (lv_at hl 0 rfl) ?_
        refine g_get F hK hP inA7 0 wM_o rfl 29 (by decide) wd_781 (v := .ref (b + 23)) rfl dX7_aheadAnew_46 ?_
        refine lv_iload hx hb dX7_aheadAnew_49 (lv_at hl 3 rfl) ?_
        obtain ⟨hi, hf⟩ := ck_some hf
        refine va_iald hx hb hK hP 23 0 wM_a29 rfl hi dX7_aheadAnew_51 ?_
        refine lv_iload_n hx hb dX7_aheadAnew_52 rfl (lv_at hl 1 rfl) ?_
        obtain ⟨J61, eJ61, hf⟩ := jn_some hf
        have kJ61 : ∀ (t0_61 : Int32) (H : Heap) (locs : List Loc) (ls : Array Slot), J61 t0_61 = some (r, S1) → va_P D vwCl ((wM cI cO b) S_27) H → va_S (AM b) s.heap H locs → lv_has ls 5 [(0, .ref (b + 0)), (2, .int x2), (4, .int x4_35)] → W p l e rm_X7_aheadAnew s m args below meth c H locs 0 0 Q (F0 m 61 ls [.int t0_61, .int x3_35]) := by
          intro t0_61 H locs ls hf hP hS hl
          rw [eJ61] at hf
          refine lv_iadd hx hb dX7_aheadAnew_61 ?_
          obtain ⟨x3_62, ex3_62, hf⟩ := lt_some hf
          rw [← ex3_62]
          refine lv_istore_n (lv' := [(3, .int x3_62), (0, .ref (b + 0)), (2, .int x2), (4, .int x4_35)]) hx hb dX7_aheadAnew_62 rfl hl (by decide) rfl (fun ls hl => ?_)
          obtain ⟨x4_63, ex4_63, hf⟩ := lt_some hf
          refine lv_iinc (v := x4_63) (lv' := [(4, .int x4_63), (3, .int x3_62), (0, .ref (b + 0)), (2, .int x2)]) hx hb dX7_aheadAnew_63 hl (k := 3) rfl (by rw [ex4_63]; rfl) (by decide) rfl (fun ls hl => ?_)
          refine lv_goto (tgt := 35) hx hb dX7_aheadAnew_66 (by decide) ?_
          exact ih35 _ _ hf _ _ _ hP hS (lv_sub hl [2, 3, 1, 0] rfl)
        clear eJ61
        refine lv_icmp_ge (tgt := 60) hx hb dX7_aheadAnew_53 (by decide) (fun q => ?_) (fun q => ?_)
        · replace hf := ite_t q hf
          refine lv_iconst (v := 0) hx hb dX7_aheadAnew_60 (by decide) ?_
          exact kJ61 _ _ _ _ hf hP hS (lv_sub hl [0, 1, 3] rfl)
        · replace hf := ite_f q hf
          refine lv_iconst (v := 1) hx hb dX7_aheadAnew_56 (by decide) ?_
          refine lv_goto (tgt := 61) hx hb dX7_aheadAnew_57 (by decide) ?_
          exact kJ61 _ _ _ _ hf hP hS (lv_sub hl [0, 1, 3] rfl)
    · replace hf := ite_f (fun h => h q) hf
      refine lv_iconst (v := 0) hx hb dX7_aheadAnew_23 (by decide) ?_
      exact g_iret F hr hlocks hQ hK hP hS (Prod.mk.inj (Option.some.inj hf)).1 (Prod.mk.inj (Option.some.inj hf)).2 dX7_aheadAnew_24
  clear eJ16
  obtain ⟨J17, eJ17, hf⟩ := jn_some hf
  have kJ17 : ∀ (t0_17 : Int32) (H : Heap) (locs : List Loc) (ls : Array Slot), J17 t0_17 = some (r, S1) → va_P D vwCl ((wM cI cO b) S) H → va_S (AM b) s.heap H locs → lv_has ls 5 [(0, .ref (b + 0)), (1, .int x1), (2, .int x2)] → W p l e rm_X7_aheadAnew s m args below meth c H locs 0 0 Q (F0 m 17 ls [.int t0_17, .ref (b + 0)]) := by
    intro t0_17 H locs ls hf hP hS hl
    rw [eJ17] at hf
    obtain ⟨v17, S_17, q17, hf⟩ := cl2_some hf
    refine g_calli F hK hP hS [.int t0_17] (c_X7_goesWell l D cI cO b S t0_17 v17 S_17 q17) wd_865 wd_867 wp_24 wd_9 wd_868 wM_o rfl hd_X7_goesWell rfl rfl ⟨Nat.le_of_ble_eq_true rfl, Nat.le_of_ble_eq_true rfl⟩ rfl hl (rest := []) rfl (Nat.le_of_ble_eq_true rfl) dX7_aheadAnew_17 ⟨Nat.le_of_ble_eq_true rfl, Nat.le_of_ble_eq_true rfl⟩ (fun H locs hP hS => ?_)
    refine lv_if_ne (tgt := 25) hx hb dX7_aheadAnew_20 (by decide) (fun q => ?_) (fun q => ?_)
    · replace hf := ite_t q hf
      refine lv_aload_n hx hb dX7_aheadAnew_25 rfl (lv_at hl 0 rfl) ?_
      refine lv_iload_n hx hb dX7_aheadAnew_26 rfl (lv_at hl 1 rfl) ?_
      obtain ⟨S_27, q27, hf⟩ := cl_some hf
      refine g_callv F hK hP hS [.int x1] (c_X7_lay l D cI cO b S_17 x1 S_27 q27) wd_885 wd_887 wp_28 wd_9 wd_888 wM_o rfl hd_X7_lay rfl rfl ⟨Nat.le_of_ble_eq_true rfl, Nat.le_of_ble_eq_true rfl⟩ rfl hl (rest := []) rfl (Nat.le_of_ble_eq_true rfl) dX7_aheadAnew_27 ⟨Nat.le_of_ble_eq_true rfl, Nat.le_of_ble_eq_true rfl⟩ (fun H locs hP hS => ?_)
      refine lv_iconst (v := 0) hx hb dX7_aheadAnew_30 (by decide) ?_
      refine lv_istore_n (lv' := [(3, .int (0 : Int32)), (0, .ref (b + 0)), (1, .int x1), (2, .int x2)]) hx hb dX7_aheadAnew_31 rfl hl (by decide) rfl (fun ls hl => ?_)
      refine lv_iconst (v := 0) hx hb dX7_aheadAnew_32 (by decide) ?_
      refine lv_istore (lv' := [(4, .int (0 : Int32)), (3, .int (0 : Int32)), (0, .ref (b + 0)), (1, .int x1), (2, .int x2)]) hx hb dX7_aheadAnew_33 hl (by decide) rfl (fun ls hl => ?_)
      refine Lp2_ind (P := fun (x3_35 : Int32) (x4_35 : Int32) => ∀ (H : Heap) (locs : List Loc) (ls : Array Slot), va_P D vwCl ((wM cI cO b) S_27) H → va_S (AM b) s.heap H locs → lv_has ls 5 [(0, .ref (b + 0)), (2, .int x2), (3, .int x3_35), (4, .int x4_35)] → W p l e rm_X7_aheadAnew s m args below meth c H locs 0 0 Q (F0 m 35 ls [])) ?_ _ _ _ hf _ _ _ hP hS (lv_sub hl [2, 4, 1, 0] rfl)
      clear hf hP hS hl
      intro nx35 x3_35 x4_35 ih35 hf H locs ls hP hS hl
      refine lv_iload hx hb dX7_aheadAnew_35 (lv_at hl 3 rfl) ?_
      refine lv_aload_n hx hb dX7_aheadAnew_37 rfl (lv_at hl 0 rfl) ?_
      refine g_get F hK hP inA7 0 wM_o rfl 26 (by decide) wd_778 (v := .int (gi S_27 26)) rfl dX7_aheadAnew_38 ?_
      refine lv_icmp_ge (tgt := 69) hx hb dX7_aheadAnew_41 (by decide) (fun q => ?_) (fun q => ?_)
      · replace hf := ite_t q hf
        refine lv_iload_n hx hb dX7_aheadAnew_69 rfl (lv_at hl 2 rfl) ?_
        exact g_iret F hr hlocks hQ hK hP hS (Prod.mk.inj (Option.some.inj hf)).1 (Prod.mk.inj (Option.some.inj hf)).2 dX7_aheadAnew_70
      · replace hf := ite_f q hf
        refine lv_iload_n hx hb dX7_aheadAnew_44 rfl (lv_at hl 2 rfl) ?_
        refine lv_aload_n hx hb dX7_aheadAnew_45 rfl (lv_at hl 0 rfl) ?_
        refine g_get F hK hP inA7 0 wM_o rfl 29 (by decide) wd_781 (v := .ref (b + 23)) rfl dX7_aheadAnew_46 ?_
        refine lv_iload hx hb dX7_aheadAnew_49 (lv_at hl 3 rfl) ?_
        obtain ⟨hi, hf⟩ := ck_some hf
        refine va_iald hx hb hK hP 23 0 wM_a29 rfl hi dX7_aheadAnew_51 ?_
        refine lv_iload_n hx hb dX7_aheadAnew_52 rfl (lv_at hl 1 rfl) ?_
        obtain ⟨J61, eJ61, hf⟩ := jn_some hf
        have kJ61 : ∀ (t0_61 : Int32) (H : Heap) (locs : List Loc) (ls : Array Slot), J61 t0_61 = some (r, S1) → va_P D vwCl ((wM cI cO b) S_27) H → va_S (AM b) s.heap H locs → lv_has ls 5 [(0, .ref (b + 0)), (2, .int x2), (4, .int x4_35)] → W p l e rm_X7_aheadAnew s m args below meth c H locs 0 0 Q (F0 m 61 ls [.int t0_61, .int x3_35]) := by
          intro t0_61 H locs ls hf hP hS hl
          rw [eJ61] at hf
          refine lv_iadd hx hb dX7_aheadAnew_61 ?_
          obtain ⟨x3_62, ex3_62, hf⟩ := lt_some hf
          rw [← ex3_62]
          refine lv_istore_n (lv' := [(3, .int x3_62), (0, .ref (b + 0)), (2, .int x2), (4, .int x4_35)]) hx hb dX7_aheadAnew_62 rfl hl (by decide) rfl (fun ls hl => ?_)
          obtain ⟨x4_63, ex4_63, hf⟩ := lt_some hf
          refine lv_iinc (v := x4_63) (lv' := [(4, .int x4_63), (3, .int x3_62), (0, .ref (b + 0)), (2, .int x2)]) hx hb dX7_aheadAnew_63 hl (k := 3) rfl (by rw [ex4_63]; rfl) (by decide) rfl (fun ls hl => ?_)
          refine lv_goto (tgt := 35) hx hb dX7_aheadAnew_66 (by decide) ?_
          exact ih35 _ _ hf _ _ _ hP hS (lv_sub hl [2, 3, 1, 0] rfl)
        clear eJ61
        refine lv_icmp_ge (tgt := 60) hx hb dX7_aheadAnew_53 (by decide) (fun q => ?_) (fun q => ?_)
        · replace hf := ite_t q hf
          refine lv_iconst (v := 0) hx hb dX7_aheadAnew_60 (by decide) ?_
          exact kJ61 _ _ _ _ hf hP hS (lv_sub hl [0, 1, 3] rfl)
        · replace hf := ite_f q hf
          refine lv_iconst (v := 1) hx hb dX7_aheadAnew_56 (by decide) ?_
          refine lv_goto (tgt := 61) hx hb dX7_aheadAnew_57 (by decide) ?_
          exact kJ61 _ _ _ _ hf hP hS (lv_sub hl [0, 1, 3] rfl)
    · replace hf := ite_f (fun h => h q) hf
      refine lv_iconst (v := 0) hx hb dX7_aheadAnew_23 (by decide) ?_
      exact g_iret F hr hlocks hQ hK hP hS (Prod.mk.inj (Option.some.inj hf)).1 (Prod.mk.inj (Option.some.inj hf)).2 dX7_aheadAnew_24
  clear eJ17
  refine lv_if_eq (tgt := 16) hx hb dX7_aheadAnew_5 (by decide) (fun q => ?_) (fun q => ?_)
  · replace hf := ite_t q hf
    exact kJ16 _ _ _ hf hP hS (lv_sub hl [0, 1, 2] rfl)
  · replace hf := ite_f q hf
    refine lv_iload_n hx hb dX7_aheadAnew_8 rfl (lv_at hl 2 rfl) ?_
    refine lv_if_lt (tgt := 16) hx hb dX7_aheadAnew_9 (by decide) (fun q => ?_) (fun q => ?_)
    · replace hf := ite_t q hf
      exact kJ16 _ _ _ hf hP hS (lv_sub hl [0, 1, 2] rfl)
    · replace hf := ite_f q hf
      refine lv_iconst (v := 0) hx hb dX7_aheadAnew_12 (by decide) ?_
      refine lv_goto (tgt := 17) hx hb dX7_aheadAnew_13 (by decide) ?_
      exact kJ17 _ _ _ _ hf hP hS (lv_sub hl [0, 1, 2] rfl)
abbrev rm_X7_known : Room := { frames := 2, cells := 0, slots := 0, locals := 42 }
theorem hd_X7_known : yX7_known.cls = RX7 ∧ yX7_known.cls ≠ "java/lang/invoke/MethodHandle" ∧ yX7_known.cls ≠ "java/lang/invoke/VarHandle" ∧ (parseMethodDescriptor yX7_known.desc).map (fun d => d.parameters.length) = some 1 := by decide +kernel
set_option maxRecDepth 100000 in
set_option maxHeartbeats 4000000 in
theorem c_X7_known (l : Launch) (D : va_G) (cI cO : ClassId) (b : Nat) (S : St) (x1 : Int32) (r : Int32) (S1 : St) (hf : f_X7_known S x1 = some (r, S1)) : Met l yX7_known (Cond.code yX7_known cX7_known 2 (some .int) :: wsAll) rm_X7_known (PX D (wM cI cO b) (tyM cI cO) S [.ref (b + 0), .int x1]) (Qi D (wM cI cO b) (tyM cI cO) (AM b) r S1) 0 0 (AM b) := by
  unfold f_X7_known at hf
  refine g_met RX7 (by decide +kernel) (Nat.le_of_ble_eq_true rfl) rfl ?_
  intro p e s m args below meth c ls Q F hr hlocks hK hP hl hQ
  have hx := F.1
  have hb := F.2.1
  have hS : va_S (AM b) s.heap s.heap [] := va_S.rf
  have hl : lv_has ls 2 [(0, .ref (b + 0)), (1, .int x1)] := hl
  refine lv_aload_n hx hb dX7_known_0 rfl (lv_at hl 0 rfl) ?_
  refine lv_iload_n hx hb dX7_known_1 rfl (lv_at hl 1 rfl) ?_
  obtain ⟨v2, q2, hf⟩ := cl_some hf
  refine g_callSi F hK hP hS [.int x1] (c_X7_isSite l D cI cO b S x1 v2 q2) wd_855 wd_856 wd_9 wd_857 hd_X7_isSite rfl rfl ⟨Nat.le_of_ble_eq_true rfl, Nat.le_of_ble_eq_true rfl⟩ rfl hl (rest := [.ref (b + 0)]) rfl (Nat.le_of_ble_eq_true rfl) dX7_known_2 ⟨Nat.zero_le _, Nat.zero_le _⟩ (fun H locs hP hS => ?_)
  obtain ⟨J13, eJ13, hf⟩ := jn_some hf
  have kJ13 : ∀ (t0_13 : Int32) (H : Heap) (locs : List Loc) (ls : Array Slot), J13 t0_13 = some (r, S1) → va_P D vwCl ((wM cI cO b) S) H → va_S (AM b) s.heap H locs → lv_has ls 2 [(0, .ref (b + 0)), (1, .int x1)] → W p l e rm_X7_known s m args below meth c H locs 0 0 Q (F0 m 13 ls [.int t0_13, .ref (b + 0)]) := by
    intro t0_13 H locs ls hf hP hS hl
    rw [eJ13] at hf
    obtain ⟨v13, S_13, q13, hf⟩ := cl2_some hf
    refine g_calli F hK hP hS [.int t0_13] (c_X7_goesWell l D cI cO b S t0_13 v13 S_13 q13) wd_865 wd_867 wp_24 wd_9 wd_868 wM_o rfl hd_X7_goesWell rfl rfl ⟨Nat.le_of_ble_eq_true rfl, Nat.le_of_ble_eq_true rfl⟩ rfl hl (rest := []) rfl (Nat.le_of_ble_eq_true rfl) dX7_known_13 ⟨Nat.le_of_ble_eq_true rfl, Nat.le_of_ble_eq_true rfl⟩ (fun H locs hP hS => ?_)
    refine lv_if_eq (tgt := 28) hx hb dX7_known_16 (by decide) (fun q => ?_) (fun q => ?_)
    · replace hf := ite_t q hf
      refine lv_iconst (v := 0) hx hb dX7_known_28 (by decide) ?_
      exact g_iret F hr hlocks hQ hK hP hS (Prod.mk.inj (Option.some.inj hf)).1 (Prod.mk.inj (Option.some.inj hf)).2 dX7_known_29
    · replace hf := ite_f q hf
      refine lv_aload_n hx hb dX7_known_19 rfl (lv_at hl 0 rfl) ?_
      refine g_get F hK hP inA7 0 wM_o rfl 16 (by decide) wd_768 (v := .ref (b + 13)) rfl dX7_known_20 ?_
      refine lv_iload_n hx hb dX7_known_23 rfl (lv_at hl 1 rfl) ?_
      obtain ⟨hi, hf⟩ := ck_some hf
      refine va_iald hx hb hK hP 13 0 wM_a16 rfl hi dX7_known_24 ?_
      refine lv_goto (tgt := 29) hx hb dX7_known_25 (by decide) ?_
      exact g_iret F hr hlocks hQ hK hP hS (Prod.mk.inj (Option.some.inj hf)).1 (Prod.mk.inj (Option.some.inj hf)).2 dX7_known_29
  clear eJ13
  refine lv_if_eq (tgt := 12) hx hb dX7_known_5 (by decide) (fun q => ?_) (fun q => ?_)
  · replace hf := ite_t q hf
    refine lv_iconst (v := 1) hx hb dX7_known_12 (by decide) ?_
    exact kJ13 _ _ _ _ hf hP hS (lv_sub hl [0, 1] rfl)
  · replace hf := ite_f q hf
    refine lv_iconst (v := 0) hx hb dX7_known_8 (by decide) ?_
    refine lv_goto (tgt := 13) hx hb dX7_known_9 (by decide) ?_
    exact kJ13 _ _ _ _ hf hP hS (lv_sub hl [0, 1] rfl)
