/-! contracts of the class's inner classes -/
abbrev rm_X2_clear : Room := { frames := 0, cells := 0, slots := 0, locals := 0 }
theorem hd_X2_clear : yX2_clear.cls = RX2 ∧ yX2_clear.cls ≠ "java/lang/invoke/MethodHandle" ∧ yX2_clear.cls ≠ "java/lang/invoke/VarHandle" ∧ (parseMethodDescriptor yX2_clear.desc).map (fun d => d.parameters.length) = some 0 := by decide +kernel
set_option maxRecDepth 100000 in
set_option maxHeartbeats 4000000 in
theorem c_X2_clear (l : Launch) (D : va_G) (cI cO : ClassId) (b : Nat) (k : Nat) (hk : nK k = true) (S : St) (S1 : St) (hf : f_X2_clear S k = some S1) : Met l yX2_clear (Cond.code yX2_clear cX2_clear 1 none :: wsAll) rm_X2_clear (PX D (wC cI cO b) (tyC cI cO) S [.ref (b + k)]) (Qv D (wC cI cO b) (tyC cI cO) (AC b) S1) 0 0 (AC b) := by
  unfold f_X2_clear at hf
  refine g_met RX2 (by decide +kernel) (Nat.le_of_ble_eq_true rfl) rfl ?_
  intro p e s m args below meth c ls Q F hr hlocks hK hP hl hQ
  have hx := F.1
  have hb := F.2.1
  have hS : va_S (AC b) s.heap s.heap [] := va_S.rf
  have hl : lv_has ls 1 [(0, .ref (b + k))] := hl
  refine lv_aload_n hx hb dX2_clear_0 rfl (lv_at hl 0 rfl) ?_
  refine lv_iconst (v := 0) hx hb dX2_clear_1 (by decide) ?_
  obtain ⟨S_2, eS_2, hf⟩ := lt_some hf
  refine g_puti (S1 := S_2) F hK hP wC_D hS inA2 tyX2 tyX2_ok nmX2 k (wC_N hk) rfl 1 (by decide) wd_41 rfl (by decide +kernel) (Nat.le_of_ble_eq_true rfl) (by rw [eS_2]; exact wC_si hk) dX2_clear_2 (fun H locs hP hS => ?_)
  exact g_vret F hr hlocks hQ hK hP hS (Option.some.inj hf) dX2_clear_5
abbrev rm_X2_size : Room := { frames := 0, cells := 0, slots := 0, locals := 0 }
theorem hd_X2_size : yX2_size.cls = RX2 ∧ yX2_size.cls ≠ "java/lang/invoke/MethodHandle" ∧ yX2_size.cls ≠ "java/lang/invoke/VarHandle" ∧ (parseMethodDescriptor yX2_size.desc).map (fun d => d.parameters.length) = some 0 := by decide +kernel
set_option maxRecDepth 100000 in
set_option maxHeartbeats 4000000 in
theorem c_X2_size (l : Launch) (D : va_G) (cI cO : ClassId) (b : Nat) (k : Nat) (hk : nK k = true) (S : St) (r : Int32) (hf : f_X2_size S k = some r) : Met l yX2_size (Cond.code yX2_size cX2_size 1 (some .int) :: wsAll) rm_X2_size (PX D (wC cI cO b) (tyC cI cO) S [.ref (b + k)]) (Qi D (wC cI cO b) (tyC cI cO) (AC b) r S) 0 0 (AC b) := by
  unfold f_X2_size at hf
  refine g_met RX2 (by decide +kernel) (Nat.le_of_ble_eq_true rfl) rfl ?_
  intro p e s m args below meth c ls Q F hr hlocks hK hP hl hQ
  have hx := F.1
  have hb := F.2.1
  have hS : va_S (AC b) s.heap s.heap [] := va_S.rf
  have hl : lv_has ls 1 [(0, .ref (b + k))] := hl
  refine lv_aload_n hx hb dX2_size_0 rfl (lv_at hl 0 rfl) ?_
  refine g_get F hK hP inA2 k (wC_N hk) rfl 1 (by decide) wd_41 (v := .int (gi S k)) rfl dX2_size_1 ?_
  exact g_iret F hr hlocks hQ hK hP hS (Option.some.inj hf) rfl dX2_size_4
abbrev rm_X5_lineCount : Room := { frames := 1, cells := 0, slots := 0, locals := 20 }
theorem hd_X5_lineCount : yX5_lineCount.cls = RX5 ∧ yX5_lineCount.cls ≠ "java/lang/invoke/MethodHandle" ∧ yX5_lineCount.cls ≠ "java/lang/invoke/VarHandle" ∧ (parseMethodDescriptor yX5_lineCount.desc).map (fun d => d.parameters.length) = some 0 := by decide +kernel
set_option maxRecDepth 100000 in
set_option maxHeartbeats 4000000 in
theorem c_X5_lineCount (l : Launch) (D : va_G) (cI cO : ClassId) (b : Nat) (z : Nat) (hz : z < 4) (S : St) (r : Int32) (hf : f_X5_lineCount S z = some r) : Met l yX5_lineCount (Cond.code yX5_lineCount cX5_lineCount 1 (some .int) :: wsAll) rm_X5_lineCount (PX D (wC cI cO b) (tyC cI cO) S [.ref (b + (oT z))]) (Qi D (wC cI cO b) (tyC cI cO) (AC b) r S) 0 0 (AC b) := by
  unfold f_X5_lineCount at hf
  refine g_met RX5 (by decide +kernel) (Nat.le_of_ble_eq_true rfl) rfl ?_
  intro p e s m args below meth c ls Q F hr hlocks hK hP hl hQ
  have hx := F.1
  have hb := F.2.1
  have hS : va_S (AC b) s.heap s.heap [] := va_S.rf
  have hl : lv_has ls 1 [(0, .ref (b + (oT z)))] := hl
  refine lv_aload_n hx hb dX5_lineCount_0 rfl (lv_at hl 0 rfl) ?_
  refine g_get F hK hP inA5 (oT z) (wC_T hz) rfl 1 (by decide) wd_94 (v := .ref (b + (oT z + 1))) rfl dX5_lineCount_1 ?_
  obtain ⟨v4, q4, hf⟩ := cl_some hf
  refine g_calli F hK hP hS [] (c_X2_size l D cI cO b (oT z + 1) (nKT _ hz).1 S v4 q4) wd_450 wd_203 wd_204 wd_3 wd_205 (wC_N (nKT _ hz).1) rfl hd_X2_size rfl rfl ⟨Nat.le_of_ble_eq_true rfl, Nat.le_of_ble_eq_true rfl⟩ rfl hl (rest := []) rfl (Nat.le_of_ble_eq_true rfl) dX5_lineCount_4 ⟨Nat.le_of_ble_eq_true rfl, Nat.le_of_ble_eq_true rfl⟩ (fun H locs hP hS => ?_)
  exact g_iret F hr hlocks hQ hK hP hS (Option.some.inj hf) rfl dX5_lineCount_7
abbrev rm_X2_at : Room := { frames := 0, cells := 0, slots := 0, locals := 0 }
theorem hd_X2_at : yX2_at.cls = RX2 ∧ yX2_at.cls ≠ "java/lang/invoke/MethodHandle" ∧ yX2_at.cls ≠ "java/lang/invoke/VarHandle" ∧ (parseMethodDescriptor yX2_at.desc).map (fun d => d.parameters.length) = some 1 := by decide +kernel
set_option maxRecDepth 100000 in
set_option maxHeartbeats 4000000 in
theorem c_X2_at (l : Launch) (D : va_G) (cI cO : ClassId) (b : Nat) (k : Nat) (hk : nK k = true) (S : St) (x1 : Int32) (r : Int32) (hf : f_X2_at S k x1 = some r) : Met l yX2_at (Cond.code yX2_at cX2_at 2 (some .int) :: wsAll) rm_X2_at (PX D (wC cI cO b) (tyC cI cO) S [.ref (b + k), .int x1]) (Qi D (wC cI cO b) (tyC cI cO) (AC b) r S) 0 0 (AC b) := by
  unfold f_X2_at at hf
  refine g_met RX2 (by decide +kernel) (Nat.le_of_ble_eq_true rfl) rfl ?_
  intro p e s m args below meth c ls Q F hr hlocks hK hP hl hQ
  have hx := F.1
  have hb := F.2.1
  have hS : va_S (AC b) s.heap s.heap [] := va_S.rf
  have hl : lv_has ls 2 [(0, .ref (b + k)), (1, .int x1)] := hl
  refine lv_iload_n hx hb dX2_at_0 rfl (lv_at hl 1 rfl) ?_
  obtain ⟨J22, eJ22, hf⟩ := jn_some hf
  have kJ22 : ∀ (H : Heap) (locs : List Loc) (ls : Array Slot), J22 = some r → va_P D vwCl ((wC cI cO b) S) H → va_S (AC b) s.heap H locs → lv_has ls 2 [] → W p l e rm_X2_at s m args below meth c H locs 0 0 Q (F0 m 22 ls []) := by
    intro  H locs ls hf hP hS hl
    rw [eJ22] at hf
    refine lv_iconst (v := -1) hx hb dX2_at_22 (by decide) ?_
    exact g_iret F hr hlocks hQ hK hP hS (Option.some.inj hf) rfl dX2_at_23
  clear eJ22
  refine lv_if_lt (tgt := 22) hx hb dX2_at_1 (by decide) (fun q => ?_) (fun q => ?_)
  · replace hf := ite_t q hf
    exact kJ22 _ _ _ hf hP hS (lv_sub hl [] rfl)
  · replace hf := ite_f q hf
    refine lv_iload_n hx hb dX2_at_4 rfl (lv_at hl 1 rfl) ?_
    refine lv_aload_n hx hb dX2_at_5 rfl (lv_at hl 0 rfl) ?_
    refine g_get F hK hP inA2 k (wC_N hk) rfl 0 (by decide) wd_40 (v := .ref (b + (k + 1))) rfl dX2_at_6 ?_
    refine va_alen hx hb hK hP (k + 1) 0 (wC_A hk) rfl (v := nI (ln k)) rfl dX2_at_9 ?_
    refine lv_icmp_ge (tgt := 22) hx hb dX2_at_10 (by decide) (fun q => ?_) (fun q => ?_)
    · replace hf := ite_t q hf
      exact kJ22 _ _ _ hf hP hS (lv_sub hl [] rfl)
    · replace hf := ite_f q hf
      refine lv_aload_n hx hb dX2_at_13 rfl (lv_at hl 0 rfl) ?_
      refine g_get F hK hP inA2 k (wC_N hk) rfl 0 (by decide) wd_40 (v := .ref (b + (k + 1))) rfl dX2_at_14 ?_
      refine lv_iload_n hx hb dX2_at_17 rfl (lv_at hl 1 rfl) ?_
      obtain ⟨hi, hf⟩ := ck_some hf
      refine va_iald hx hb hK hP (k + 1) 0 (wC_A hk) rfl hi dX2_at_18 ?_
      refine lv_goto (tgt := 23) hx hb dX2_at_19 (by decide) ?_
      exact g_iret F hr hlocks hQ hK hP hS (Option.some.inj hf) rfl dX2_at_23
abbrev rm_X5_line : Room := { frames := 1, cells := 0, slots := 0, locals := 21 }
theorem hd_X5_line : yX5_line.cls = RX5 ∧ yX5_line.cls ≠ "java/lang/invoke/MethodHandle" ∧ yX5_line.cls ≠ "java/lang/invoke/VarHandle" ∧ (parseMethodDescriptor yX5_line.desc).map (fun d => d.parameters.length) = some 1 := by decide +kernel
set_option maxRecDepth 100000 in
set_option maxHeartbeats 4000000 in
theorem c_X5_line (l : Launch) (D : va_G) (cI cO : ClassId) (b : Nat) (z : Nat) (hz : z < 4) (S : St) (x1 : Int32) (r : Int32) (hf : f_X5_line S z x1 = some r) : Met l yX5_line (Cond.code yX5_line cX5_line 2 (some .int) :: wsAll) rm_X5_line (PX D (wC cI cO b) (tyC cI cO) S [.ref (b + (oT z)), .int x1]) (Qi D (wC cI cO b) (tyC cI cO) (AC b) r S) 0 0 (AC b) := by
  unfold f_X5_line at hf
  refine g_met RX5 (by decide +kernel) (Nat.le_of_ble_eq_true rfl) rfl ?_
  intro p e s m args below meth c ls Q F hr hlocks hK hP hl hQ
  have hx := F.1
  have hb := F.2.1
  have hS : va_S (AC b) s.heap s.heap [] := va_S.rf
  have hl : lv_has ls 2 [(0, .ref (b + (oT z))), (1, .int x1)] := hl
  refine lv_aload_n hx hb dX5_line_0 rfl (lv_at hl 0 rfl) ?_
  refine g_get F hK hP inA5 (oT z) (wC_T hz) rfl 1 (by decide) wd_94 (v := .ref (b + (oT z + 1))) rfl dX5_line_1 ?_
  refine lv_iload_n hx hb dX5_line_4 rfl (lv_at hl 1 rfl) ?_
  obtain ⟨v5, q5, hf⟩ := cl_some hf
  refine g_calli F hK hP hS [.int x1] (c_X2_at l D cI cO b (oT z + 1) (nKT _ hz).1 S x1 v5 q5) wd_342 wd_232 wd_233 wd_3 wd_234 (wC_N (nKT _ hz).1) rfl hd_X2_at rfl rfl ⟨Nat.le_of_ble_eq_true rfl, Nat.le_of_ble_eq_true rfl⟩ rfl hl (rest := []) rfl (Nat.le_of_ble_eq_true rfl) dX5_line_5 ⟨Nat.le_of_ble_eq_true rfl, Nat.le_of_ble_eq_true rfl⟩ (fun H locs hP hS => ?_)
  exact g_iret F hr hlocks hQ hK hP hS (Option.some.inj hf) rfl dX5_line_8
abbrev rm_X5_hasThere : Room := { frames := 1, cells := 0, slots := 0, locals := 21 }
theorem hd_X5_hasThere : yX5_hasThere.cls = RX5 ∧ yX5_hasThere.cls ≠ "java/lang/invoke/MethodHandle" ∧ yX5_hasThere.cls ≠ "java/lang/invoke/VarHandle" ∧ (parseMethodDescriptor yX5_hasThere.desc).map (fun d => d.parameters.length) = some 1 := by decide +kernel
set_option maxRecDepth 100000 in
set_option maxHeartbeats 4000000 in
theorem c_X5_hasThere (l : Launch) (D : va_G) (cI cO : ClassId) (b : Nat) (z : Nat) (hz : z < 4) (S : St) (x1 : Int32) (r : Int32) (hf : f_X5_hasThere S z x1 = some r) : Met l yX5_hasThere (Cond.code yX5_hasThere cX5_hasThere 2 (some .boolean) :: wsAll) rm_X5_hasThere (PX D (wC cI cO b) (tyC cI cO) S [.ref (b + (oT z)), .int x1]) (Qi D (wC cI cO b) (tyC cI cO) (AC b) r S) 0 0 (AC b) := by
  unfold f_X5_hasThere at hf
  refine g_met RX5 (by decide +kernel) (Nat.le_of_ble_eq_true rfl) rfl ?_
  intro p e s m args below meth c ls Q F hr hlocks hK hP hl hQ
  have hx := F.1
  have hb := F.2.1
  have hS : va_S (AC b) s.heap s.heap [] := va_S.rf
  have hl : lv_has ls 2 [(0, .ref (b + (oT z))), (1, .int x1)] := hl
  refine lv_aload_n hx hb dX5_hasThere_0 rfl (lv_at hl 0 rfl) ?_
  refine g_get F hK hP inA5 (oT z) (wC_T hz) rfl 4 (by decide) wd_97 (v := .ref (b + (oT z + 7))) rfl dX5_hasThere_1 ?_
  refine lv_iload_n hx hb dX5_hasThere_4 rfl (lv_at hl 1 rfl) ?_
  obtain ⟨v5, q5, hf⟩ := cl_some hf
  refine g_calli F hK hP hS [.int x1] (c_X2_at l D cI cO b (oT z + 7) (nKT _ hz).2.2.2.1 S x1 v5 q5) wd_342 wd_232 wd_233 wd_3 wd_234 (wC_N (nKT _ hz).2.2.2.1) rfl hd_X2_at rfl rfl ⟨Nat.le_of_ble_eq_true rfl, Nat.le_of_ble_eq_true rfl⟩ rfl hl (rest := []) rfl (Nat.le_of_ble_eq_true rfl) dX5_hasThere_5 ⟨Nat.le_of_ble_eq_true rfl, Nat.le_of_ble_eq_true rfl⟩ (fun H locs hP hS => ?_)
  refine lv_iconst (v := 1) hx hb dX5_hasThere_8 (by decide) ?_
  refine lv_icmp_ne (tgt := 16) hx hb dX5_hasThere_9 (by decide) (fun q => ?_) (fun q => ?_)
  · replace hf := ite_t q hf
    refine lv_iconst (v := 0) hx hb dX5_hasThere_16 (by decide) ?_
    exact g_zret F hr hlocks hQ hK hP hS rfl (Option.some.inj hf) rfl dX5_hasThere_17
  · replace hf := ite_f (fun h => h q) hf
    refine lv_iconst (v := 1) hx hb dX5_hasThere_12 (by decide) ?_
    refine lv_goto (tgt := 17) hx hb dX5_hasThere_13 (by decide) ?_
    exact g_zret F hr hlocks hQ hK hP hS rfl (Option.some.inj hf) rfl dX5_hasThere_17
abbrev rm_X1_beginsParagraph : Room := { frames := 1, cells := 0, slots := 0, locals := 21 }
theorem hd_X1_beginsParagraph : yX1_beginsParagraph.cls = RX1 ∧ yX1_beginsParagraph.cls ≠ "java/lang/invoke/MethodHandle" ∧ yX1_beginsParagraph.cls ≠ "java/lang/invoke/VarHandle" ∧ (parseMethodDescriptor yX1_beginsParagraph.desc).map (fun d => d.parameters.length) = some 1 := by decide +kernel
set_option maxRecDepth 100000 in
set_option maxHeartbeats 4000000 in
theorem c_X1_beginsParagraph (l : Launch) (D : va_G) (cI cO : ClassId) (b : Nat) (S : St) (x1 : Int32) (r : Int32) (hf : f_X1_beginsParagraph S x1 = some r) : Met l yX1_beginsParagraph (Cond.code yX1_beginsParagraph cX1_beginsParagraph 2 (some .boolean) :: wsAll) rm_X1_beginsParagraph (PX D (wC cI cO b) (tyC cI cO) S [.ref (b + 1), .int x1]) (Qi D (wC cI cO b) (tyC cI cO) (AC b) r S) 0 0 (AC b) := by
  unfold f_X1_beginsParagraph at hf
  refine g_met RX1 (by decide +kernel) (Nat.le_of_ble_eq_true rfl) rfl ?_
  intro p e s m args below meth c ls Q F hr hlocks hK hP hl hQ
  have hx := F.1
  have hb := F.2.1
  have hS : va_S (AC b) s.heap s.heap [] := va_S.rf
  have hl : lv_has ls 2 [(0, .ref (b + 1)), (1, .int x1)] := hl
  refine lv_aload_n hx hb dX1_beginsParagraph_0 rfl (lv_at hl 0 rfl) ?_
  refine g_get F hK hP inA1 1 wC_G rfl 7 (by decide) wd_55 (v := .ref (b + 16)) rfl dX1_beginsParagraph_1 ?_
  refine lv_iload_n hx hb dX1_beginsParagraph_4 rfl (lv_at hl 1 rfl) ?_
  obtain ⟨v5, q5, hf⟩ := cl_some hf
  refine g_calli F hK hP hS [.int x1] (c_X2_at l D cI cO b (16) nK_16 S x1 v5 q5) wd_429 wd_232 wd_233 wd_3 wd_234 (wC_N nK_16) rfl hd_X2_at rfl rfl ⟨Nat.le_of_ble_eq_true rfl, Nat.le_of_ble_eq_true rfl⟩ rfl hl (rest := []) rfl (Nat.le_of_ble_eq_true rfl) dX1_beginsParagraph_5 ⟨Nat.le_of_ble_eq_true rfl, Nat.le_of_ble_eq_true rfl⟩ (fun H locs hP hS => ?_)
  refine lv_iconst (v := 1) hx hb dX1_beginsParagraph_8 (by decide) ?_
  refine lv_icmp_ne (tgt := 16) hx hb dX1_beginsParagraph_9 (by decide) (fun q => ?_) (fun q => ?_)
  · replace hf := ite_t q hf
    refine lv_iconst (v := 0) hx hb dX1_beginsParagraph_16 (by decide) ?_
    exact g_zret F hr hlocks hQ hK hP hS rfl (Option.some.inj hf) rfl dX1_beginsParagraph_17
  · replace hf := ite_f (fun h => h q) hf
    refine lv_iconst (v := 1) hx hb dX1_beginsParagraph_12 (by decide) ?_
    refine lv_goto (tgt := 17) hx hb dX1_beginsParagraph_13 (by decide) ?_
    exact g_zret F hr hlocks hQ hK hP hS rfl (Option.some.inj hf) rfl dX1_beginsParagraph_17
abbrev rm_X2_put : Room := { frames := 0, cells := 0, slots := 0, locals := 0 }
theorem hd_X2_put : yX2_put.cls = RX2 ∧ yX2_put.cls ≠ "java/lang/invoke/MethodHandle" ∧ yX2_put.cls ≠ "java/lang/invoke/VarHandle" ∧ (parseMethodDescriptor yX2_put.desc).map (fun d => d.parameters.length) = some 2 := by decide +kernel
set_option maxRecDepth 100000 in
set_option maxHeartbeats 4000000 in
theorem c_X2_put (l : Launch) (D : va_G) (cI cO : ClassId) (b : Nat) (k : Nat) (hk : nK k = true) (S : St) (x1 : Int32) (x2 : Int32) (S1 : St) (hf : f_X2_put S k x1 x2 = some S1) : Met l yX2_put (Cond.code yX2_put cX2_put 3 none :: wsAll) rm_X2_put (PX D (wC cI cO b) (tyC cI cO) S [.ref (b + k), .int x1, .int x2]) (Qv D (wC cI cO b) (tyC cI cO) (AC b) S1) 0 0 (AC b) := by
  unfold f_X2_put at hf
  refine g_met RX2 (by decide +kernel) (Nat.le_of_ble_eq_true rfl) rfl ?_
  intro p e s m args below meth c ls Q F hr hlocks hK hP hl hQ
  have hx := F.1
  have hb := F.2.1
  have hS : va_S (AC b) s.heap s.heap [] := va_S.rf
  have hl : lv_has ls 3 [(0, .ref (b + k)), (1, .int x1), (2, .int x2)] := hl
  refine lv_iload_n hx hb dX2_put_0 rfl (lv_at hl 1 rfl) ?_
  refine lv_if_lt (tgt := 20) hx hb dX2_put_1 (by decide) (fun q => ?_) (fun q => ?_)
  · replace hf := ite_t q hf
    exact g_vret F hr hlocks hQ hK hP hS (Option.some.inj hf) dX2_put_20
  · replace hf := ite_f q hf
    refine lv_iload_n hx hb dX2_put_4 rfl (lv_at hl 1 rfl) ?_
    refine lv_aload_n hx hb dX2_put_5 rfl (lv_at hl 0 rfl) ?_
    refine g_get F hK hP inA2 k (wC_N hk) rfl 0 (by decide) wd_40 (v := .ref (b + (k + 1))) rfl dX2_put_6 ?_
    refine va_alen hx hb hK hP (k + 1) 0 (wC_A hk) rfl (v := nI (ln k)) rfl dX2_put_9 ?_
    refine lv_icmp_ge (tgt := 20) hx hb dX2_put_10 (by decide) (fun q => ?_) (fun q => ?_)
    · replace hf := ite_t q hf
      exact g_vret F hr hlocks hQ hK hP hS (Option.some.inj hf) dX2_put_20
    · replace hf := ite_f q hf
      refine lv_aload_n hx hb dX2_put_13 rfl (lv_at hl 0 rfl) ?_
      refine g_get F hK hP inA2 k (wC_N hk) rfl 0 (by decide) wd_40 (v := .ref (b + (k + 1))) rfl dX2_put_14 ?_
      refine lv_iload_n hx hb dX2_put_17 rfl (lv_at hl 1 rfl) ?_
      refine lv_iload_n hx hb dX2_put_18 rfl (lv_at hl 2 rfl) ?_
      obtain ⟨hi, hf⟩ := ck_some hf
      obtain ⟨S_19, eS_19, hf⟩ := lt_some hf
      refine g_iast (S1 := S_19) hx hb hK hP wC_D hS (k + 1) 0 (wC_A hk) rfl hi (by rw [eS_19]; exact wC_sa hk) dX2_put_19 (fun H locs hP hS => ?_)
      exact g_vret F hr hlocks hQ hK hP hS (Option.some.inj hf) dX2_put_20
abbrev rm_X2_putBetween : Room := { frames := 1, cells := 0, slots := 0, locals := 22 }
theorem hd_X2_putBetween : yX2_putBetween.cls = RX2 ∧ yX2_putBetween.cls ≠ "java/lang/invoke/MethodHandle" ∧ yX2_putBetween.cls ≠ "java/lang/invoke/VarHandle" ∧ (parseMethodDescriptor yX2_putBetween.desc).map (fun d => d.parameters.length) = some 2 := by decide +kernel
set_option maxRecDepth 100000 in
set_option maxHeartbeats 4000000 in
theorem c_X2_putBetween (l : Launch) (D : va_G) (cI cO : ClassId) (b : Nat) (k : Nat) (hk : nK k = true) (S : St) (x1 : Int32) (x2 : Int32) (S1 : St) (hf : f_X2_putBetween S k x1 x2 = some S1) : Met l yX2_putBetween (Cond.code yX2_putBetween cX2_putBetween 4 none :: wsAll) rm_X2_putBetween (PX D (wC cI cO b) (tyC cI cO) S [.ref (b + k), .int x1, .int x2]) (Qv D (wC cI cO b) (tyC cI cO) (AC b) S1) 0 0 (AC b) := by
  unfold f_X2_putBetween at hf
  refine g_met RX2 (by decide +kernel) (Nat.le_of_ble_eq_true rfl) rfl ?_
  intro p e s m args below meth c ls Q F hr hlocks hK hP hl hQ
  have hx := F.1
  have hb := F.2.1
  have hS : va_S (AC b) s.heap s.heap [] := va_S.rf
  have hl : lv_has ls 4 [(0, .ref (b + k)), (1, .int x1), (2, .int x2)] := hl
  refine lv_iload_n hx hb dX2_putBetween_0 rfl (lv_at hl 1 rfl) ?_
  refine lv_if_lt (tgt := 24) hx hb dX2_putBetween_1 (by decide) (fun q => ?_) (fun q => ?_)
  · replace hf := ite_t q hf
    exact g_vret F hr hlocks hQ hK hP hS (Option.some.inj hf) dX2_putBetween_24
  · replace hf := ite_f q hf
    refine lv_iload_n hx hb dX2_putBetween_4 rfl (lv_at hl 1 rfl) ?_
    refine lv_aload_n hx hb dX2_putBetween_5 rfl (lv_at hl 0 rfl) ?_
    refine g_get F hK hP inA2 k (wC_N hk) rfl 1 (by decide) wd_41 (v := .int (gi S k)) rfl dX2_putBetween_6 ?_
    refine lv_icmp_gt (tgt := 24) hx hb dX2_putBetween_9 (by decide) (fun q => ?_) (fun q => ?_)
    · replace hf := ite_t q hf
      exact g_vret F hr hlocks hQ hK hP hS (Option.some.inj hf) dX2_putBetween_24
    · replace hf := ite_f q hf
      refine lv_aload_n hx hb dX2_putBetween_12 rfl (lv_at hl 0 rfl) ?_
      refine g_get F hK hP inA2 k (wC_N hk) rfl 1 (by decide) wd_41 (v := .int (gi S k)) rfl dX2_putBetween_13 ?_
      refine lv_aload_n hx hb dX2_putBetween_16 rfl (lv_at hl 0 rfl) ?_
      refine g_get F hK hP inA2 k (wC_N hk) rfl 0 (by decide) wd_40 (v := .ref (b + (k + 1))) rfl dX2_putBetween_17 ?_
      refine va_alen hx hb hK hP (k + 1) 0 (wC_A hk) rfl (v := nI (ln k)) rfl dX2_putBetween_20 ?_
      refine lv_icmp_lt (tgt := 25) hx hb dX2_putBetween_21 (by decide) (fun q => ?_) (fun q => ?_)
      · replace hf := ite_t q hf
        refine lv_aload_n hx hb dX2_putBetween_25 rfl (lv_at hl 0 rfl) ?_
        refine g_get F hK hP inA2 k (wC_N hk) rfl 1 (by decide) wd_41 (v := .int (gi S k)) rfl dX2_putBetween_26 ?_
        obtain ⟨x3_29, ex3_29, hf⟩ := lt_some hf
        rw [← ex3_29]
        refine lv_istore_n (lv' := [(3, .int x3_29), (0, .ref (b + k)), (1, .int x1), (2, .int x2)]) hx hb dX2_putBetween_29 rfl hl (by decide) rfl (fun ls hl => ?_)
        refine Lp2_ind (P := fun (x3_30 : Int32) (S_30 : St) => ∀ (H : Heap) (locs : List Loc) (ls : Array Slot), va_P D vwCl ((wC cI cO b) S_30) H → va_S (AC b) s.heap H locs → lv_has ls 4 [(0, .ref (b + k)), (1, .int x1), (2, .int x2), (3, .int x3_30)] → W p l e rm_X2_putBetween s m args below meth c H locs 0 0 Q (F0 m 30 ls [])) ?_ _ _ _ hf _ _ _ hP hS (lv_sub hl [1, 2, 3, 0] rfl)
        clear hf hP hS hl
        intro nx30 x3_30 S_30 ih30 hf H locs ls hP hS hl
        refine lv_iload_n hx hb dX2_putBetween_30 rfl (lv_at hl 3 rfl) ?_
        refine lv_iload_n hx hb dX2_putBetween_31 rfl (lv_at hl 1 rfl) ?_
        refine lv_icmp_le (tgt := 53) hx hb dX2_putBetween_32 (by decide) (fun q => ?_) (fun q => ?_)
        · replace hf := ite_t q hf
          refine lv_aload_n hx hb dX2_putBetween_53 rfl (lv_at hl 0 rfl) ?_
          refine lv_iload_n hx hb dX2_putBetween_54 rfl (lv_at hl 1 rfl) ?_
          refine lv_iload_n hx hb dX2_putBetween_55 rfl (lv_at hl 2 rfl) ?_
          obtain ⟨S_56, q56, hf⟩ := cl_some hf
          refine g_callv F hK hP hS [.int x1, .int x2] (c_X2_put l D cI cO b k hk S_30 x1 x2 S_56 q56) wd_402 wd_403 wd_404 wd_3 wd_405 (wC_N hk) rfl hd_X2_put rfl rfl ⟨Nat.le_of_ble_eq_true rfl, Nat.le_of_ble_eq_true rfl⟩ rfl hl (rest := []) rfl (Nat.le_of_ble_eq_true rfl) dX2_putBetween_56 ⟨Nat.le_of_ble_eq_true rfl, Nat.le_of_ble_eq_true rfl⟩ (fun H locs hP hS => ?_)
          refine lv_aload_n hx hb dX2_putBetween_59 rfl (lv_at hl 0 rfl) ?_
          refine lv_dup hx hb dX2_putBetween_60 rfl ?_
          refine g_get F hK hP inA2 k (wC_N hk) rfl 1 (by decide) wd_41 (v := .int (gi S_56 k)) rfl dX2_putBetween_61 ?_
          refine lv_iconst (v := 1) hx hb dX2_putBetween_64 (by decide) ?_
          refine lv_iadd hx hb dX2_putBetween_65 ?_
          obtain ⟨S_66, eS_66, hf⟩ := lt_some hf
          refine g_puti (S1 := S_66) F hK hP wC_D hS inA2 tyX2 tyX2_ok nmX2 k (wC_N hk) rfl 1 (by decide) wd_41 rfl (by decide +kernel) (Nat.le_of_ble_eq_true rfl) (by rw [eS_66]; exact wC_si hk) dX2_putBetween_66 (fun H locs hP hS => ?_)
          exact g_vret F hr hlocks hQ hK hP hS (Option.some.inj hf) dX2_putBetween_69
        · replace hf := ite_f q hf
          refine lv_aload_n hx hb dX2_putBetween_35 rfl (lv_at hl 0 rfl) ?_
          refine lv_iload_n hx hb dX2_putBetween_36 rfl (lv_at hl 3 rfl) ?_
          refine lv_aload_n hx hb dX2_putBetween_37 rfl (lv_at hl 0 rfl) ?_
          refine lv_iload_n hx hb dX2_putBetween_38 rfl (lv_at hl 3 rfl) ?_
          refine lv_iconst (v := 1) hx hb dX2_putBetween_39 (by decide) ?_
          refine lv_isub hx hb dX2_putBetween_40 ?_
          obtain ⟨v41, q41, hf⟩ := cl_some hf
          refine g_calli F hK hP hS [.int (x3_30 - (1 : Int32))] (c_X2_at l D cI cO b k hk S_30 (x3_30 - (1 : Int32)) v41 q41) wd_401 wd_232 wd_233 wd_3 wd_234 (wC_N hk) rfl hd_X2_at rfl rfl ⟨Nat.le_of_ble_eq_true rfl, Nat.le_of_ble_eq_true rfl⟩ rfl hl (rest := [.int x3_30, .ref (b + k)]) rfl (Nat.le_of_ble_eq_true rfl) dX2_putBetween_41 ⟨Nat.le_of_ble_eq_true rfl, Nat.le_of_ble_eq_true rfl⟩ (fun H locs hP hS => ?_)
          obtain ⟨S_44, q44, hf⟩ := cl_some hf
          refine g_callv F hK hP hS [.int x3_30, .int v41] (c_X2_put l D cI cO b k hk S_30 x3_30 v41 S_44 q44) wd_402 wd_403 wd_404 wd_3 wd_405 (wC_N hk) rfl hd_X2_put rfl rfl ⟨Nat.le_of_ble_eq_true rfl, Nat.le_of_ble_eq_true rfl⟩ rfl hl (rest := []) rfl (Nat.le_of_ble_eq_true rfl) dX2_putBetween_44 ⟨Nat.le_of_ble_eq_true rfl, Nat.le_of_ble_eq_true rfl⟩ (fun H locs hP hS => ?_)
          obtain ⟨x3_47, ex3_47, hf⟩ := lt_some hf
          refine lv_iinc (v := x3_47) (lv' := [(3, .int x3_47), (0, .ref (b + k)), (1, .int x1), (2, .int x2)]) hx hb dX2_putBetween_47 hl (k := 3) rfl (by rw [ex3_47]; rfl) (by decide) rfl (fun ls hl => ?_)
          refine lv_goto (tgt := 30) hx hb dX2_putBetween_50 (by decide) ?_
          exact ih30 _ _ hf _ _ _ hP hS (lv_sub hl [1, 2, 3, 0] rfl)
      · replace hf := ite_f q hf
        exact g_vret F hr hlocks hQ hK hP hS (Option.some.inj hf) dX2_putBetween_24
abbrev rm_X2_add : Room := { frames := 2, cells := 0, slots := 0, locals := 45 }
theorem hd_X2_add : yX2_add.cls = RX2 ∧ yX2_add.cls ≠ "java/lang/invoke/MethodHandle" ∧ yX2_add.cls ≠ "java/lang/invoke/VarHandle" ∧ (parseMethodDescriptor yX2_add.desc).map (fun d => d.parameters.length) = some 1 := by decide +kernel
set_option maxRecDepth 100000 in
set_option maxHeartbeats 4000000 in
theorem c_X2_add (l : Launch) (D : va_G) (cI cO : ClassId) (b : Nat) (k : Nat) (hk : nK k = true) (S : St) (x1 : Int32) (S1 : St) (hf : f_X2_add S k x1 = some S1) : Met l yX2_add (Cond.code yX2_add cX2_add 2 none :: wsAll) rm_X2_add (PX D (wC cI cO b) (tyC cI cO) S [.ref (b + k), .int x1]) (Qv D (wC cI cO b) (tyC cI cO) (AC b) S1) 0 0 (AC b) := by
  unfold f_X2_add at hf
  refine g_met RX2 (by decide +kernel) (Nat.le_of_ble_eq_true rfl) rfl ?_
  intro p e s m args below meth c ls Q F hr hlocks hK hP hl hQ
  have hx := F.1
  have hb := F.2.1
  have hS : va_S (AC b) s.heap s.heap [] := va_S.rf
  have hl : lv_has ls 2 [(0, .ref (b + k)), (1, .int x1)] := hl
  refine lv_aload_n hx hb dX2_add_0 rfl (lv_at hl 0 rfl) ?_
  refine lv_aload_n hx hb dX2_add_1 rfl (lv_at hl 0 rfl) ?_
  refine g_get F hK hP inA2 k (wC_N hk) rfl 1 (by decide) wd_41 (v := .int (gi S k)) rfl dX2_add_2 ?_
  refine lv_iload_n hx hb dX2_add_5 rfl (lv_at hl 1 rfl) ?_
  obtain ⟨S_6, q6, hf⟩ := cl_some hf
  refine g_callv F hK hP hS [.int (gi S k), .int x1] (c_X2_putBetween l D cI cO b k hk S (gi S k) x1 S_6 q6) wd_397 wd_398 wd_399 wd_3 wd_400 (wC_N hk) rfl hd_X2_putBetween rfl rfl ⟨Nat.le_of_ble_eq_true rfl, Nat.le_of_ble_eq_true rfl⟩ rfl hl (rest := []) rfl (Nat.le_of_ble_eq_true rfl) dX2_add_6 ⟨Nat.le_of_ble_eq_true rfl, Nat.le_of_ble_eq_true rfl⟩ (fun H locs hP hS => ?_)
  exact g_vret F hr hlocks hQ hK hP hS (Option.some.inj hf) dX2_add_9
abbrev rm_X0_gatherLines : Room := { frames := 3, cells := 0, slots := 0, locals := 66 }
theorem hd_X0_gatherLines : yX0_gatherLines.cls = RX0 ∧ yX0_gatherLines.cls ≠ "java/lang/invoke/MethodHandle" ∧ yX0_gatherLines.cls ≠ "java/lang/invoke/VarHandle" ∧ (parseMethodDescriptor yX0_gatherLines.desc).map (fun d => d.parameters.length) = some 0 := by decide +kernel
set_option maxRecDepth 100000 in
set_option maxHeartbeats 4000000 in
theorem c_X0_gatherLines (l : Launch) (D : va_G) (cI cO : ClassId) (b : Nat) (z : Nat) (hz : z < 4) (S : St) (S1 : St) (hf : f_X0_gatherLines S z = some S1) : Met l yX0_gatherLines (Cond.code yX0_gatherLines cX0_gatherLines 4 none :: wsAll) rm_X0_gatherLines (PX D (wC cI cO b) (tyC cI cO) S [.ref (b + (oL z))]) (Qv D (wC cI cO b) (tyC cI cO) (AC b) S1) 0 0 (AC b) := by
  unfold f_X0_gatherLines at hf
  refine g_met RX0 (by decide +kernel) (Nat.le_of_ble_eq_true rfl) rfl ?_
  intro p e s m args below meth c ls Q F hr hlocks hK hP hl hQ
  have hx := F.1
  have hb := F.2.1
  have hS : va_S (AC b) s.heap s.heap [] := va_S.rf
  have hl : lv_has ls 4 [(0, .ref (b + (oL z)))] := hl
  refine lv_aload_n hx hb dX0_gatherLines_0 rfl (lv_at hl 0 rfl) ?_
  refine g_get F hK hP inA0 (oL z) (wC_L hz) rfl 2 (by decide) wd_125 (v := .ref (b + (oL z + 1))) rfl dX0_gatherLines_1 ?_
  obtain ⟨S_4, q4, hf⟩ := cl_some hf
  refine g_callv F hK hP hS [] (c_X2_clear l D cI cO b (oL z + 1) (nKL _ hz).1 S S_4 q4) wd_473 wd_474 wd_475 wd_3 wd_476 (wC_N (nKL _ hz).1) rfl hd_X2_clear rfl rfl ⟨Nat.le_of_ble_eq_true rfl, Nat.le_of_ble_eq_true rfl⟩ rfl hl (rest := []) rfl (Nat.le_of_ble_eq_true rfl) dX0_gatherLines_4 ⟨Nat.le_of_ble_eq_true rfl, Nat.le_of_ble_eq_true rfl⟩ (fun H locs hP hS => ?_)
  refine lv_aload_n hx hb dX0_gatherLines_7 rfl (lv_at hl 0 rfl) ?_
  refine g_get F hK hP inA0 (oL z) (wC_L hz) rfl 3 (by decide) wd_126 (v := .ref (b + (oL z + 3))) rfl dX0_gatherLines_8 ?_
  obtain ⟨S_11, q11, hf⟩ := cl_some hf
  refine g_callv F hK hP hS [] (c_X2_clear l D cI cO b (oL z + 3) (nKL _ hz).2.1 S_4 S_11 q11) wd_473 wd_474 wd_475 wd_3 wd_476 (wC_N (nKL _ hz).2.1) rfl hd_X2_clear rfl rfl ⟨Nat.le_of_ble_eq_true rfl, Nat.le_of_ble_eq_true rfl⟩ rfl hl (rest := []) rfl (Nat.le_of_ble_eq_true rfl) dX0_gatherLines_11 ⟨Nat.le_of_ble_eq_true rfl, Nat.le_of_ble_eq_true rfl⟩ (fun H locs hP hS => ?_)
  refine lv_iconst (v := 0) hx hb dX0_gatherLines_14 (by decide) ?_
  refine lv_istore_n (lv' := [(1, .int (0 : Int32)), (0, .ref (b + (oL z)))]) hx hb dX0_gatherLines_15 rfl hl (by decide) rfl (fun ls hl => ?_)
  refine Lp2_ind (P := fun (x1_16 : Int32) (S_16 : St) => ∀ (H : Heap) (locs : List Loc) (ls : Array Slot), va_P D vwCl ((wC cI cO b) S_16) H → va_S (AC b) s.heap H locs → lv_has ls 4 [(0, .ref (b + (oL z))), (1, .int x1_16)] → W p l e rm_X0_gatherLines s m args below meth c H locs 0 0 Q (F0 m 16 ls [])) ?_ _ _ _ hf _ _ _ hP hS (lv_sub hl [1, 0] rfl)
  clear hf hP hS hl
  intro nx16 x1_16 S_16 ih16 hf H locs ls hP hS hl
  refine lv_iload_n hx hb dX0_gatherLines_16 rfl (lv_at hl 1 rfl) ?_
  refine lv_aload_n hx hb dX0_gatherLines_17 rfl (lv_at hl 0 rfl) ?_
  refine g_get F hK hP inA0 (oL z) (wC_L hz) rfl 1 (by decide) wd_124 (v := .ref (b + (oT z))) rfl dX0_gatherLines_18 ?_
  obtain ⟨v21, q21, hf⟩ := cl_some hf
  refine g_calli F hK hP hS [] (c_X5_lineCount l D cI cO b z hz S_16 v21 q21) wd_477 wd_478 wd_479 wd_6 wd_480 (wC_T hz) rfl hd_X5_lineCount rfl rfl ⟨Nat.le_of_ble_eq_true rfl, Nat.le_of_ble_eq_true rfl⟩ rfl hl (rest := [.int x1_16]) rfl (Nat.le_of_ble_eq_true rfl) dX0_gatherLines_21 ⟨Nat.le_of_ble_eq_true rfl, Nat.le_of_ble_eq_true rfl⟩ (fun H locs hP hS => ?_)
  refine lv_icmp_ge (tgt := 113) hx hb dX0_gatherLines_24 (by decide) (fun q => ?_) (fun q => ?_)
  · replace hf := ite_t q hf
    exact g_vret F hr hlocks hQ hK hP hS (Option.some.inj hf) dX0_gatherLines_113
  · replace hf := ite_f q hf
    refine lv_aload_n hx hb dX0_gatherLines_27 rfl (lv_at hl 0 rfl) ?_
    refine g_get F hK hP inA0 (oL z) (wC_L hz) rfl 1 (by decide) wd_124 (v := .ref (b + (oT z))) rfl dX0_gatherLines_28 ?_
    refine lv_iload_n hx hb dX0_gatherLines_31 rfl (lv_at hl 1 rfl) ?_
    obtain ⟨v32, q32, hf⟩ := cl_some hf
    refine g_calli F hK hP hS [.int x1_16] (c_X5_line l D cI cO b z hz S_16 x1_16 v32 q32) wd_481 wd_482 wd_483 wd_6 wd_484 (wC_T hz) rfl hd_X5_line rfl rfl ⟨Nat.le_of_ble_eq_true rfl, Nat.le_of_ble_eq_true rfl⟩ rfl hl (rest := []) rfl (Nat.le_of_ble_eq_true rfl) dX0_gatherLines_32 ⟨Nat.le_of_ble_eq_true rfl, Nat.le_of_ble_eq_true rfl⟩ (fun H locs hP hS => ?_)
    refine lv_istore_n (lv' := [(2, .int v32), (0, .ref (b + (oL z))), (1, .int x1_16)]) hx hb dX0_gatherLines_35 rfl hl (by decide) rfl (fun ls hl => ?_)
    refine lv_aload_n hx hb dX0_gatherLines_36 rfl (lv_at hl 1 rfl) ?_
    refine g_get F hK hP inA0 (oL z) (wC_L hz) rfl 1 (by decide) wd_124 (v := .ref (b + (oT z))) rfl dX0_gatherLines_37 ?_
    refine lv_iload_n hx hb dX0_gatherLines_40 rfl (lv_at hl 0 rfl) ?_
    obtain ⟨v41, q41, hf⟩ := cl_some hf
    refine g_calli F hK hP hS [.int v32] (c_X5_hasThere l D cI cO b z hz S_16 v32 v41 q41) wd_485 wd_486 wd_487 wd_6 wd_488 (wC_T hz) rfl hd_X5_hasThere rfl rfl ⟨Nat.le_of_ble_eq_true rfl, Nat.le_of_ble_eq_true rfl⟩ rfl hl (rest := []) rfl (Nat.le_of_ble_eq_true rfl) dX0_gatherLines_41 ⟨Nat.le_of_ble_eq_true rfl, Nat.le_of_ble_eq_true rfl⟩ (fun H locs hP hS => ?_)
    obtain ⟨J107, eJ107, hf⟩ := jn_some hf
    have kJ107 : ∀ (S_107 : St) (H : Heap) (locs : List Loc) (ls : Array Slot), J107 S_107 = some S1 → va_P D vwCl ((wC cI cO b) S_107) H → va_S (AC b) s.heap H locs → lv_has ls 4 [(0, .ref (b + (oL z))), (1, .int x1_16)] → W p l e rm_X0_gatherLines s m args below meth c H locs 0 0 Q (F0 m 107 ls []) := by
      intro S_107 H locs ls hf hP hS hl
      rw [eJ107] at hf
      obtain ⟨x1_107, ex1_107, hf⟩ := lt_some hf
      refine lv_iinc (v := x1_107) (lv' := [(1, .int x1_107), (0, .ref (b + (oL z)))]) hx hb dX0_gatherLines_107 hl (k := 1) rfl (by rw [ex1_107]; rfl) (by decide) rfl (fun ls hl => ?_)
      refine lv_goto (tgt := 16) hx hb dX0_gatherLines_110 (by decide) ?_
      exact ih16 _ _ hf _ _ _ hP hS (lv_sub hl [1, 0] rfl)
    clear eJ107
    refine lv_if_eq (tgt := 107) hx hb dX0_gatherLines_44 (by decide) (fun q => ?_) (fun q => ?_)
    · replace hf := ite_t q hf
      exact kJ107 _ _ _ _ hf hP hS (lv_sub hl [1, 2] rfl)
    · replace hf := ite_f q hf
      refine lv_aload_n hx hb dX0_gatherLines_47 rfl (lv_at hl 1 rfl) ?_
      refine g_get F hK hP inA0 (oL z) (wC_L hz) rfl 2 (by decide) wd_125 (v := .ref (b + (oL z + 1))) rfl dX0_gatherLines_48 ?_
      obtain ⟨v51, q51, hf⟩ := cl_some hf
      refine g_calli F hK hP hS [] (c_X2_size l D cI cO b (oL z + 1) (nKL _ hz).1 S_16 v51 q51) wd_230 wd_203 wd_204 wd_3 wd_205 (wC_N (nKL _ hz).1) rfl hd_X2_size rfl rfl ⟨Nat.le_of_ble_eq_true rfl, Nat.le_of_ble_eq_true rfl⟩ rfl hl (rest := []) rfl (Nat.le_of_ble_eq_true rfl) dX0_gatherLines_51 ⟨Nat.le_of_ble_eq_true rfl, Nat.le_of_ble_eq_true rfl⟩ (fun H locs hP hS => ?_)
      obtain ⟨J68, eJ68, hf⟩ := jn_some hf
      have kJ68 : ∀ (H : Heap) (locs : List Loc) (ls : Array Slot), J68 = some S1 → va_P D vwCl ((wC cI cO b) S_16) H → va_S (AC b) s.heap H locs → lv_has ls 4 [(0, .ref (b + (oL z))), (1, .int x1_16), (2, .int v32)] → W p l e rm_X0_gatherLines s m args below meth c H locs 0 0 Q (F0 m 68 ls []) := by
        intro  H locs ls hf hP hS hl
        rw [eJ68] at hf
        refine lv_iconst (v := 1) hx hb dX0_gatherLines_68 (by decide) ?_
        refine lv_goto (tgt := 73) hx hb dX0_gatherLines_69 (by decide) ?_
        refine lv_istore_n (lv' := [(3, .int (1 : Int32)), (0, .ref (b + (oL z))), (1, .int x1_16), (2, .int v32)]) hx hb dX0_gatherLines_73 rfl hl (by decide) rfl (fun ls hl => ?_)
        refine lv_aload_n hx hb dX0_gatherLines_74 rfl (lv_at hl 1 rfl) ?_
        refine g_get F hK hP inA0 (oL z) (wC_L hz) rfl 2 (by decide) wd_125 (v := .ref (b + (oL z + 1))) rfl dX0_gatherLines_75 ?_
        refine lv_iload_n hx hb dX0_gatherLines_78 rfl (lv_at hl 3 rfl) ?_
        obtain ⟨S_79, q79, hf⟩ := cl_some hf
        refine g_callv F hK hP hS [.int v32] (c_X2_add l D cI cO b (oL z + 1) (nKL _ hz).1 S_16 v32 S_79 q79) wd_493 wd_394 wd_395 wd_3 wd_396 (wC_N (nKL _ hz).1) rfl hd_X2_add rfl rfl ⟨Nat.le_of_ble_eq_true rfl, Nat.le_of_ble_eq_true rfl⟩ rfl hl (rest := []) rfl (Nat.le_of_ble_eq_true rfl) dX0_gatherLines_79 ⟨Nat.le_of_ble_eq_true rfl, Nat.le_of_ble_eq_true rfl⟩ (fun H locs hP hS => ?_)
        refine lv_aload_n hx hb dX0_gatherLines_82 rfl (lv_at hl 1 rfl) ?_
        refine g_get F hK hP inA0 (oL z) (wC_L hz) rfl 3 (by decide) wd_126 (v := .ref (b + (oL z + 3))) rfl dX0_gatherLines_83 ?_
        refine lv_iload_n hx hb dX0_gatherLines_86 rfl (lv_at hl 0 rfl) ?_
        obtain ⟨J95, eJ95, hf⟩ := jn_some hf
        have kJ95 : ∀ (t0_95 : Int32) (H : Heap) (locs : List Loc) (ls : Array Slot), J95 t0_95 = some S1 → va_P D vwCl ((wC cI cO b) S_79) H → va_S (AC b) s.heap H locs → lv_has ls 4 [(0, .ref (b + (oL z))), (1, .int x1_16), (2, .int v32)] → W p l e rm_X0_gatherLines s m args below meth c H locs 0 0 Q (F0 m 95 ls [.int t0_95, .ref (b + (oL z + 3))]) := by
          intro t0_95 H locs ls hf hP hS hl
          rw [eJ95] at hf
          obtain ⟨S_95, q95, hf⟩ := cl_some hf
          refine g_callv F hK hP hS [.int t0_95] (c_X2_add l D cI cO b (oL z + 3) (nKL _ hz).2.1 S_79 t0_95 S_95 q95) wd_493 wd_394 wd_395 wd_3 wd_396 (wC_N (nKL _ hz).2.1) rfl hd_X2_add rfl rfl ⟨Nat.le_of_ble_eq_true rfl, Nat.le_of_ble_eq_true rfl⟩ rfl hl (rest := []) rfl (Nat.le_of_ble_eq_true rfl) dX0_gatherLines_95 ⟨Nat.le_of_ble_eq_true rfl, Nat.le_of_ble_eq_true rfl⟩ (fun H locs hP hS => ?_)
          refine lv_aload_n hx hb dX0_gatherLines_98 rfl (lv_at hl 0 rfl) ?_
          refine g_get F hK hP inA0 (oL z) (wC_L hz) rfl 4 (by decide) wd_127 (v := .ref (b + (oL z + 5))) rfl dX0_gatherLines_99 ?_
          refine lv_iload_n hx hb dX0_gatherLines_102 rfl (lv_at hl 2 rfl) ?_
          refine lv_iconst (v := 1) hx hb dX0_gatherLines_103 (by decide) ?_
          obtain ⟨S_104, q104, hf⟩ := cl_some hf
          refine g_callv F hK hP hS [.int v32, .int (1 : Int32)] (c_X2_put l D cI cO b (oL z + 5) (nKL _ hz).2.2.1 S_95 v32 (1 : Int32) S_104 q104) wd_494 wd_403 wd_404 wd_3 wd_405 (wC_N (nKL _ hz).2.2.1) rfl hd_X2_put rfl rfl ⟨Nat.le_of_ble_eq_true rfl, Nat.le_of_ble_eq_true rfl⟩ rfl hl (rest := []) rfl (Nat.le_of_ble_eq_true rfl) dX0_gatherLines_104 ⟨Nat.le_of_ble_eq_true rfl, Nat.le_of_ble_eq_true rfl⟩ (fun H locs hP hS => ?_)
          exact kJ107 _ _ _ _ hf hP hS (lv_sub hl [0, 1] rfl)
        clear eJ95
        refine lv_if_eq (tgt := 94) hx hb dX0_gatherLines_87 (by decide) (fun q => ?_) (fun q => ?_)
        · replace hf := ite_t q hf
          refine lv_iconst (v := 0) hx hb dX0_gatherLines_94 (by decide) ?_
          exact kJ95 _ _ _ _ hf hP hS (lv_sub hl [1, 2, 3] rfl)
        · replace hf := ite_f q hf
          refine lv_iconst (v := 1) hx hb dX0_gatherLines_90 (by decide) ?_
          refine lv_goto (tgt := 95) hx hb dX0_gatherLines_91 (by decide) ?_
          exact kJ95 _ _ _ _ hf hP hS (lv_sub hl [1, 2, 3] rfl)
      clear eJ68
      obtain ⟨J73, eJ73, hf⟩ := jn_some hf
      have kJ73 : ∀ (t0_73 : Int32) (H : Heap) (locs : List Loc) (ls : Array Slot), J73 t0_73 = some S1 → va_P D vwCl ((wC cI cO b) S_16) H → va_S (AC b) s.heap H locs → lv_has ls 4 [(0, .ref (b + (oL z))), (1, .int x1_16), (2, .int v32)] → W p l e rm_X0_gatherLines s m args below meth c H locs 0 0 Q (F0 m 73 ls [.int t0_73]) := by
        intro t0_73 H locs ls hf hP hS hl
        rw [eJ73] at hf
        refine lv_istore_n (lv' := [(3, .int t0_73), (0, .ref (b + (oL z))), (1, .int x1_16), (2, .int v32)]) hx hb dX0_gatherLines_73 rfl hl (by decide) rfl (fun ls hl => ?_)
        refine lv_aload_n hx hb dX0_gatherLines_74 rfl (lv_at hl 1 rfl) ?_
        refine g_get F hK hP inA0 (oL z) (wC_L hz) rfl 2 (by decide) wd_125 (v := .ref (b + (oL z + 1))) rfl dX0_gatherLines_75 ?_
        refine lv_iload_n hx hb dX0_gatherLines_78 rfl (lv_at hl 3 rfl) ?_
        obtain ⟨S_79, q79, hf⟩ := cl_some hf
        refine g_callv F hK hP hS [.int v32] (c_X2_add l D cI cO b (oL z + 1) (nKL _ hz).1 S_16 v32 S_79 q79) wd_493 wd_394 wd_395 wd_3 wd_396 (wC_N (nKL _ hz).1) rfl hd_X2_add rfl rfl ⟨Nat.le_of_ble_eq_true rfl, Nat.le_of_ble_eq_true rfl⟩ rfl hl (rest := []) rfl (Nat.le_of_ble_eq_true rfl) dX0_gatherLines_79 ⟨Nat.le_of_ble_eq_true rfl, Nat.le_of_ble_eq_true rfl⟩ (fun H locs hP hS => ?_)
        refine lv_aload_n hx hb dX0_gatherLines_82 rfl (lv_at hl 1 rfl) ?_
        refine g_get F hK hP inA0 (oL z) (wC_L hz) rfl 3 (by decide) wd_126 (v := .ref (b + (oL z + 3))) rfl dX0_gatherLines_83 ?_
        refine lv_iload_n hx hb dX0_gatherLines_86 rfl (lv_at hl 0 rfl) ?_
        obtain ⟨J95, eJ95, hf⟩ := jn_some hf
        have kJ95 : ∀ (t0_95 : Int32) (H : Heap) (locs : List Loc) (ls : Array Slot), J95 t0_95 = some S1 → va_P D vwCl ((wC cI cO b) S_79) H → va_S (AC b) s.heap H locs → lv_has ls 4 [(0, .ref (b + (oL z))), (1, .int x1_16), (2, .int v32)] → W p l e rm_X0_gatherLines s m args below meth c H locs 0 0 Q (F0 m 95 ls [.int t0_95, .ref (b + (oL z + 3))]) := by
          intro t0_95 H locs ls hf hP hS hl
          rw [eJ95] at hf
          obtain ⟨S_95, q95, hf⟩ := cl_some hf
          refine g_callv F hK hP hS [.int t0_95] (c_X2_add l D cI cO b (oL z + 3) (nKL _ hz).2.1 S_79 t0_95 S_95 q95) wd_493 wd_394 wd_395 wd_3 wd_396 (wC_N (nKL _ hz).2.1) rfl hd_X2_add rfl rfl ⟨Nat.le_of_ble_eq_true rfl, Nat.le_of_ble_eq_true rfl⟩ rfl hl (rest := []) rfl (Nat.le_of_ble_eq_true rfl) dX0_gatherLines_95 ⟨Nat.le_of_ble_eq_true rfl, Nat.le_of_ble_eq_true rfl⟩ (fun H locs hP hS => ?_)
          refine lv_aload_n hx hb dX0_gatherLines_98 rfl (lv_at hl 0 rfl) ?_
          refine g_get F hK hP inA0 (oL z) (wC_L hz) rfl 4 (by decide) wd_127 (v := .ref (b + (oL z + 5))) rfl dX0_gatherLines_99 ?_
          refine lv_iload_n hx hb dX0_gatherLines_102 rfl (lv_at hl 2 rfl) ?_
          refine lv_iconst (v := 1) hx hb dX0_gatherLines_103 (by decide) ?_
          obtain ⟨S_104, q104, hf⟩ := cl_some hf
          refine g_callv F hK hP hS [.int v32, .int (1 : Int32)] (c_X2_put l D cI cO b (oL z + 5) (nKL _ hz).2.2.1 S_95 v32 (1 : Int32) S_104 q104) wd_494 wd_403 wd_404 wd_3 wd_405 (wC_N (nKL _ hz).2.2.1) rfl hd_X2_put rfl rfl ⟨Nat.le_of_ble_eq_true rfl, Nat.le_of_ble_eq_true rfl⟩ rfl hl (rest := []) rfl (Nat.le_of_ble_eq_true rfl) dX0_gatherLines_104 ⟨Nat.le_of_ble_eq_true rfl, Nat.le_of_ble_eq_true rfl⟩ (fun H locs hP hS => ?_)
          exact kJ107 _ _ _ _ hf hP hS (lv_sub hl [0, 1] rfl)
        clear eJ95
        refine lv_if_eq (tgt := 94) hx hb dX0_gatherLines_87 (by decide) (fun q => ?_) (fun q => ?_)
        · replace hf := ite_t q hf
          refine lv_iconst (v := 0) hx hb dX0_gatherLines_94 (by decide) ?_
          exact kJ95 _ _ _ _ hf hP hS (lv_sub hl [1, 2, 3] rfl)
        · replace hf := ite_f q hf
          refine lv_iconst (v := 1) hx hb dX0_gatherLines_90 (by decide) ?_
          refine lv_goto (tgt := 95) hx hb dX0_gatherLines_91 (by decide) ?_
          exact kJ95 _ _ _ _ hf hP hS (lv_sub hl [1, 2, 3] rfl)
      clear eJ73
      refine lv_if_eq (tgt := 68) hx hb dX0_gatherLines_54 (by decide) (fun q => ?_) (fun q => ?_)
      · replace hf := ite_t q hf
        exact kJ68 _ _ _ hf hP hS (lv_sub hl [1, 2, 0] rfl)
      · replace hf := ite_f q hf
        refine lv_aload_n hx hb dX0_gatherLines_57 rfl (lv_at hl 1 rfl) ?_
        refine g_get F hK hP inA0 (oL z) (wC_L hz) rfl 0 (by decide) wd_123 (v := .ref (b + 1)) rfl dX0_gatherLines_58 ?_
        refine lv_iload_n hx hb dX0_gatherLines_61 rfl (lv_at hl 0 rfl) ?_
        obtain ⟨v62, q62, hf⟩ := cl_some hf
        refine g_calli F hK hP hS [.int v32] (c_X1_beginsParagraph l D cI cO b S_16 v32 v62 q62) wd_489 wd_490 wd_491 wd_2 wd_492 wC_G rfl hd_X1_beginsParagraph rfl rfl ⟨Nat.le_of_ble_eq_true rfl, Nat.le_of_ble_eq_true rfl⟩ rfl hl (rest := []) rfl (Nat.le_of_ble_eq_true rfl) dX0_gatherLines_62 ⟨Nat.le_of_ble_eq_true rfl, Nat.le_of_ble_eq_true rfl⟩ (fun H locs hP hS => ?_)
        refine lv_if_eq (tgt := 72) hx hb dX0_gatherLines_65 (by decide) (fun q => ?_) (fun q => ?_)
        · replace hf := ite_t q hf
          refine lv_iconst (v := 0) hx hb dX0_gatherLines_72 (by decide) ?_
          exact kJ73 _ _ _ _ hf hP hS (lv_sub hl [1, 2, 0] rfl)
        · replace hf := ite_f q hf
          exact kJ68 _ _ _ hf hP hS (lv_sub hl [1, 2, 0] rfl)
abbrev rm_X1_noteCount : Room := { frames := 1, cells := 0, slots := 0, locals := 20 }
theorem hd_X1_noteCount : yX1_noteCount.cls = RX1 ∧ yX1_noteCount.cls ≠ "java/lang/invoke/MethodHandle" ∧ yX1_noteCount.cls ≠ "java/lang/invoke/VarHandle" ∧ (parseMethodDescriptor yX1_noteCount.desc).map (fun d => d.parameters.length) = some 0 := by decide +kernel
set_option maxRecDepth 100000 in
set_option maxHeartbeats 4000000 in
theorem c_X1_noteCount (l : Launch) (D : va_G) (cI cO : ClassId) (b : Nat) (S : St) (r : Int32) (hf : f_X1_noteCount S = some r) : Met l yX1_noteCount (Cond.code yX1_noteCount cX1_noteCount 1 (some .int) :: wsAll) rm_X1_noteCount (PX D (wC cI cO b) (tyC cI cO) S [.ref (b + 1)]) (Qi D (wC cI cO b) (tyC cI cO) (AC b) r S) 0 0 (AC b) := by
  unfold f_X1_noteCount at hf
  refine g_met RX1 (by decide +kernel) (Nat.le_of_ble_eq_true rfl) rfl ?_
  intro p e s m args below meth c ls Q F hr hlocks hK hP hl hQ
  have hx := F.1
  have hb := F.2.1
  have hS : va_S (AC b) s.heap s.heap [] := va_S.rf
  have hl : lv_has ls 1 [(0, .ref (b + 1))] := hl
  refine lv_aload_n hx hb dX1_noteCount_0 rfl (lv_at hl 0 rfl) ?_
  refine g_get F hK hP inA1 1 wC_G rfl 8 (by decide) wd_56 (v := .ref (b + 18)) rfl dX1_noteCount_1 ?_
  obtain ⟨v4, q4, hf⟩ := cl_some hf
  refine g_calli F hK hP hS [] (c_X2_size l D cI cO b (18) nK_18 S v4 q4) wd_368 wd_203 wd_204 wd_3 wd_205 (wC_N nK_18) rfl hd_X2_size rfl rfl ⟨Nat.le_of_ble_eq_true rfl, Nat.le_of_ble_eq_true rfl⟩ rfl hl (rest := []) rfl (Nat.le_of_ble_eq_true rfl) dX1_noteCount_4 ⟨Nat.le_of_ble_eq_true rfl, Nat.le_of_ble_eq_true rfl⟩ (fun H locs hP hS => ?_)
  exact g_iret F hr hlocks hQ hK hP hS (Option.some.inj hf) rfl dX1_noteCount_7
abbrev rm_X5_knowsNote : Room := { frames := 1, cells := 0, slots := 0, locals := 21 }
theorem hd_X5_knowsNote : yX5_knowsNote.cls = RX5 ∧ yX5_knowsNote.cls ≠ "java/lang/invoke/MethodHandle" ∧ yX5_knowsNote.cls ≠ "java/lang/invoke/VarHandle" ∧ (parseMethodDescriptor yX5_knowsNote.desc).map (fun d => d.parameters.length) = some 1 := by decide +kernel
set_option maxRecDepth 100000 in
set_option maxHeartbeats 4000000 in
theorem c_X5_knowsNote (l : Launch) (D : va_G) (cI cO : ClassId) (b : Nat) (z : Nat) (hz : z < 4) (S : St) (x1 : Int32) (r : Int32) (hf : f_X5_knowsNote S z x1 = some r) : Met l yX5_knowsNote (Cond.code yX5_knowsNote cX5_knowsNote 2 (some .boolean) :: wsAll) rm_X5_knowsNote (PX D (wC cI cO b) (tyC cI cO) S [.ref (b + (oT z)), .int x1]) (Qi D (wC cI cO b) (tyC cI cO) (AC b) r S) 0 0 (AC b) := by
  unfold f_X5_knowsNote at hf
  refine g_met RX5 (by decide +kernel) (Nat.le_of_ble_eq_true rfl) rfl ?_
  intro p e s m args below meth c ls Q F hr hlocks hK hP hl hQ
  have hx := F.1
  have hb := F.2.1
  have hS : va_S (AC b) s.heap s.heap [] := va_S.rf
  have hl : lv_has ls 2 [(0, .ref (b + (oT z))), (1, .int x1)] := hl
  refine lv_aload_n hx hb dX5_knowsNote_0 rfl (lv_at hl 0 rfl) ?_
  refine g_get F hK hP inA5 (oT z) (wC_T hz) rfl 5 (by decide) wd_98 (v := .ref (b + (oT z + 9))) rfl dX5_knowsNote_1 ?_
  refine lv_iload_n hx hb dX5_knowsNote_4 rfl (lv_at hl 1 rfl) ?_
  obtain ⟨v5, q5, hf⟩ := cl_some hf
  refine g_calli F hK hP hS [.int x1] (c_X2_at l D cI cO b (oT z + 9) (nKT _ hz).2.2.2.2.1 S x1 v5 q5) wd_342 wd_232 wd_233 wd_3 wd_234 (wC_N (nKT _ hz).2.2.2.2.1) rfl hd_X2_at rfl rfl ⟨Nat.le_of_ble_eq_true rfl, Nat.le_of_ble_eq_true rfl⟩ rfl hl (rest := []) rfl (Nat.le_of_ble_eq_true rfl) dX5_knowsNote_5 ⟨Nat.le_of_ble_eq_true rfl, Nat.le_of_ble_eq_true rfl⟩ (fun H locs hP hS => ?_)
  refine lv_iconst (v := -1) hx hb dX5_knowsNote_8 (by decide) ?_
  refine lv_icmp_eq (tgt := 16) hx hb dX5_knowsNote_9 (by decide) (fun q => ?_) (fun q => ?_)
  · replace hf := ite_t q hf
    refine lv_iconst (v := 0) hx hb dX5_knowsNote_16 (by decide) ?_
    exact g_zret F hr hlocks hQ hK hP hS rfl (Option.some.inj hf) rfl dX5_knowsNote_17
  · replace hf := ite_f q hf
    refine lv_iconst (v := 1) hx hb dX5_knowsNote_12 (by decide) ?_
    refine lv_goto (tgt := 17) hx hb dX5_knowsNote_13 (by decide) ?_
    exact g_zret F hr hlocks hQ hK hP hS rfl (Option.some.inj hf) rfl dX5_knowsNote_17
abbrev rm_X2_placeOf : Room := { frames := 1, cells := 0, slots := 0, locals := 21 }
theorem hd_X2_placeOf : yX2_placeOf.cls = RX2 ∧ yX2_placeOf.cls ≠ "java/lang/invoke/MethodHandle" ∧ yX2_placeOf.cls ≠ "java/lang/invoke/VarHandle" ∧ (parseMethodDescriptor yX2_placeOf.desc).map (fun d => d.parameters.length) = some 1 := by decide +kernel
set_option maxRecDepth 100000 in
set_option maxHeartbeats 4000000 in
theorem c_X2_placeOf (l : Launch) (D : va_G) (cI cO : ClassId) (b : Nat) (k : Nat) (hk : nK k = true) (S : St) (x1 : Int32) (r : Int32) (hf : f_X2_placeOf S k x1 = some r) : Met l yX2_placeOf (Cond.code yX2_placeOf cX2_placeOf 3 (some .int) :: wsAll) rm_X2_placeOf (PX D (wC cI cO b) (tyC cI cO) S [.ref (b + k), .int x1]) (Qi D (wC cI cO b) (tyC cI cO) (AC b) r S) 0 0 (AC b) := by
  unfold f_X2_placeOf at hf
  refine g_met RX2 (by decide +kernel) (Nat.le_of_ble_eq_true rfl) rfl ?_
  intro p e s m args below meth c ls Q F hr hlocks hK hP hl hQ
  have hx := F.1
  have hb := F.2.1
  have hS : va_S (AC b) s.heap s.heap [] := va_S.rf
  have hl : lv_has ls 3 [(0, .ref (b + k)), (1, .int x1)] := hl
  refine lv_iconst (v := 0) hx hb dX2_placeOf_0 (by decide) ?_
  refine lv_istore_n (lv' := [(2, .int (0 : Int32)), (0, .ref (b + k)), (1, .int x1)]) hx hb dX2_placeOf_1 rfl hl (by decide) rfl (fun ls hl => ?_)
  refine Lp1_ind (P := fun (x2_2 : Int32) => ∀ (H : Heap) (locs : List Loc) (ls : Array Slot), va_P D vwCl ((wC cI cO b) S) H → va_S (AC b) s.heap H locs → lv_has ls 3 [(0, .ref (b + k)), (1, .int x1), (2, .int x2_2)] → W p l e rm_X2_placeOf s m args below meth c H locs 0 0 Q (F0 m 2 ls [])) ?_ _ _ hf _ _ _ hP hS (lv_sub hl [1, 2, 0] rfl)
  clear hf hP hS hl
  intro nx2 x2_2 ih2 hf H locs ls hP hS hl
  refine lv_iload_n hx hb dX2_placeOf_2 rfl (lv_at hl 2 rfl) ?_
  refine lv_aload_n hx hb dX2_placeOf_3 rfl (lv_at hl 0 rfl) ?_
  refine g_get F hK hP inA2 k (wC_N hk) rfl 1 (by decide) wd_41 (v := .int (gi S k)) rfl dX2_placeOf_4 ?_
  refine lv_icmp_ge (tgt := 27) hx hb dX2_placeOf_7 (by decide) (fun q => ?_) (fun q => ?_)
  · replace hf := ite_t q hf
    refine lv_iconst (v := -1) hx hb dX2_placeOf_27 (by decide) ?_
    exact g_iret F hr hlocks hQ hK hP hS (Option.some.inj hf) rfl dX2_placeOf_28
  · replace hf := ite_f q hf
    refine lv_aload_n hx hb dX2_placeOf_10 rfl (lv_at hl 0 rfl) ?_
    refine lv_iload_n hx hb dX2_placeOf_11 rfl (lv_at hl 2 rfl) ?_
    obtain ⟨v12, q12, hf⟩ := cl_some hf
    refine g_calli F hK hP hS [.int x2_2] (c_X2_at l D cI cO b k hk S x2_2 v12 q12) wd_401 wd_232 wd_233 wd_3 wd_234 (wC_N hk) rfl hd_X2_at rfl rfl ⟨Nat.le_of_ble_eq_true rfl, Nat.le_of_ble_eq_true rfl⟩ rfl hl (rest := []) rfl (Nat.le_of_ble_eq_true rfl) dX2_placeOf_12 ⟨Nat.le_of_ble_eq_true rfl, Nat.le_of_ble_eq_true rfl⟩ (fun H locs hP hS => ?_)
    refine lv_iload_n hx hb dX2_placeOf_15 rfl (lv_at hl 1 rfl) ?_
    refine lv_icmp_ne (tgt := 21) hx hb dX2_placeOf_16 (by decide) (fun q => ?_) (fun q => ?_)
    · replace hf := ite_t q hf
      obtain ⟨x2_21, ex2_21, hf⟩ := lt_some hf
      refine lv_iinc (v := x2_21) (lv' := [(2, .int x2_21), (0, .ref (b + k)), (1, .int x1)]) hx hb dX2_placeOf_21 hl (k := 2) rfl (by rw [ex2_21]; rfl) (by decide) rfl (fun ls hl => ?_)
      refine lv_goto (tgt := 2) hx hb dX2_placeOf_24 (by decide) ?_
      exact ih2 _ hf _ _ _ hP hS (lv_sub hl [1, 2, 0] rfl)
    · replace hf := ite_f (fun h => h q) hf
      refine lv_iload_n hx hb dX2_placeOf_19 rfl (lv_at hl 2 rfl) ?_
      exact g_iret F hr hlocks hQ hK hP hS (Option.some.inj hf) rfl dX2_placeOf_20
abbrev rm_X5_lineOfNote : Room := { frames := 2, cells := 0, slots := 0, locals := 43 }
theorem hd_X5_lineOfNote : yX5_lineOfNote.cls = RX5 ∧ yX5_lineOfNote.cls ≠ "java/lang/invoke/MethodHandle" ∧ yX5_lineOfNote.cls ≠ "java/lang/invoke/VarHandle" ∧ (parseMethodDescriptor yX5_lineOfNote.desc).map (fun d => d.parameters.length) = some 1 := by decide +kernel
set_option maxRecDepth 100000 in
set_option maxHeartbeats 4000000 in
theorem c_X5_lineOfNote (l : Launch) (D : va_G) (cI cO : ClassId) (b : Nat) (z : Nat) (hz : z < 4) (S : St) (x1 : Int32) (r : Int32) (hf : f_X5_lineOfNote S z x1 = some r) : Met l yX5_lineOfNote (Cond.code yX5_lineOfNote cX5_lineOfNote 5 (some .int) :: wsAll) rm_X5_lineOfNote (PX D (wC cI cO b) (tyC cI cO) S [.ref (b + (oT z)), .int x1]) (Qi D (wC cI cO b) (tyC cI cO) (AC b) r S) 0 0 (AC b) := by
  unfold f_X5_lineOfNote at hf
  refine g_met RX5 (by decide +kernel) (Nat.le_of_ble_eq_true rfl) rfl ?_
  intro p e s m args below meth c ls Q F hr hlocks hK hP hl hQ
  have hx := F.1
  have hb := F.2.1
  have hS : va_S (AC b) s.heap s.heap [] := va_S.rf
  have hl : lv_has ls 5 [(0, .ref (b + (oT z))), (1, .int x1)] := hl
  refine lv_aload_n hx hb dX5_lineOfNote_0 rfl (lv_at hl 0 rfl) ?_
  refine g_get F hK hP inA5 (oT z) (wC_T hz) rfl 1 (by decide) wd_94 (v := .ref (b + (oT z + 1))) rfl dX5_lineOfNote_1 ?_
  refine lv_aload_n hx hb dX5_lineOfNote_4 rfl (lv_at hl 0 rfl) ?_
  refine g_get F hK hP inA5 (oT z) (wC_T hz) rfl 5 (by decide) wd_98 (v := .ref (b + (oT z + 9))) rfl dX5_lineOfNote_5 ?_
  refine lv_iload_n hx hb dX5_lineOfNote_8 rfl (lv_at hl 1 rfl) ?_
  obtain ⟨v9, q9, hf⟩ := cl_some hf
  refine g_calli F hK hP hS [.int x1] (c_X2_at l D cI cO b (oT z + 9) (nKT _ hz).2.2.2.2.1 S x1 v9 q9) wd_342 wd_232 wd_233 wd_3 wd_234 (wC_N (nKT _ hz).2.2.2.2.1) rfl hd_X2_at rfl rfl ⟨Nat.le_of_ble_eq_true rfl, Nat.le_of_ble_eq_true rfl⟩ rfl hl (rest := [.ref (b + (oT z + 1))]) rfl (Nat.le_of_ble_eq_true rfl) dX5_lineOfNote_9 ⟨Nat.le_of_ble_eq_true rfl, Nat.le_of_ble_eq_true rfl⟩ (fun H locs hP hS => ?_)
  obtain ⟨v12, q12, hf⟩ := cl_some hf
  refine g_calli F hK hP hS [.int v9] (c_X2_placeOf l D cI cO b (oT z + 1) (nKT _ hz).1 S v9 v12 q12) wd_446 wd_447 wd_448 wd_3 wd_449 (wC_N (nKT _ hz).1) rfl hd_X2_placeOf rfl rfl ⟨Nat.le_of_ble_eq_true rfl, Nat.le_of_ble_eq_true rfl⟩ rfl hl (rest := []) rfl (Nat.le_of_ble_eq_true rfl) dX5_lineOfNote_12 ⟨Nat.le_of_ble_eq_true rfl, Nat.le_of_ble_eq_true rfl⟩ (fun H locs hP hS => ?_)
  refine lv_istore_n (lv' := [(2, .int v12), (0, .ref (b + (oT z))), (1, .int x1)]) hx hb dX5_lineOfNote_15 rfl hl (by decide) rfl (fun ls hl => ?_)
  refine lv_iconst (v := -1) hx hb dX5_lineOfNote_16 (by decide) ?_
  refine lv_istore_n (lv' := [(3, .int (-1 : Int32)), (2, .int v12), (0, .ref (b + (oT z))), (1, .int x1)]) hx hb dX5_lineOfNote_17 rfl hl (by decide) rfl (fun ls hl => ?_)
  refine lv_iconst (v := 0) hx hb dX5_lineOfNote_18 (by decide) ?_
  refine lv_istore (lv' := [(4, .int (0 : Int32)), (3, .int (-1 : Int32)), (2, .int v12), (0, .ref (b + (oT z))), (1, .int x1)]) hx hb dX5_lineOfNote_19 hl (by decide) rfl (fun ls hl => ?_)
  refine Lp2_ind (P := fun (x3_21 : Int32) (x4_21 : Int32) => ∀ (H : Heap) (locs : List Loc) (ls : Array Slot), va_P D vwCl ((wC cI cO b) S) H → va_S (AC b) s.heap H locs → lv_has ls 5 [(0, .ref (b + (oT z))), (2, .int v12), (3, .int x3_21), (4, .int x4_21)] → W p l e rm_X5_lineOfNote s m args below meth c H locs 0 0 Q (F0 m 21 ls [])) ?_ _ _ _ hf _ _ _ hP hS (lv_sub hl [3, 2, 1, 0] rfl)
  clear hf hP hS hl
  intro nx21 x3_21 x4_21 ih21 hf H locs ls hP hS hl
  refine lv_iload hx hb dX5_lineOfNote_21 (lv_at hl 3 rfl) ?_
  refine lv_aload_n hx hb dX5_lineOfNote_23 rfl (lv_at hl 0 rfl) ?_
  refine g_get F hK hP inA5 (oT z) (wC_T hz) rfl 1 (by decide) wd_94 (v := .ref (b + (oT z + 1))) rfl dX5_lineOfNote_24 ?_
  obtain ⟨v27, q27, hf⟩ := cl_some hf
  refine g_calli F hK hP hS [] (c_X2_size l D cI cO b (oT z + 1) (nKT _ hz).1 S v27 q27) wd_450 wd_203 wd_204 wd_3 wd_205 (wC_N (nKT _ hz).1) rfl hd_X2_size rfl rfl ⟨Nat.le_of_ble_eq_true rfl, Nat.le_of_ble_eq_true rfl⟩ rfl hl (rest := [.int x4_21]) rfl (Nat.le_of_ble_eq_true rfl) dX5_lineOfNote_27 ⟨Nat.le_of_ble_eq_true rfl, Nat.le_of_ble_eq_true rfl⟩ (fun H locs hP hS => ?_)
  refine lv_icmp_ge (tgt := 76) hx hb dX5_lineOfNote_30 (by decide) (fun q => ?_) (fun q => ?_)
  · replace hf := ite_t q hf
    refine lv_iload_n hx hb dX5_lineOfNote_76 rfl (lv_at hl 2 rfl) ?_
    exact g_iret F hr hlocks hQ hK hP hS (Option.some.inj hf) rfl dX5_lineOfNote_77
  · replace hf := ite_f q hf
    refine lv_iload hx hb dX5_lineOfNote_33 (lv_at hl 3 rfl) ?_
    refine lv_iload_n hx hb dX5_lineOfNote_35 rfl (lv_at hl 1 rfl) ?_
    obtain ⟨J44, eJ44, hf⟩ := jn_some hf
    have kJ44 : ∀ (H : Heap) (locs : List Loc) (ls : Array Slot), J44 = some r → va_P D vwCl ((wC cI cO b) S) H → va_S (AC b) s.heap H locs → lv_has ls 5 [(0, .ref (b + (oT z))), (2, .int v12), (3, .int x3_21), (4, .int x4_21)] → W p l e rm_X5_lineOfNote s m args below meth c H locs 0 0 Q (F0 m 44 ls []) := by
      intro  H locs ls hf hP hS hl
      rw [eJ44] at hf
      refine lv_aload_n hx hb dX5_lineOfNote_44 rfl (lv_at hl 0 rfl) ?_
      refine lv_aload_n hx hb dX5_lineOfNote_45 rfl (lv_at hl 0 rfl) ?_
      refine g_get F hK hP inA5 (oT z) (wC_T hz) rfl 1 (by decide) wd_94 (v := .ref (b + (oT z + 1))) rfl dX5_lineOfNote_46 ?_
      refine lv_iload hx hb dX5_lineOfNote_49 (lv_at hl 3 rfl) ?_
      obtain ⟨v51, q51, hf⟩ := cl_some hf
      refine g_calli F hK hP hS [.int x4_21] (c_X2_at l D cI cO b (oT z + 1) (nKT _ hz).1 S x4_21 v51 q51) wd_342 wd_232 wd_233 wd_3 wd_234 (wC_N (nKT _ hz).1) rfl hd_X2_at rfl rfl ⟨Nat.le_of_ble_eq_true rfl, Nat.le_of_ble_eq_true rfl⟩ rfl hl (rest := [.ref (b + (oT z))]) rfl (Nat.le_of_ble_eq_true rfl) dX5_lineOfNote_51 ⟨Nat.le_of_ble_eq_true rfl, Nat.le_of_ble_eq_true rfl⟩ (fun H locs hP hS => ?_)
      obtain ⟨v54, q54, hf⟩ := cl_some hf
      refine g_calli F hK hP hS [.int v51] (c_X5_hasThere l D cI cO b z hz S v51 v54 q54) wd_511 wd_486 wd_487 wd_6 wd_488 (wC_T hz) rfl hd_X5_hasThere rfl rfl ⟨Nat.le_of_ble_eq_true rfl, Nat.le_of_ble_eq_true rfl⟩ rfl hl (rest := []) rfl (Nat.le_of_ble_eq_true rfl) dX5_lineOfNote_54 ⟨Nat.le_of_ble_eq_true rfl, Nat.le_of_ble_eq_true rfl⟩ (fun H locs hP hS => ?_)
      obtain ⟨J70, eJ70, hf⟩ := jn_some hf
      have kJ70 : ∀ (x3_70 : Int32) (H : Heap) (locs : List Loc) (ls : Array Slot), J70 x3_70 = some r → va_P D vwCl ((wC cI cO b) S) H → va_S (AC b) s.heap H locs → lv_has ls 5 [(0, .ref (b + (oT z))), (2, .int v12), (3, .int x3_70), (4, .int x4_21)] → W p l e rm_X5_lineOfNote s m args below meth c H locs 0 0 Q (F0 m 70 ls []) := by
        intro x3_70 H locs ls hf hP hS hl
        rw [eJ70] at hf
        obtain ⟨x4_70, ex4_70, hf⟩ := lt_some hf
        refine lv_iinc (v := x4_70) (lv' := [(4, .int x4_70), (0, .ref (b + (oT z))), (2, .int v12), (3, .int x3_70)]) hx hb dX5_lineOfNote_70 hl (k := 3) rfl (by rw [ex4_70]; rfl) (by decide) rfl (fun ls hl => ?_)
        refine lv_goto (tgt := 21) hx hb dX5_lineOfNote_73 (by decide) ?_
        exact ih21 _ _ hf _ _ _ hP hS (lv_sub hl [1, 2, 3, 0] rfl)
      clear eJ70
      refine lv_if_eq (tgt := 70) hx hb dX5_lineOfNote_57 (by decide) (fun q => ?_) (fun q => ?_)
      · replace hf := ite_t q hf
        exact kJ70 _ _ _ _ hf hP hS (lv_sub hl [0, 1, 2, 3] rfl)
      · replace hf := ite_f q hf
        refine lv_aload_n hx hb dX5_lineOfNote_60 rfl (lv_at hl 0 rfl) ?_
        refine g_get F hK hP inA5 (oT z) (wC_T hz) rfl 1 (by decide) wd_94 (v := .ref (b + (oT z + 1))) rfl dX5_lineOfNote_61 ?_
        refine lv_iload hx hb dX5_lineOfNote_64 (lv_at hl 3 rfl) ?_
        obtain ⟨v66, q66, hf⟩ := cl_some hf
        refine g_calli F hK hP hS [.int x4_21] (c_X2_at l D cI cO b (oT z + 1) (nKT _ hz).1 S x4_21 v66 q66) wd_342 wd_232 wd_233 wd_3 wd_234 (wC_N (nKT _ hz).1) rfl hd_X2_at rfl rfl ⟨Nat.le_of_ble_eq_true rfl, Nat.le_of_ble_eq_true rfl⟩ rfl hl (rest := []) rfl (Nat.le_of_ble_eq_true rfl) dX5_lineOfNote_66 ⟨Nat.le_of_ble_eq_true rfl, Nat.le_of_ble_eq_true rfl⟩ (fun H locs hP hS => ?_)
        refine lv_istore_n (lv' := [(3, .int v66), (0, .ref (b + (oT z))), (2, .int v12), (4, .int x4_21)]) hx hb dX5_lineOfNote_69 rfl hl (by decide) rfl (fun ls hl => ?_)
        exact kJ70 _ _ _ _ hf hP hS (lv_sub hl [1, 2, 0, 3] rfl)
    clear eJ44
    refine lv_icmp_le (tgt := 44) hx hb dX5_lineOfNote_36 (by decide) (fun q => ?_) (fun q => ?_)
    · replace hf := ite_t q hf
      exact kJ44 _ _ _ hf hP hS (lv_sub hl [0, 1, 2, 3] rfl)
    · replace hf := ite_f q hf
      refine lv_iload_n hx hb dX5_lineOfNote_39 rfl (lv_at hl 2 rfl) ?_
      refine lv_iconst (v := -1) hx hb dX5_lineOfNote_40 (by decide) ?_
      refine lv_icmp_ne (tgt := 76) hx hb dX5_lineOfNote_41 (by decide) (fun q => ?_) (fun q => ?_)
      · replace hf := ite_t q hf
        refine lv_iload_n hx hb dX5_lineOfNote_76 rfl (lv_at hl 2 rfl) ?_
        exact g_iret F hr hlocks hQ hK hP hS (Option.some.inj hf) rfl dX5_lineOfNote_77
      · replace hf := ite_f (fun h => h q) hf
        exact kJ44 _ _ _ hf hP hS (lv_sub hl [0, 1, 2, 3] rfl)
abbrev rm_X1_rowsOfNote : Room := { frames := 1, cells := 0, slots := 0, locals := 21 }
theorem hd_X1_rowsOfNote : yX1_rowsOfNote.cls = RX1 ∧ yX1_rowsOfNote.cls ≠ "java/lang/invoke/MethodHandle" ∧ yX1_rowsOfNote.cls ≠ "java/lang/invoke/VarHandle" ∧ (parseMethodDescriptor yX1_rowsOfNote.desc).map (fun d => d.parameters.length) = some 1 := by decide +kernel
set_option maxRecDepth 100000 in
set_option maxHeartbeats 4000000 in
theorem c_X1_rowsOfNote (l : Launch) (D : va_G) (cI cO : ClassId) (b : Nat) (S : St) (x1 : Int32) (r : Int32) (hf : f_X1_rowsOfNote S x1 = some r) : Met l yX1_rowsOfNote (Cond.code yX1_rowsOfNote cX1_rowsOfNote 2 (some .int) :: wsAll) rm_X1_rowsOfNote (PX D (wC cI cO b) (tyC cI cO) S [.ref (b + 1), .int x1]) (Qi D (wC cI cO b) (tyC cI cO) (AC b) r S) 0 0 (AC b) := by
  unfold f_X1_rowsOfNote at hf
  refine g_met RX1 (by decide +kernel) (Nat.le_of_ble_eq_true rfl) rfl ?_
  intro p e s m args below meth c ls Q F hr hlocks hK hP hl hQ
  have hx := F.1
  have hb := F.2.1
  have hS : va_S (AC b) s.heap s.heap [] := va_S.rf
  have hl : lv_has ls 2 [(0, .ref (b + 1)), (1, .int x1)] := hl
  refine lv_aload_n hx hb dX1_rowsOfNote_0 rfl (lv_at hl 0 rfl) ?_
  refine g_get F hK hP inA1 1 wC_G rfl 8 (by decide) wd_56 (v := .ref (b + 18)) rfl dX1_rowsOfNote_1 ?_
  refine lv_iload_n hx hb dX1_rowsOfNote_4 rfl (lv_at hl 1 rfl) ?_
  obtain ⟨v5, q5, hf⟩ := cl_some hf
  refine g_calli F hK hP hS [.int x1] (c_X2_at l D cI cO b (18) nK_18 S x1 v5 q5) wd_429 wd_232 wd_233 wd_3 wd_234 (wC_N nK_18) rfl hd_X2_at rfl rfl ⟨Nat.le_of_ble_eq_true rfl, Nat.le_of_ble_eq_true rfl⟩ rfl hl (rest := []) rfl (Nat.le_of_ble_eq_true rfl) dX1_rowsOfNote_5 ⟨Nat.le_of_ble_eq_true rfl, Nat.le_of_ble_eq_true rfl⟩ (fun H locs hP hS => ?_)
  exact g_iret F hr hlocks hQ hK hP hS (Option.some.inj hf) rfl dX1_rowsOfNote_8
abbrev rm_X0_addNotes : Room := { frames := 3, cells := 0, slots := 0, locals := 67 }
theorem hd_X0_addNotes : yX0_addNotes.cls = RX0 ∧ yX0_addNotes.cls ≠ "java/lang/invoke/MethodHandle" ∧ yX0_addNotes.cls ≠ "java/lang/invoke/VarHandle" ∧ (parseMethodDescriptor yX0_addNotes.desc).map (fun d => d.parameters.length) = some 0 := by decide +kernel
set_option maxRecDepth 100000 in
set_option maxHeartbeats 4000000 in
theorem c_X0_addNotes (l : Launch) (D : va_G) (cI cO : ClassId) (b : Nat) (z : Nat) (hz : z < 4) (S : St) (S1 : St) (hf : f_X0_addNotes S z = some S1) : Met l yX0_addNotes (Cond.code yX0_addNotes cX0_addNotes 4 none :: wsAll) rm_X0_addNotes (PX D (wC cI cO b) (tyC cI cO) S [.ref (b + (oL z))]) (Qv D (wC cI cO b) (tyC cI cO) (AC b) S1) 0 0 (AC b) := by
  unfold f_X0_addNotes at hf
  refine g_met RX0 (by decide +kernel) (Nat.le_of_ble_eq_true rfl) rfl ?_
  intro p e s m args below meth c ls Q F hr hlocks hK hP hl hQ
  have hx := F.1
  have hb := F.2.1
  have hS : va_S (AC b) s.heap s.heap [] := va_S.rf
  have hl : lv_has ls 4 [(0, .ref (b + (oL z)))] := hl
  refine lv_iconst (v := 0) hx hb dX0_addNotes_0 (by decide) ?_
  refine lv_istore_n (lv' := [(1, .int (0 : Int32)), (0, .ref (b + (oL z)))]) hx hb dX0_addNotes_1 rfl hl (by decide) rfl (fun ls hl => ?_)
  refine Lp2_ind (P := fun (x1_2 : Int32) (S_2 : St) => ∀ (H : Heap) (locs : List Loc) (ls : Array Slot), va_P D vwCl ((wC cI cO b) S_2) H → va_S (AC b) s.heap H locs → lv_has ls 4 [(0, .ref (b + (oL z))), (1, .int x1_2)] → W p l e rm_X0_addNotes s m args below meth c H locs 0 0 Q (F0 m 2 ls [])) ?_ _ _ _ hf _ _ _ hP hS (lv_sub hl [1, 0] rfl)
  clear hf hP hS hl
  intro nx2 x1_2 S_2 ih2 hf H locs ls hP hS hl
  refine lv_iload_n hx hb dX0_addNotes_2 rfl (lv_at hl 1 rfl) ?_
  refine lv_aload_n hx hb dX0_addNotes_3 rfl (lv_at hl 0 rfl) ?_
  refine g_get F hK hP inA0 (oL z) (wC_L hz) rfl 0 (by decide) wd_123 (v := .ref (b + 1)) rfl dX0_addNotes_4 ?_
  obtain ⟨v7, q7, hf⟩ := cl_some hf
  refine g_calli F hK hP hS [] (c_X1_noteCount l D cI cO b S_2 v7 q7) wd_499 wd_500 wd_501 wd_2 wd_502 wC_G rfl hd_X1_noteCount rfl rfl ⟨Nat.le_of_ble_eq_true rfl, Nat.le_of_ble_eq_true rfl⟩ rfl hl (rest := [.int x1_2]) rfl (Nat.le_of_ble_eq_true rfl) dX0_addNotes_7 ⟨Nat.le_of_ble_eq_true rfl, Nat.le_of_ble_eq_true rfl⟩ (fun H locs hP hS => ?_)
  refine lv_icmp_ge (tgt := 71) hx hb dX0_addNotes_10 (by decide) (fun q => ?_) (fun q => ?_)
  · replace hf := ite_t q hf
    exact g_vret F hr hlocks hQ hK hP hS (Option.some.inj hf) dX0_addNotes_71
  · replace hf := ite_f q hf
    refine lv_aload_n hx hb dX0_addNotes_13 rfl (lv_at hl 0 rfl) ?_
    refine g_get F hK hP inA0 (oL z) (wC_L hz) rfl 1 (by decide) wd_124 (v := .ref (b + (oT z))) rfl dX0_addNotes_14 ?_
    refine lv_iload_n hx hb dX0_addNotes_17 rfl (lv_at hl 1 rfl) ?_
    obtain ⟨v18, q18, hf⟩ := cl_some hf
    refine g_calli F hK hP hS [.int x1_2] (c_X5_knowsNote l D cI cO b z hz S_2 x1_2 v18 q18) wd_503 wd_504 wd_505 wd_6 wd_506 (wC_T hz) rfl hd_X5_knowsNote rfl rfl ⟨Nat.le_of_ble_eq_true rfl, Nat.le_of_ble_eq_true rfl⟩ rfl hl (rest := []) rfl (Nat.le_of_ble_eq_true rfl) dX0_addNotes_18 ⟨Nat.le_of_ble_eq_true rfl, Nat.le_of_ble_eq_true rfl⟩ (fun H locs hP hS => ?_)
    obtain ⟨J65, eJ65, hf⟩ := jn_some hf
    have kJ65 : ∀ (S_65 : St) (H : Heap) (locs : List Loc) (ls : Array Slot), J65 S_65 = some S1 → va_P D vwCl ((wC cI cO b) S_65) H → va_S (AC b) s.heap H locs → lv_has ls 4 [(0, .ref (b + (oL z))), (1, .int x1_2)] → W p l e rm_X0_addNotes s m args below meth c H locs 0 0 Q (F0 m 65 ls []) := by
      intro S_65 H locs ls hf hP hS hl
      rw [eJ65] at hf
      obtain ⟨x1_65, ex1_65, hf⟩ := lt_some hf
      refine lv_iinc (v := x1_65) (lv' := [(1, .int x1_65), (0, .ref (b + (oL z)))]) hx hb dX0_addNotes_65 hl (k := 1) rfl (by rw [ex1_65]; rfl) (by decide) rfl (fun ls hl => ?_)
      refine lv_goto (tgt := 2) hx hb dX0_addNotes_68 (by decide) ?_
      exact ih2 _ _ hf _ _ _ hP hS (lv_sub hl [1, 0] rfl)
    clear eJ65
    refine lv_if_eq (tgt := 65) hx hb dX0_addNotes_21 (by decide) (fun q => ?_) (fun q => ?_)
    · replace hf := ite_t q hf
      exact kJ65 _ _ _ _ hf hP hS (lv_sub hl [0, 1] rfl)
    · replace hf := ite_f q hf
      refine lv_aload_n hx hb dX0_addNotes_24 rfl (lv_at hl 0 rfl) ?_
      refine g_get F hK hP inA0 (oL z) (wC_L hz) rfl 1 (by decide) wd_124 (v := .ref (b + (oT z))) rfl dX0_addNotes_25 ?_
      refine lv_iload_n hx hb dX0_addNotes_28 rfl (lv_at hl 1 rfl) ?_
      obtain ⟨v29, q29, hf⟩ := cl_some hf
      refine g_calli F hK hP hS [.int x1_2] (c_X5_lineOfNote l D cI cO b z hz S_2 x1_2 v29 q29) wd_507 wd_508 wd_509 wd_6 wd_510 (wC_T hz) rfl hd_X5_lineOfNote rfl rfl ⟨Nat.le_of_ble_eq_true rfl, Nat.le_of_ble_eq_true rfl⟩ rfl hl (rest := []) rfl (Nat.le_of_ble_eq_true rfl) dX0_addNotes_29 ⟨Nat.le_of_ble_eq_true rfl, Nat.le_of_ble_eq_true rfl⟩ (fun H locs hP hS => ?_)
      refine lv_istore_n (lv' := [(2, .int v29), (0, .ref (b + (oL z))), (1, .int x1_2)]) hx hb dX0_addNotes_32 rfl hl (by decide) rfl (fun ls hl => ?_)
      refine lv_aload_n hx hb dX0_addNotes_33 rfl (lv_at hl 1 rfl) ?_
      refine g_get F hK hP inA0 (oL z) (wC_L hz) rfl 4 (by decide) wd_127 (v := .ref (b + (oL z + 5))) rfl dX0_addNotes_34 ?_
      refine lv_iload_n hx hb dX0_addNotes_37 rfl (lv_at hl 0 rfl) ?_
      obtain ⟨v38, q38, hf⟩ := cl_some hf
      refine g_calli F hK hP hS [.int v29] (c_X2_at l D cI cO b (oL z + 5) (nKL _ hz).2.2.1 S_2 v29 v38 q38) wd_231 wd_232 wd_233 wd_3 wd_234 (wC_N (nKL _ hz).2.2.1) rfl hd_X2_at rfl rfl ⟨Nat.le_of_ble_eq_true rfl, Nat.le_of_ble_eq_true rfl⟩ rfl hl (rest := []) rfl (Nat.le_of_ble_eq_true rfl) dX0_addNotes_38 ⟨Nat.le_of_ble_eq_true rfl, Nat.le_of_ble_eq_true rfl⟩ (fun H locs hP hS => ?_)
      refine lv_aload_n hx hb dX0_addNotes_41 rfl (lv_at hl 1 rfl) ?_
      refine g_get F hK hP inA0 (oL z) (wC_L hz) rfl 0 (by decide) wd_123 (v := .ref (b + 1)) rfl dX0_addNotes_42 ?_
      refine lv_iload_n hx hb dX0_addNotes_45 rfl (lv_at hl 2 rfl) ?_
      obtain ⟨v46, q46, hf⟩ := cl_some hf
      refine g_calli F hK hP hS [.int x1_2] (c_X1_rowsOfNote l D cI cO b S_2 x1_2 v46 q46) wd_512 wd_513 wd_514 wd_2 wd_515 wC_G rfl hd_X1_rowsOfNote rfl rfl ⟨Nat.le_of_ble_eq_true rfl, Nat.le_of_ble_eq_true rfl⟩ rfl hl (rest := [.int v38]) rfl (Nat.le_of_ble_eq_true rfl) dX0_addNotes_46 ⟨Nat.le_of_ble_eq_true rfl, Nat.le_of_ble_eq_true rfl⟩ (fun H locs hP hS => ?_)
      refine lv_iadd hx hb dX0_addNotes_49 ?_
      obtain ⟨x3_50, ex3_50, hf⟩ := lt_some hf
      rw [← ex3_50]
      refine lv_istore_n (lv' := [(3, .int x3_50), (2, .int v29), (0, .ref (b + (oL z))), (1, .int x1_2)]) hx hb dX0_addNotes_50 rfl hl (by decide) rfl (fun ls hl => ?_)
      refine lv_aload_n hx hb dX0_addNotes_51 rfl (lv_at hl 2 rfl) ?_
      refine g_get F hK hP inA0 (oL z) (wC_L hz) rfl 4 (by decide) wd_127 (v := .ref (b + (oL z + 5))) rfl dX0_addNotes_52 ?_
      refine lv_iload_n hx hb dX0_addNotes_55 rfl (lv_at hl 1 rfl) ?_
      refine lv_iload_n hx hb dX0_addNotes_56 rfl (lv_at hl 0 rfl) ?_
      refine lv_bipush (v := 6) hx hb dX0_addNotes_57 (by decide) ?_
      refine va_mmin hx hb (F.2.2.1.trans hl.1.symm) F.2.2.2.1 (F.2.2.2.2 _ (List.mem_cons_of_mem _ wd_516)) (F.2.2.2.2 _ (List.mem_cons_of_mem _ wd_249)) (F.2.2.2.2 _ (List.mem_cons_of_mem _ wd_4)) (F.2.2.2.2 _ (List.mem_cons_of_mem _ wd_min)) (Nat.le_of_ble_eq_true rfl) (Nat.le_of_ble_eq_true rfl) (Nat.zero_le _) (Nat.zero_le _) dX0_addNotes_59 ?_
      obtain ⟨S_62, q62, hf⟩ := cl_some hf
      refine g_callv F hK hP hS [.int v29, .int (if (6 : Int32) < x3_50 then (6 : Int32) else x3_50)] (c_X2_put l D cI cO b (oL z + 5) (nKL _ hz).2.2.1 S_2 v29 (if (6 : Int32) < x3_50 then (6 : Int32) else x3_50) S_62 q62) wd_494 wd_403 wd_404 wd_3 wd_405 (wC_N (nKL _ hz).2.2.1) rfl hd_X2_put rfl rfl ⟨Nat.le_of_ble_eq_true rfl, Nat.le_of_ble_eq_true rfl⟩ rfl hl (rest := []) rfl (Nat.le_of_ble_eq_true rfl) dX0_addNotes_62 ⟨Nat.le_of_ble_eq_true rfl, Nat.le_of_ble_eq_true rfl⟩ (fun H locs hP hS => ?_)
      exact kJ65 _ _ _ _ hf hP hS (lv_sub hl [2, 3] rfl)
abbrev rm_X0_rows : Room := { frames := 1, cells := 0, slots := 0, locals := 21 }
theorem hd_X0_rows : yX0_rows.cls = RX0 ∧ yX0_rows.cls ≠ "java/lang/invoke/MethodHandle" ∧ yX0_rows.cls ≠ "java/lang/invoke/VarHandle" ∧ (parseMethodDescriptor yX0_rows.desc).map (fun d => d.parameters.length) = some 1 := by decide +kernel
set_option maxRecDepth 100000 in
set_option maxHeartbeats 4000000 in
theorem c_X0_rows (l : Launch) (D : va_G) (cI cO : ClassId) (b : Nat) (z : Nat) (hz : z < 4) (S : St) (x1 : Int32) (r : Int32) (hf : f_X0_rows S z x1 = some r) : Met l yX0_rows (Cond.code yX0_rows cX0_rows 2 (some .int) :: wsAll) rm_X0_rows (PX D (wC cI cO b) (tyC cI cO) S [.ref (b + (oL z)), .int x1]) (Qi D (wC cI cO b) (tyC cI cO) (AC b) r S) 0 0 (AC b) := by
  unfold f_X0_rows at hf
  refine g_met RX0 (by decide +kernel) (Nat.le_of_ble_eq_true rfl) rfl ?_
  intro p e s m args below meth c ls Q F hr hlocks hK hP hl hQ
  have hx := F.1
  have hb := F.2.1
  have hS : va_S (AC b) s.heap s.heap [] := va_S.rf
  have hl : lv_has ls 2 [(0, .ref (b + (oL z))), (1, .int x1)] := hl
  refine lv_aload_n hx hb dX0_rows_0 rfl (lv_at hl 0 rfl) ?_
  refine g_get F hK hP inA0 (oL z) (wC_L hz) rfl 4 (by decide) wd_127 (v := .ref (b + (oL z + 5))) rfl dX0_rows_1 ?_
  refine lv_aload_n hx hb dX0_rows_4 rfl (lv_at hl 0 rfl) ?_
  refine g_get F hK hP inA0 (oL z) (wC_L hz) rfl 2 (by decide) wd_125 (v := .ref (b + (oL z + 1))) rfl dX0_rows_5 ?_
  refine lv_iload_n hx hb dX0_rows_8 rfl (lv_at hl 1 rfl) ?_
  obtain ⟨v9, q9, hf⟩ := cl_some hf
  refine g_calli F hK hP hS [.int x1] (c_X2_at l D cI cO b (oL z + 1) (nKL _ hz).1 S x1 v9 q9) wd_231 wd_232 wd_233 wd_3 wd_234 (wC_N (nKL _ hz).1) rfl hd_X2_at rfl rfl ⟨Nat.le_of_ble_eq_true rfl, Nat.le_of_ble_eq_true rfl⟩ rfl hl (rest := [.ref (b + (oL z + 5))]) rfl (Nat.le_of_ble_eq_true rfl) dX0_rows_9 ⟨Nat.le_of_ble_eq_true rfl, Nat.le_of_ble_eq_true rfl⟩ (fun H locs hP hS => ?_)
  obtain ⟨v12, q12, hf⟩ := cl_some hf
  refine g_calli F hK hP hS [.int v9] (c_X2_at l D cI cO b (oL z + 5) (nKL _ hz).2.2.1 S v9 v12 q12) wd_231 wd_232 wd_233 wd_3 wd_234 (wC_N (nKL _ hz).2.2.1) rfl hd_X2_at rfl rfl ⟨Nat.le_of_ble_eq_true rfl, Nat.le_of_ble_eq_true rfl⟩ rfl hl (rest := []) rfl (Nat.le_of_ble_eq_true rfl) dX0_rows_12 ⟨Nat.le_of_ble_eq_true rfl, Nat.le_of_ble_eq_true rfl⟩ (fun H locs hP hS => ?_)
  exact g_iret F hr hlocks hQ hK hP hS (Option.some.inj hf) rfl dX0_rows_15
abbrev rm_X0_isBadCut : Room := { frames := 1, cells := 0, slots := 0, locals := 21 }
theorem hd_X0_isBadCut : yX0_isBadCut.cls = RX0 ∧ yX0_isBadCut.cls ≠ "java/lang/invoke/MethodHandle" ∧ yX0_isBadCut.cls ≠ "java/lang/invoke/VarHandle" ∧ (parseMethodDescriptor yX0_isBadCut.desc).map (fun d => d.parameters.length) = some 1 := by decide +kernel
set_option maxRecDepth 100000 in
set_option maxHeartbeats 4000000 in
theorem c_X0_isBadCut (l : Launch) (D : va_G) (cI cO : ClassId) (b : Nat) (z : Nat) (hz : z < 4) (S : St) (x1 : Int32) (r : Int32) (hf : f_X0_isBadCut S z x1 = some r) : Met l yX0_isBadCut (Cond.code yX0_isBadCut cX0_isBadCut 4 (some .boolean) :: wsAll) rm_X0_isBadCut (PX D (wC cI cO b) (tyC cI cO) S [.ref (b + (oL z)), .int x1]) (Qi D (wC cI cO b) (tyC cI cO) (AC b) r S) 0 0 (AC b) := by
  unfold f_X0_isBadCut at hf
  refine g_met RX0 (by decide +kernel) (Nat.le_of_ble_eq_true rfl) rfl ?_
  intro p e s m args below meth c ls Q F hr hlocks hK hP hl hQ
  have hx := F.1
  have hb := F.2.1
  have hS : va_S (AC b) s.heap s.heap [] := va_S.rf
  have hl : lv_has ls 4 [(0, .ref (b + (oL z))), (1, .int x1)] := hl
  refine lv_iload_n hx hb dX0_isBadCut_0 rfl (lv_at hl 1 rfl) ?_
  refine lv_aload_n hx hb dX0_isBadCut_1 rfl (lv_at hl 0 rfl) ?_
  refine g_get F hK hP inA0 (oL z) (wC_L hz) rfl 2 (by decide) wd_125 (v := .ref (b + (oL z + 1))) rfl dX0_isBadCut_2 ?_
  obtain ⟨v5, q5, hf⟩ := cl_some hf
  refine g_calli F hK hP hS [] (c_X2_size l D cI cO b (oL z + 1) (nKL _ hz).1 S v5 q5) wd_230 wd_203 wd_204 wd_3 wd_205 (wC_N (nKL _ hz).1) rfl hd_X2_size rfl rfl ⟨Nat.le_of_ble_eq_true rfl, Nat.le_of_ble_eq_true rfl⟩ rfl hl (rest := [.int x1]) rfl (Nat.le_of_ble_eq_true rfl) dX0_isBadCut_5 ⟨Nat.le_of_ble_eq_true rfl, Nat.le_of_ble_eq_true rfl⟩ (fun H locs hP hS => ?_)
  refine lv_icmp_ge (tgt := 23) hx hb dX0_isBadCut_8 (by decide) (fun q => ?_) (fun q => ?_)
  · replace hf := ite_t q hf
    refine lv_iconst (v := 0) hx hb dX0_isBadCut_23 (by decide) ?_
    exact g_zret F hr hlocks hQ hK hP hS rfl (Option.some.inj hf) rfl dX0_isBadCut_24
  · replace hf := ite_f q hf
    refine lv_aload_n hx hb dX0_isBadCut_11 rfl (lv_at hl 0 rfl) ?_
    refine g_get F hK hP inA0 (oL z) (wC_L hz) rfl 3 (by decide) wd_126 (v := .ref (b + (oL z + 3))) rfl dX0_isBadCut_12 ?_
    refine lv_iload_n hx hb dX0_isBadCut_15 rfl (lv_at hl 1 rfl) ?_
    obtain ⟨v16, q16, hf⟩ := cl_some hf
    refine g_calli F hK hP hS [.int x1] (c_X2_at l D cI cO b (oL z + 3) (nKL _ hz).2.1 S x1 v16 q16) wd_231 wd_232 wd_233 wd_3 wd_234 (wC_N (nKL _ hz).2.1) rfl hd_X2_at rfl rfl ⟨Nat.le_of_ble_eq_true rfl, Nat.le_of_ble_eq_true rfl⟩ rfl hl (rest := []) rfl (Nat.le_of_ble_eq_true rfl) dX0_isBadCut_16 ⟨Nat.le_of_ble_eq_true rfl, Nat.le_of_ble_eq_true rfl⟩ (fun H locs hP hS => ?_)
    refine lv_iconst (v := 1) hx hb dX0_isBadCut_19 (by decide) ?_
    refine lv_icmp_ne (tgt := 25) hx hb dX0_isBadCut_20 (by decide) (fun q => ?_) (fun q => ?_)
    · replace hf := ite_t q hf
      refine lv_aload_n hx hb dX0_isBadCut_25 rfl (lv_at hl 0 rfl) ?_
      refine g_get F hK hP inA0 (oL z) (wC_L hz) rfl 3 (by decide) wd_126 (v := .ref (b + (oL z + 3))) rfl dX0_isBadCut_26 ?_
      refine lv_iload_n hx hb dX0_isBadCut_29 rfl (lv_at hl 1 rfl) ?_
      refine lv_iconst (v := 1) hx hb dX0_isBadCut_30 (by decide) ?_
      refine lv_isub hx hb dX0_isBadCut_31 ?_
      obtain ⟨v32, q32, hf⟩ := cl_some hf
      refine g_calli F hK hP hS [.int (x1 - (1 : Int32))] (c_X2_at l D cI cO b (oL z + 3) (nKL _ hz).2.1 S (x1 - (1 : Int32)) v32 q32) wd_231 wd_232 wd_233 wd_3 wd_234 (wC_N (nKL _ hz).2.1) rfl hd_X2_at rfl rfl ⟨Nat.le_of_ble_eq_true rfl, Nat.le_of_ble_eq_true rfl⟩ rfl hl (rest := []) rfl (Nat.le_of_ble_eq_true rfl) dX0_isBadCut_32 ⟨Nat.le_of_ble_eq_true rfl, Nat.le_of_ble_eq_true rfl⟩ (fun H locs hP hS => ?_)
      refine lv_iconst (v := 1) hx hb dX0_isBadCut_35 (by decide) ?_
      obtain ⟨J44, eJ44, hf⟩ := jn_some hf
      have kJ44 : ∀ (t0_44 : Int32) (H : Heap) (locs : List Loc) (ls : Array Slot), J44 t0_44 = some r → va_P D vwCl ((wC cI cO b) S) H → va_S (AC b) s.heap H locs → lv_has ls 4 [(0, .ref (b + (oL z))), (1, .int x1)] → W p l e rm_X0_isBadCut s m args below meth c H locs 0 0 Q (F0 m 44 ls [.int t0_44]) := by
        intro t0_44 H locs ls hf hP hS hl
        rw [eJ44] at hf
        refine lv_istore_n (lv' := [(2, .int t0_44), (0, .ref (b + (oL z))), (1, .int x1)]) hx hb dX0_isBadCut_44 rfl hl (by decide) rfl (fun ls hl => ?_)
        refine lv_iload_n hx hb dX0_isBadCut_45 rfl (lv_at hl 2 rfl) ?_
        refine lv_iconst (v := 1) hx hb dX0_isBadCut_46 (by decide) ?_
        refine lv_iadd hx hb dX0_isBadCut_47 ?_
        refine lv_aload_n hx hb dX0_isBadCut_48 rfl (lv_at hl 1 rfl) ?_
        refine g_get F hK hP inA0 (oL z) (wC_L hz) rfl 2 (by decide) wd_125 (v := .ref (b + (oL z + 1))) rfl dX0_isBadCut_49 ?_
        obtain ⟨v52, q52, hf⟩ := cl_some hf
        refine g_calli F hK hP hS [] (c_X2_size l D cI cO b (oL z + 1) (nKL _ hz).1 S v52 q52) wd_230 wd_203 wd_204 wd_3 wd_205 (wC_N (nKL _ hz).1) rfl hd_X2_size rfl rfl ⟨Nat.le_of_ble_eq_true rfl, Nat.le_of_ble_eq_true rfl⟩ rfl hl (rest := [.int (x1 + (1 : Int32))]) rfl (Nat.le_of_ble_eq_true rfl) dX0_isBadCut_52 ⟨Nat.le_of_ble_eq_true rfl, Nat.le_of_ble_eq_true rfl⟩ (fun H locs hP hS => ?_)
        obtain ⟨J72, eJ72, hf⟩ := jn_some hf
        have kJ72 : ∀ (H : Heap) (locs : List Loc) (ls : Array Slot), J72 = some r → va_P D vwCl ((wC cI cO b) S) H → va_S (AC b) s.heap H locs → lv_has ls 4 [(2, .int t0_44)] → W p l e rm_X0_isBadCut s m args below meth c H locs 0 0 Q (F0 m 72 ls []) := by
          intro  H locs ls hf hP hS hl
          rw [eJ72] at hf
          refine lv_iconst (v := 1) hx hb dX0_isBadCut_72 (by decide) ?_
          refine lv_goto (tgt := 77) hx hb dX0_isBadCut_73 (by decide) ?_
          refine lv_istore_n (lv' := [(3, .int (1 : Int32)), (2, .int t0_44)]) hx hb dX0_isBadCut_77 rfl hl (by decide) rfl (fun ls hl => ?_)
          refine lv_iload_n hx hb dX0_isBadCut_78 rfl (lv_at hl 1 rfl) ?_
          obtain ⟨J86, eJ86, hf⟩ := jn_some hf
          have kJ86 : ∀ (H : Heap) (locs : List Loc) (ls : Array Slot), J86 = some r → va_P D vwCl ((wC cI cO b) S) H → va_S (AC b) s.heap H locs → lv_has ls 4 [] → W p l e rm_X0_isBadCut s m args below meth c H locs 0 0 Q (F0 m 86 ls []) := by
            intro  H locs ls hf hP hS hl
            rw [eJ86] at hf
            refine lv_iconst (v := 1) hx hb dX0_isBadCut_86 (by decide) ?_
            refine lv_goto (tgt := 91) hx hb dX0_isBadCut_87 (by decide) ?_
            exact g_zret F hr hlocks hQ hK hP hS rfl (Option.some.inj hf) rfl dX0_isBadCut_91
          clear eJ86
          refine lv_if_ne (tgt := 86) hx hb dX0_isBadCut_79 (by decide) (fun q => ?_) (fun q => ?_)
          · replace hf := ite_t q hf
            exact kJ86 _ _ _ hf hP hS (lv_sub hl [] rfl)
          · replace hf := ite_f (fun h => h q) hf
            refine lv_iload_n hx hb dX0_isBadCut_82 rfl (lv_at hl 0 rfl) ?_
            refine lv_if_eq (tgt := 90) hx hb dX0_isBadCut_83 (by decide) (fun q => ?_) (fun q => ?_)
            · replace hf := ite_t q hf
              refine lv_iconst (v := 0) hx hb dX0_isBadCut_90 (by decide) ?_
              exact g_zret F hr hlocks hQ hK hP hS rfl (Option.some.inj hf) rfl dX0_isBadCut_91
            · replace hf := ite_f q hf
              exact kJ86 _ _ _ hf hP hS (lv_sub hl [] rfl)
        clear eJ72
        obtain ⟨J77, eJ77, hf⟩ := jn_some hf
        have kJ77 : ∀ (t0_77 : Int32) (H : Heap) (locs : List Loc) (ls : Array Slot), J77 t0_77 = some r → va_P D vwCl ((wC cI cO b) S) H → va_S (AC b) s.heap H locs → lv_has ls 4 [(2, .int t0_44)] → W p l e rm_X0_isBadCut s m args below meth c H locs 0 0 Q (F0 m 77 ls [.int t0_77]) := by
          intro t0_77 H locs ls hf hP hS hl
          rw [eJ77] at hf
          refine lv_istore_n (lv' := [(3, .int t0_77), (2, .int t0_44)]) hx hb dX0_isBadCut_77 rfl hl (by decide) rfl (fun ls hl => ?_)
          refine lv_iload_n hx hb dX0_isBadCut_78 rfl (lv_at hl 1 rfl) ?_
          obtain ⟨J86, eJ86, hf⟩ := jn_some hf
          have kJ86 : ∀ (H : Heap) (locs : List Loc) (ls : Array Slot), J86 = some r → va_P D vwCl ((wC cI cO b) S) H → va_S (AC b) s.heap H locs → lv_has ls 4 [] → W p l e rm_X0_isBadCut s m args below meth c H locs 0 0 Q (F0 m 86 ls []) := by
            intro  H locs ls hf hP hS hl
            rw [eJ86] at hf
            refine lv_iconst (v := 1) hx hb dX0_isBadCut_86 (by decide) ?_
            refine lv_goto (tgt := 91) hx hb dX0_isBadCut_87 (by decide) ?_
            exact g_zret F hr hlocks hQ hK hP hS rfl (Option.some.inj hf) rfl dX0_isBadCut_91
          clear eJ86
          refine lv_if_ne (tgt := 86) hx hb dX0_isBadCut_79 (by decide) (fun q => ?_) (fun q => ?_)
          · replace hf := ite_t q hf
            exact kJ86 _ _ _ hf hP hS (lv_sub hl [] rfl)
          · replace hf := ite_f (fun h => h q) hf
            refine lv_iload_n hx hb dX0_isBadCut_82 rfl (lv_at hl 0 rfl) ?_
            refine lv_if_eq (tgt := 90) hx hb dX0_isBadCut_83 (by decide) (fun q => ?_) (fun q => ?_)
            · replace hf := ite_t q hf
              refine lv_iconst (v := 0) hx hb dX0_isBadCut_90 (by decide) ?_
              exact g_zret F hr hlocks hQ hK hP hS rfl (Option.some.inj hf) rfl dX0_isBadCut_91
            · replace hf := ite_f q hf
              exact kJ86 _ _ _ hf hP hS (lv_sub hl [] rfl)
        clear eJ77
        refine lv_icmp_eq (tgt := 72) hx hb dX0_isBadCut_55 (by decide) (fun q => ?_) (fun q => ?_)
        · replace hf := ite_t q hf
          exact kJ72 _ _ _ hf hP hS (lv_sub hl [0] rfl)
        · replace hf := ite_f q hf
          refine lv_aload_n hx hb dX0_isBadCut_58 rfl (lv_at hl 1 rfl) ?_
          refine g_get F hK hP inA0 (oL z) (wC_L hz) rfl 3 (by decide) wd_126 (v := .ref (b + (oL z + 3))) rfl dX0_isBadCut_59 ?_
          refine lv_iload_n hx hb dX0_isBadCut_62 rfl (lv_at hl 2 rfl) ?_
          refine lv_iconst (v := 1) hx hb dX0_isBadCut_63 (by decide) ?_
          refine lv_iadd hx hb dX0_isBadCut_64 ?_
          obtain ⟨v65, q65, hf⟩ := cl_some hf
          refine g_calli F hK hP hS [.int (x1 + (1 : Int32))] (c_X2_at l D cI cO b (oL z + 3) (nKL _ hz).2.1 S (x1 + (1 : Int32)) v65 q65) wd_231 wd_232 wd_233 wd_3 wd_234 (wC_N (nKL _ hz).2.1) rfl hd_X2_at rfl rfl ⟨Nat.le_of_ble_eq_true rfl, Nat.le_of_ble_eq_true rfl⟩ rfl hl (rest := []) rfl (Nat.le_of_ble_eq_true rfl) dX0_isBadCut_65 ⟨Nat.le_of_ble_eq_true rfl, Nat.le_of_ble_eq_true rfl⟩ (fun H locs hP hS => ?_)
          refine lv_iconst (v := 1) hx hb dX0_isBadCut_68 (by decide) ?_
          refine lv_icmp_ne (tgt := 76) hx hb dX0_isBadCut_69 (by decide) (fun q => ?_) (fun q => ?_)
          · replace hf := ite_t q hf
            refine lv_iconst (v := 0) hx hb dX0_isBadCut_76 (by decide) ?_
            exact kJ77 _ _ _ _ hf hP hS (lv_sub hl [0] rfl)
          · replace hf := ite_f (fun h => h q) hf
            exact kJ72 _ _ _ hf hP hS (lv_sub hl [0] rfl)
      clear eJ44
      refine lv_icmp_ne (tgt := 43) hx hb dX0_isBadCut_36 (by decide) (fun q => ?_) (fun q => ?_)
      · replace hf := ite_t q hf
        refine lv_iconst (v := 0) hx hb dX0_isBadCut_43 (by decide) ?_
        exact kJ44 _ _ _ _ hf hP hS (lv_sub hl [0, 1] rfl)
      · replace hf := ite_f (fun h => h q) hf
        refine lv_iconst (v := 1) hx hb dX0_isBadCut_39 (by decide) ?_
        refine lv_goto (tgt := 44) hx hb dX0_isBadCut_40 (by decide) ?_
        exact kJ44 _ _ _ _ hf hP hS (lv_sub hl [0, 1] rfl)
    · replace hf := ite_f (fun h => h q) hf
      refine lv_iconst (v := 0) hx hb dX0_isBadCut_23 (by decide) ?_
      exact g_zret F hr hlocks hQ hK hP hS rfl (Option.some.inj hf) rfl dX0_isBadCut_24
abbrev rm_X0_endOfPage : Room := { frames := 2, cells := 0, slots := 0, locals := 44 }
theorem hd_X0_endOfPage : yX0_endOfPage.cls = RX0 ∧ yX0_endOfPage.cls ≠ "java/lang/invoke/MethodHandle" ∧ yX0_endOfPage.cls ≠ "java/lang/invoke/VarHandle" ∧ (parseMethodDescriptor yX0_endOfPage.desc).map (fun d => d.parameters.length) = some 1 := by decide +kernel
set_option maxRecDepth 100000 in
set_option maxHeartbeats 4000000 in
theorem c_X0_endOfPage (l : Launch) (D : va_G) (cI cO : ClassId) (b : Nat) (z : Nat) (hz : z < 4) (S : St) (x1 : Int32) (r : Int32) (hf : f_X0_endOfPage S z x1 = some r) : Met l yX0_endOfPage (Cond.code yX0_endOfPage cX0_endOfPage 5 (some .int) :: wsAll) rm_X0_endOfPage (PX D (wC cI cO b) (tyC cI cO) S [.ref (b + (oL z)), .int x1]) (Qi D (wC cI cO b) (tyC cI cO) (AC b) r S) 0 0 (AC b) := by
  unfold f_X0_endOfPage at hf
  refine g_met RX0 (by decide +kernel) (Nat.le_of_ble_eq_true rfl) rfl ?_
  intro p e s m args below meth c ls Q F hr hlocks hK hP hl hQ
  have hx := F.1
  have hb := F.2.1
  have hS : va_S (AC b) s.heap s.heap [] := va_S.rf
  have hl : lv_has ls 5 [(0, .ref (b + (oL z))), (1, .int x1)] := hl
  refine lv_bipush (v := 6) hx hb dX0_endOfPage_0 (by decide) ?_
  refine lv_istore_n (lv' := [(2, .int (6 : Int32)), (0, .ref (b + (oL z))), (1, .int x1)]) hx hb dX0_endOfPage_2 rfl hl (by decide) rfl (fun ls hl => ?_)
  refine lv_iload_n hx hb dX0_endOfPage_3 rfl (lv_at hl 2 rfl) ?_
  refine lv_istore_n (lv' := [(3, .int x1), (2, .int (6 : Int32)), (0, .ref (b + (oL z))), (1, .int x1)]) hx hb dX0_endOfPage_4 rfl hl (by decide) rfl (fun ls hl => ?_)
  refine lv_iconst (v := -1) hx hb dX0_endOfPage_5 (by decide) ?_
  refine lv_istore (lv' := [(4, .int (-1 : Int32)), (3, .int x1), (2, .int (6 : Int32)), (0, .ref (b + (oL z))), (1, .int x1)]) hx hb dX0_endOfPage_6 hl (by decide) rfl (fun ls hl => ?_)
  refine Lp3_ind (P := fun (x2_8 : Int32) (x3_8 : Int32) (x4_8 : Int32) => ∀ (H : Heap) (locs : List Loc) (ls : Array Slot), va_P D vwCl ((wC cI cO b) S) H → va_S (AC b) s.heap H locs → lv_has ls 5 [(0, .ref (b + (oL z))), (2, .int x2_8), (3, .int x3_8), (4, .int x4_8)] → W p l e rm_X0_endOfPage s m args below meth c H locs 0 0 Q (F0 m 8 ls [])) ?_ _ _ _ _ hf _ _ _ hP hS (lv_sub hl [3, 2, 1, 0] rfl)
  clear hf hP hS hl
  intro nx8 x2_8 x3_8 x4_8 ih8 hf H locs ls hP hS hl
  refine lv_iload_n hx hb dX0_endOfPage_8 rfl (lv_at hl 2 rfl) ?_
  refine lv_aload_n hx hb dX0_endOfPage_9 rfl (lv_at hl 0 rfl) ?_
  refine g_get F hK hP inA0 (oL z) (wC_L hz) rfl 2 (by decide) wd_125 (v := .ref (b + (oL z + 1))) rfl dX0_endOfPage_10 ?_
  obtain ⟨v13, q13, hf⟩ := cl_some hf
  refine g_calli F hK hP hS [] (c_X2_size l D cI cO b (oL z + 1) (nKL _ hz).1 S v13 q13) wd_230 wd_203 wd_204 wd_3 wd_205 (wC_N (nKL _ hz).1) rfl hd_X2_size rfl rfl ⟨Nat.le_of_ble_eq_true rfl, Nat.le_of_ble_eq_true rfl⟩ rfl hl (rest := [.int x3_8]) rfl (Nat.le_of_ble_eq_true rfl) dX0_endOfPage_13 ⟨Nat.le_of_ble_eq_true rfl, Nat.le_of_ble_eq_true rfl⟩ (fun H locs hP hS => ?_)
  obtain ⟨J53, eJ53, hf⟩ := jn_some hf
  have kJ53 : ∀ (H : Heap) (locs : List Loc) (ls : Array Slot), J53 = some r → va_P D vwCl ((wC cI cO b) S) H → va_S (AC b) s.heap H locs → lv_has ls 5 [(3, .int x3_8), (4, .int x4_8)] → W p l e rm_X0_endOfPage s m args below meth c H locs 0 0 Q (F0 m 53 ls []) := by
    intro  H locs ls hf hP hS hl
    rw [eJ53] at hf
    refine lv_iload hx hb dX0_endOfPage_53 (lv_at hl 1 rfl) ?_
    refine lv_iconst (v := -1) hx hb dX0_endOfPage_55 (by decide) ?_
    refine lv_icmp_ne (tgt := 63) hx hb dX0_endOfPage_56 (by decide) (fun q => ?_) (fun q => ?_)
    · replace hf := ite_t q hf
      refine lv_iload hx hb dX0_endOfPage_63 (lv_at hl 1 rfl) ?_
      exact g_iret F hr hlocks hQ hK hP hS (Option.some.inj hf) rfl dX0_endOfPage_65
    · replace hf := ite_f (fun h => h q) hf
      refine lv_iload_n hx hb dX0_endOfPage_59 rfl (lv_at hl 0 rfl) ?_
      refine lv_goto (tgt := 65) hx hb dX0_endOfPage_60 (by decide) ?_
      exact g_iret F hr hlocks hQ hK hP hS (Option.some.inj hf) rfl dX0_endOfPage_65
  clear eJ53
  refine lv_icmp_ge (tgt := 53) hx hb dX0_endOfPage_16 (by decide) (fun q => ?_) (fun q => ?_)
  · replace hf := ite_t q hf
    exact kJ53 _ _ _ hf hP hS (lv_sub hl [2, 3] rfl)
  · replace hf := ite_f q hf
    refine lv_aload_n hx hb dX0_endOfPage_19 rfl (lv_at hl 0 rfl) ?_
    refine lv_iload_n hx hb dX0_endOfPage_20 rfl (lv_at hl 2 rfl) ?_
    obtain ⟨v21, q21, hf⟩ := cl_some hf
    refine g_calli F hK hP hS [.int x3_8] (c_X0_rows l D cI cO b z hz S x3_8 v21 q21) wd_525 wd_240 wd_241 wd_7 wd_242 (wC_L hz) rfl hd_X0_rows rfl rfl ⟨Nat.le_of_ble_eq_true rfl, Nat.le_of_ble_eq_true rfl⟩ rfl hl (rest := []) rfl (Nat.le_of_ble_eq_true rfl) dX0_endOfPage_21 ⟨Nat.le_of_ble_eq_true rfl, Nat.le_of_ble_eq_true rfl⟩ (fun H locs hP hS => ?_)
    refine lv_iload_n hx hb dX0_endOfPage_24 rfl (lv_at hl 1 rfl) ?_
    refine lv_icmp_gt (tgt := 53) hx hb dX0_endOfPage_25 (by decide) (fun q => ?_) (fun q => ?_)
    · replace hf := ite_t q hf
      exact kJ53 _ _ _ hf hP hS (lv_sub hl [2, 3] rfl)
    · replace hf := ite_f q hf
      refine lv_iload_n hx hb dX0_endOfPage_28 rfl (lv_at hl 1 rfl) ?_
      refine lv_aload_n hx hb dX0_endOfPage_29 rfl (lv_at hl 0 rfl) ?_
      refine lv_iload_n hx hb dX0_endOfPage_30 rfl (lv_at hl 2 rfl) ?_
      obtain ⟨v31, q31, hf⟩ := cl_some hf
      refine g_calli F hK hP hS [.int x3_8] (c_X0_rows l D cI cO b z hz S x3_8 v31 q31) wd_525 wd_240 wd_241 wd_7 wd_242 (wC_L hz) rfl hd_X0_rows rfl rfl ⟨Nat.le_of_ble_eq_true rfl, Nat.le_of_ble_eq_true rfl⟩ rfl hl (rest := [.int x2_8]) rfl (Nat.le_of_ble_eq_true rfl) dX0_endOfPage_31 ⟨Nat.le_of_ble_eq_true rfl, Nat.le_of_ble_eq_true rfl⟩ (fun H locs hP hS => ?_)
      refine lv_isub hx hb dX0_endOfPage_34 ?_
      obtain ⟨x2_35, ex2_35, hf⟩ := lt_some hf
      rw [← ex2_35]
      refine lv_istore_n (lv' := [(2, .int x2_35), (0, .ref (b + (oL z))), (3, .int x3_8), (4, .int x4_8)]) hx hb dX0_endOfPage_35 rfl hl (by decide) rfl (fun ls hl => ?_)
      obtain ⟨x3_36, ex3_36, hf⟩ := lt_some hf
      refine lv_iinc (v := x3_36) (lv' := [(3, .int x3_36), (2, .int x2_35), (0, .ref (b + (oL z))), (4, .int x4_8)]) hx hb dX0_endOfPage_36 hl (k := 2) rfl (by rw [ex3_36]; rfl) (by decide) rfl (fun ls hl => ?_)
      refine lv_aload_n hx hb dX0_endOfPage_39 rfl (lv_at hl 2 rfl) ?_
      refine lv_iload_n hx hb dX0_endOfPage_40 rfl (lv_at hl 0 rfl) ?_
      obtain ⟨v41, q41, hf⟩ := cl_some hf
      refine g_calli F hK hP hS [.int x3_36] (c_X0_isBadCut l D cI cO b z hz S x3_36 v41 q41) wd_526 wd_528 wp_13 wd_7 wd_529 (wC_L hz) rfl hd_X0_isBadCut rfl rfl ⟨Nat.le_of_ble_eq_true rfl, Nat.le_of_ble_eq_true rfl⟩ rfl hl (rest := []) rfl (Nat.le_of_ble_eq_true rfl) dX0_endOfPage_41 ⟨Nat.le_of_ble_eq_true rfl, Nat.le_of_ble_eq_true rfl⟩ (fun H locs hP hS => ?_)
      refine lv_if_ne (tgt := 8) hx hb dX0_endOfPage_44 (by decide) (fun q => ?_) (fun q => ?_)
      · replace hf := ite_t q hf
        exact ih8 _ _ _ hf _ _ _ hP hS (lv_sub hl [2, 1, 0, 3] rfl)
      · replace hf := ite_f (fun h => h q) hf
        refine lv_iload_n hx hb dX0_endOfPage_47 rfl (lv_at hl 0 rfl) ?_
        refine lv_istore (lv' := [(4, .int x3_36), (3, .int x3_36), (2, .int x2_35), (0, .ref (b + (oL z)))]) hx hb dX0_endOfPage_48 hl (by decide) rfl (fun ls hl => ?_)
        refine lv_goto (tgt := 8) hx hb dX0_endOfPage_50 (by decide) ?_
        exact ih8 _ _ _ hf _ _ _ hP hS (lv_sub hl [3, 2, 1, 0] rfl)
abbrev rm_X0_cutPages : Room := { frames := 3, cells := 0, slots := 0, locals := 68 }
theorem hd_X0_cutPages : yX0_cutPages.cls = RX0 ∧ yX0_cutPages.cls ≠ "java/lang/invoke/MethodHandle" ∧ yX0_cutPages.cls ≠ "java/lang/invoke/VarHandle" ∧ (parseMethodDescriptor yX0_cutPages.desc).map (fun d => d.parameters.length) = some 0 := by decide +kernel
set_option maxRecDepth 100000 in
set_option maxHeartbeats 4000000 in
theorem c_X0_cutPages (l : Launch) (D : va_G) (cI cO : ClassId) (b : Nat) (z : Nat) (hz : z < 4) (S : St) (S1 : St) (hf : f_X0_cutPages S z = some S1) : Met l yX0_cutPages (Cond.code yX0_cutPages cX0_cutPages 3 none :: wsAll) rm_X0_cutPages (PX D (wC cI cO b) (tyC cI cO) S [.ref (b + (oL z))]) (Qv D (wC cI cO b) (tyC cI cO) (AC b) S1) 0 0 (AC b) := by
  unfold f_X0_cutPages at hf
  refine g_met RX0 (by decide +kernel) (Nat.le_of_ble_eq_true rfl) rfl ?_
  intro p e s m args below meth c ls Q F hr hlocks hK hP hl hQ
  have hx := F.1
  have hb := F.2.1
  have hS : va_S (AC b) s.heap s.heap [] := va_S.rf
  have hl : lv_has ls 3 [(0, .ref (b + (oL z)))] := hl
  refine lv_aload_n hx hb dX0_cutPages_0 rfl (lv_at hl 0 rfl) ?_
  refine g_get F hK hP inA0 (oL z) (wC_L hz) rfl 5 (by decide) wd_128 (v := .ref (b + (oL z + 7))) rfl dX0_cutPages_1 ?_
  obtain ⟨S_4, q4, hf⟩ := cl_some hf
  refine g_callv F hK hP hS [] (c_X2_clear l D cI cO b (oL z + 7) (nKL _ hz).2.2.2 S S_4 q4) wd_473 wd_474 wd_475 wd_3 wd_476 (wC_N (nKL _ hz).2.2.2) rfl hd_X2_clear rfl rfl ⟨Nat.le_of_ble_eq_true rfl, Nat.le_of_ble_eq_true rfl⟩ rfl hl (rest := []) rfl (Nat.le_of_ble_eq_true rfl) dX0_cutPages_4 ⟨Nat.le_of_ble_eq_true rfl, Nat.le_of_ble_eq_true rfl⟩ (fun H locs hP hS => ?_)
  refine lv_iconst (v := 0) hx hb dX0_cutPages_7 (by decide) ?_
  refine lv_istore_n (lv' := [(1, .int (0 : Int32)), (0, .ref (b + (oL z)))]) hx hb dX0_cutPages_8 rfl hl (by decide) rfl (fun ls hl => ?_)
  refine lv_iconst (v := 0) hx hb dX0_cutPages_9 (by decide) ?_
  refine lv_istore_n (lv' := [(2, .int (0 : Int32)), (1, .int (0 : Int32)), (0, .ref (b + (oL z)))]) hx hb dX0_cutPages_10 rfl hl (by decide) rfl (fun ls hl => ?_)
  refine Lp3_ind (P := fun (x1_11 : Int32) (x2_11 : Int32) (S_11 : St) => ∀ (H : Heap) (locs : List Loc) (ls : Array Slot), va_P D vwCl ((wC cI cO b) S_11) H → va_S (AC b) s.heap H locs → lv_has ls 3 [(0, .ref (b + (oL z))), (1, .int x1_11), (2, .int x2_11)] → W p l e rm_X0_cutPages s m args below meth c H locs 0 0 Q (F0 m 11 ls [])) ?_ _ _ _ _ hf _ _ _ hP hS (lv_sub hl [2, 1, 0] rfl)
  clear hf hP hS hl
  intro nx11 x1_11 x2_11 S_11 ih11 hf H locs ls hP hS hl
  refine lv_iload_n hx hb dX0_cutPages_11 rfl (lv_at hl 2 rfl) ?_
  refine lv_aload_n hx hb dX0_cutPages_12 rfl (lv_at hl 0 rfl) ?_
  refine g_get F hK hP inA0 (oL z) (wC_L hz) rfl 2 (by decide) wd_125 (v := .ref (b + (oL z + 1))) rfl dX0_cutPages_13 ?_
  obtain ⟨v16, q16, hf⟩ := cl_some hf
  refine g_calli F hK hP hS [] (c_X2_size l D cI cO b (oL z + 1) (nKL _ hz).1 S_11 v16 q16) wd_230 wd_203 wd_204 wd_3 wd_205 (wC_N (nKL _ hz).1) rfl hd_X2_size rfl rfl ⟨Nat.le_of_ble_eq_true rfl, Nat.le_of_ble_eq_true rfl⟩ rfl hl (rest := [.int x2_11]) rfl (Nat.le_of_ble_eq_true rfl) dX0_cutPages_16 ⟨Nat.le_of_ble_eq_true rfl, Nat.le_of_ble_eq_true rfl⟩ (fun H locs hP hS => ?_)
  refine lv_icmp_ge (tgt := 53) hx hb dX0_cutPages_19 (by decide) (fun q => ?_) (fun q => ?_)
  · replace hf := ite_t q hf
    exact g_vret F hr hlocks hQ hK hP hS (Option.some.inj hf) dX0_cutPages_53
  · replace hf := ite_f q hf
    refine lv_iload_n hx hb dX0_cutPages_22 rfl (lv_at hl 1 rfl) ?_
    refine lv_aload_n hx hb dX0_cutPages_23 rfl (lv_at hl 0 rfl) ?_
    refine g_get F hK hP inA0 (oL z) (wC_L hz) rfl 2 (by decide) wd_125 (v := .ref (b + (oL z + 1))) rfl dX0_cutPages_24 ?_
    obtain ⟨v27, q27, hf⟩ := cl_some hf
    refine g_calli F hK hP hS [] (c_X2_size l D cI cO b (oL z + 1) (nKL _ hz).1 S_11 v27 q27) wd_230 wd_203 wd_204 wd_3 wd_205 (wC_N (nKL _ hz).1) rfl hd_X2_size rfl rfl ⟨Nat.le_of_ble_eq_true rfl, Nat.le_of_ble_eq_true rfl⟩ rfl hl (rest := [.int x1_11]) rfl (Nat.le_of_ble_eq_true rfl) dX0_cutPages_27 ⟨Nat.le_of_ble_eq_true rfl, Nat.le_of_ble_eq_true rfl⟩ (fun H locs hP hS => ?_)
    refine lv_icmp_ge (tgt := 53) hx hb dX0_cutPages_30 (by decide) (fun q => ?_) (fun q => ?_)
    · replace hf := ite_t q hf
      exact g_vret F hr hlocks hQ hK hP hS (Option.some.inj hf) dX0_cutPages_53
    · replace hf := ite_f q hf
      refine lv_aload_n hx hb dX0_cutPages_33 rfl (lv_at hl 0 rfl) ?_
      refine g_get F hK hP inA0 (oL z) (wC_L hz) rfl 5 (by decide) wd_128 (v := .ref (b + (oL z + 7))) rfl dX0_cutPages_34 ?_
      refine lv_iload_n hx hb dX0_cutPages_37 rfl (lv_at hl 1 rfl) ?_
      obtain ⟨S_38, q38, hf⟩ := cl_some hf
      refine g_callv F hK hP hS [.int x1_11] (c_X2_add l D cI cO b (oL z + 7) (nKL _ hz).2.2.2 S_11 x1_11 S_38 q38) wd_493 wd_394 wd_395 wd_3 wd_396 (wC_N (nKL _ hz).2.2.2) rfl hd_X2_add rfl rfl ⟨Nat.le_of_ble_eq_true rfl, Nat.le_of_ble_eq_true rfl⟩ rfl hl (rest := []) rfl (Nat.le_of_ble_eq_true rfl) dX0_cutPages_38 ⟨Nat.le_of_ble_eq_true rfl, Nat.le_of_ble_eq_true rfl⟩ (fun H locs hP hS => ?_)
      refine lv_aload_n hx hb dX0_cutPages_41 rfl (lv_at hl 0 rfl) ?_
      refine lv_iload_n hx hb dX0_cutPages_42 rfl (lv_at hl 1 rfl) ?_
      obtain ⟨v43, q43, hf⟩ := cl_some hf
      refine g_calli F hK hP hS [.int x1_11] (c_X0_endOfPage l D cI cO b z hz S_38 x1_11 v43 q43) wd_521 wd_523 wp_12 wd_7 wd_524 (wC_L hz) rfl hd_X0_endOfPage rfl rfl ⟨Nat.le_of_ble_eq_true rfl, Nat.le_of_ble_eq_true rfl⟩ rfl hl (rest := []) rfl (Nat.le_of_ble_eq_true rfl) dX0_cutPages_43 ⟨Nat.le_of_ble_eq_true rfl, Nat.le_of_ble_eq_true rfl⟩ (fun H locs hP hS => ?_)
      refine lv_istore_n (lv' := [(1, .int v43), (0, .ref (b + (oL z))), (2, .int x2_11)]) hx hb dX0_cutPages_46 rfl hl (by decide) rfl (fun ls hl => ?_)
      obtain ⟨x2_47, ex2_47, hf⟩ := lt_some hf
      refine lv_iinc (v := x2_47) (lv' := [(2, .int x2_47), (1, .int v43), (0, .ref (b + (oL z)))]) hx hb dX0_cutPages_47 hl (k := 2) rfl (by rw [ex2_47]; rfl) (by decide) rfl (fun ls hl => ?_)
      refine lv_goto (tgt := 11) hx hb dX0_cutPages_50 (by decide) ?_
      exact ih11 _ _ _ hf _ _ _ hP hS (lv_sub hl [2, 1, 0] rfl)
abbrev rm_X0_layAnew : Room := { frames := 4, cells := 0, slots := 0, locals := 90 }
theorem hd_X0_layAnew : yX0_layAnew.cls = RX0 ∧ yX0_layAnew.cls ≠ "java/lang/invoke/MethodHandle" ∧ yX0_layAnew.cls ≠ "java/lang/invoke/VarHandle" ∧ (parseMethodDescriptor yX0_layAnew.desc).map (fun d => d.parameters.length) = some 0 := by decide +kernel
set_option maxRecDepth 100000 in
set_option maxHeartbeats 4000000 in
theorem c_X0_layAnew (l : Launch) (D : va_G) (cI cO : ClassId) (b : Nat) (z : Nat) (hz : z < 4) (S : St) (S1 : St) (hf : f_X0_layAnew S z = some S1) : Met l yX0_layAnew (Cond.code yX0_layAnew cX0_layAnew 1 none :: wsAll) rm_X0_layAnew (PX D (wC cI cO b) (tyC cI cO) S [.ref (b + (oL z))]) (Qv D (wC cI cO b) (tyC cI cO) (AC b) S1) 0 0 (AC b) := by
  unfold f_X0_layAnew at hf
  refine g_met RX0 (by decide +kernel) (Nat.le_of_ble_eq_true rfl) rfl ?_
  intro p e s m args below meth c ls Q F hr hlocks hK hP hl hQ
  have hx := F.1
  have hb := F.2.1
  have hS : va_S (AC b) s.heap s.heap [] := va_S.rf
  have hl : lv_has ls 1 [(0, .ref (b + (oL z)))] := hl
  refine lv_aload_n hx hb dX0_layAnew_0 rfl (lv_at hl 0 rfl) ?_
  obtain ⟨S_1, q1, hf⟩ := cl_some hf
  refine g_callv F hK hP hS [] (c_X0_gatherLines l D cI cO b z hz S S_1 q1) wd_469 wd_471 wp_9 wd_7 wd_472 (wC_L hz) rfl hd_X0_gatherLines rfl rfl ⟨Nat.le_of_ble_eq_true rfl, Nat.le_of_ble_eq_true rfl⟩ rfl hl (rest := []) rfl (Nat.le_of_ble_eq_true rfl) dX0_layAnew_1 ⟨Nat.le_of_ble_eq_true rfl, Nat.le_of_ble_eq_true rfl⟩ (fun H locs hP hS => ?_)
  refine lv_aload_n hx hb dX0_layAnew_4 rfl (lv_at hl 0 rfl) ?_
  obtain ⟨S_5, q5, hf⟩ := cl_some hf
  refine g_callv F hK hP hS [] (c_X0_addNotes l D cI cO b z hz S_1 S_5 q5) wd_495 wd_497 wp_10 wd_7 wd_498 (wC_L hz) rfl hd_X0_addNotes rfl rfl ⟨Nat.le_of_ble_eq_true rfl, Nat.le_of_ble_eq_true rfl⟩ rfl hl (rest := []) rfl (Nat.le_of_ble_eq_true rfl) dX0_layAnew_5 ⟨Nat.le_of_ble_eq_true rfl, Nat.le_of_ble_eq_true rfl⟩ (fun H locs hP hS => ?_)
  refine lv_aload_n hx hb dX0_layAnew_8 rfl (lv_at hl 0 rfl) ?_
  obtain ⟨S_9, q9, hf⟩ := cl_some hf
  refine g_callv F hK hP hS [] (c_X0_cutPages l D cI cO b z hz S_5 S_9 q9) wd_517 wd_519 wp_11 wd_7 wd_520 (wC_L hz) rfl hd_X0_cutPages rfl rfl ⟨Nat.le_of_ble_eq_true rfl, Nat.le_of_ble_eq_true rfl⟩ rfl hl (rest := []) rfl (Nat.le_of_ble_eq_true rfl) dX0_layAnew_9 ⟨Nat.le_of_ble_eq_true rfl, Nat.le_of_ble_eq_true rfl⟩ (fun H locs hP hS => ?_)
  exact g_vret F hr hlocks hQ hK hP hS (Option.some.inj hf) dX0_layAnew_12
abbrev rm_X0_lineCount : Room := { frames := 1, cells := 0, slots := 0, locals := 20 }
theorem hd_X0_lineCount : yX0_lineCount.cls = RX0 ∧ yX0_lineCount.cls ≠ "java/lang/invoke/MethodHandle" ∧ yX0_lineCount.cls ≠ "java/lang/invoke/VarHandle" ∧ (parseMethodDescriptor yX0_lineCount.desc).map (fun d => d.parameters.length) = some 0 := by decide +kernel
set_option maxRecDepth 100000 in
set_option maxHeartbeats 4000000 in
theorem c_X0_lineCount (l : Launch) (D : va_G) (cI cO : ClassId) (b : Nat) (z : Nat) (hz : z < 4) (S : St) (r : Int32) (hf : f_X0_lineCount S z = some r) : Met l yX0_lineCount (Cond.code yX0_lineCount cX0_lineCount 1 (some .int) :: wsAll) rm_X0_lineCount (PX D (wC cI cO b) (tyC cI cO) S [.ref (b + (oL z))]) (Qi D (wC cI cO b) (tyC cI cO) (AC b) r S) 0 0 (AC b) := by
  unfold f_X0_lineCount at hf
  refine g_met RX0 (by decide +kernel) (Nat.le_of_ble_eq_true rfl) rfl ?_
  intro p e s m args below meth c ls Q F hr hlocks hK hP hl hQ
  have hx := F.1
  have hb := F.2.1
  have hS : va_S (AC b) s.heap s.heap [] := va_S.rf
  have hl : lv_has ls 1 [(0, .ref (b + (oL z)))] := hl
  refine lv_aload_n hx hb dX0_lineCount_0 rfl (lv_at hl 0 rfl) ?_
  refine g_get F hK hP inA0 (oL z) (wC_L hz) rfl 2 (by decide) wd_125 (v := .ref (b + (oL z + 1))) rfl dX0_lineCount_1 ?_
  obtain ⟨v4, q4, hf⟩ := cl_some hf
  refine g_calli F hK hP hS [] (c_X2_size l D cI cO b (oL z + 1) (nKL _ hz).1 S v4 q4) wd_230 wd_203 wd_204 wd_3 wd_205 (wC_N (nKL _ hz).1) rfl hd_X2_size rfl rfl ⟨Nat.le_of_ble_eq_true rfl, Nat.le_of_ble_eq_true rfl⟩ rfl hl (rest := []) rfl (Nat.le_of_ble_eq_true rfl) dX0_lineCount_4 ⟨Nat.le_of_ble_eq_true rfl, Nat.le_of_ble_eq_true rfl⟩ (fun H locs hP hS => ?_)
  exact g_iret F hr hlocks hQ hK hP hS (Option.some.inj hf) rfl dX0_lineCount_7
abbrev rm_X0_line : Room := { frames := 1, cells := 0, slots := 0, locals := 21 }
theorem hd_X0_line : yX0_line.cls = RX0 ∧ yX0_line.cls ≠ "java/lang/invoke/MethodHandle" ∧ yX0_line.cls ≠ "java/lang/invoke/VarHandle" ∧ (parseMethodDescriptor yX0_line.desc).map (fun d => d.parameters.length) = some 1 := by decide +kernel
set_option maxRecDepth 100000 in
set_option maxHeartbeats 4000000 in
theorem c_X0_line (l : Launch) (D : va_G) (cI cO : ClassId) (b : Nat) (z : Nat) (hz : z < 4) (S : St) (x1 : Int32) (r : Int32) (hf : f_X0_line S z x1 = some r) : Met l yX0_line (Cond.code yX0_line cX0_line 2 (some .int) :: wsAll) rm_X0_line (PX D (wC cI cO b) (tyC cI cO) S [.ref (b + (oL z)), .int x1]) (Qi D (wC cI cO b) (tyC cI cO) (AC b) r S) 0 0 (AC b) := by
  unfold f_X0_line at hf
  refine g_met RX0 (by decide +kernel) (Nat.le_of_ble_eq_true rfl) rfl ?_
  intro p e s m args below meth c ls Q F hr hlocks hK hP hl hQ
  have hx := F.1
  have hb := F.2.1
  have hS : va_S (AC b) s.heap s.heap [] := va_S.rf
  have hl : lv_has ls 2 [(0, .ref (b + (oL z))), (1, .int x1)] := hl
  refine lv_aload_n hx hb dX0_line_0 rfl (lv_at hl 0 rfl) ?_
  refine g_get F hK hP inA0 (oL z) (wC_L hz) rfl 2 (by decide) wd_125 (v := .ref (b + (oL z + 1))) rfl dX0_line_1 ?_
  refine lv_iload_n hx hb dX0_line_4 rfl (lv_at hl 1 rfl) ?_
  obtain ⟨v5, q5, hf⟩ := cl_some hf
  refine g_calli F hK hP hS [.int x1] (c_X2_at l D cI cO b (oL z + 1) (nKL _ hz).1 S x1 v5 q5) wd_231 wd_232 wd_233 wd_3 wd_234 (wC_N (nKL _ hz).1) rfl hd_X2_at rfl rfl ⟨Nat.le_of_ble_eq_true rfl, Nat.le_of_ble_eq_true rfl⟩ rfl hl (rest := []) rfl (Nat.le_of_ble_eq_true rfl) dX0_line_5 ⟨Nat.le_of_ble_eq_true rfl, Nat.le_of_ble_eq_true rfl⟩ (fun H locs hP hS => ?_)
  exact g_iret F hr hlocks hQ hK hP hS (Option.some.inj hf) rfl dX0_line_8
abbrev rm_X0_beginsParagraph : Room := { frames := 1, cells := 0, slots := 0, locals := 21 }
theorem hd_X0_beginsParagraph : yX0_beginsParagraph.cls = RX0 ∧ yX0_beginsParagraph.cls ≠ "java/lang/invoke/MethodHandle" ∧ yX0_beginsParagraph.cls ≠ "java/lang/invoke/VarHandle" ∧ (parseMethodDescriptor yX0_beginsParagraph.desc).map (fun d => d.parameters.length) = some 1 := by decide +kernel
set_option maxRecDepth 100000 in
set_option maxHeartbeats 4000000 in
theorem c_X0_beginsParagraph (l : Launch) (D : va_G) (cI cO : ClassId) (b : Nat) (z : Nat) (hz : z < 4) (S : St) (x1 : Int32) (r : Int32) (hf : f_X0_beginsParagraph S z x1 = some r) : Met l yX0_beginsParagraph (Cond.code yX0_beginsParagraph cX0_beginsParagraph 2 (some .boolean) :: wsAll) rm_X0_beginsParagraph (PX D (wC cI cO b) (tyC cI cO) S [.ref (b + (oL z)), .int x1]) (Qi D (wC cI cO b) (tyC cI cO) (AC b) r S) 0 0 (AC b) := by
  unfold f_X0_beginsParagraph at hf
  refine g_met RX0 (by decide +kernel) (Nat.le_of_ble_eq_true rfl) rfl ?_
  intro p e s m args below meth c ls Q F hr hlocks hK hP hl hQ
  have hx := F.1
  have hb := F.2.1
  have hS : va_S (AC b) s.heap s.heap [] := va_S.rf
  have hl : lv_has ls 2 [(0, .ref (b + (oL z))), (1, .int x1)] := hl
  refine lv_aload_n hx hb dX0_beginsParagraph_0 rfl (lv_at hl 0 rfl) ?_
  refine g_get F hK hP inA0 (oL z) (wC_L hz) rfl 3 (by decide) wd_126 (v := .ref (b + (oL z + 3))) rfl dX0_beginsParagraph_1 ?_
  refine lv_iload_n hx hb dX0_beginsParagraph_4 rfl (lv_at hl 1 rfl) ?_
  obtain ⟨v5, q5, hf⟩ := cl_some hf
  refine g_calli F hK hP hS [.int x1] (c_X2_at l D cI cO b (oL z + 3) (nKL _ hz).2.1 S x1 v5 q5) wd_231 wd_232 wd_233 wd_3 wd_234 (wC_N (nKL _ hz).2.1) rfl hd_X2_at rfl rfl ⟨Nat.le_of_ble_eq_true rfl, Nat.le_of_ble_eq_true rfl⟩ rfl hl (rest := []) rfl (Nat.le_of_ble_eq_true rfl) dX0_beginsParagraph_5 ⟨Nat.le_of_ble_eq_true rfl, Nat.le_of_ble_eq_true rfl⟩ (fun H locs hP hS => ?_)
  refine lv_iconst (v := 1) hx hb dX0_beginsParagraph_8 (by decide) ?_
  refine lv_icmp_ne (tgt := 16) hx hb dX0_beginsParagraph_9 (by decide) (fun q => ?_) (fun q => ?_)
  · replace hf := ite_t q hf
    refine lv_iconst (v := 0) hx hb dX0_beginsParagraph_16 (by decide) ?_
    exact g_zret F hr hlocks hQ hK hP hS rfl (Option.some.inj hf) rfl dX0_beginsParagraph_17
  · replace hf := ite_f (fun h => h q) hf
    refine lv_iconst (v := 1) hx hb dX0_beginsParagraph_12 (by decide) ?_
    refine lv_goto (tgt := 17) hx hb dX0_beginsParagraph_13 (by decide) ?_
    exact g_zret F hr hlocks hQ hK hP hS rfl (Option.some.inj hf) rfl dX0_beginsParagraph_17
abbrev rm_X0_pageCount : Room := { frames := 1, cells := 0, slots := 0, locals := 20 }
theorem hd_X0_pageCount : yX0_pageCount.cls = RX0 ∧ yX0_pageCount.cls ≠ "java/lang/invoke/MethodHandle" ∧ yX0_pageCount.cls ≠ "java/lang/invoke/VarHandle" ∧ (parseMethodDescriptor yX0_pageCount.desc).map (fun d => d.parameters.length) = some 0 := by decide +kernel
set_option maxRecDepth 100000 in
set_option maxHeartbeats 4000000 in
theorem c_X0_pageCount (l : Launch) (D : va_G) (cI cO : ClassId) (b : Nat) (z : Nat) (hz : z < 4) (S : St) (r : Int32) (hf : f_X0_pageCount S z = some r) : Met l yX0_pageCount (Cond.code yX0_pageCount cX0_pageCount 1 (some .int) :: wsAll) rm_X0_pageCount (PX D (wC cI cO b) (tyC cI cO) S [.ref (b + (oL z))]) (Qi D (wC cI cO b) (tyC cI cO) (AC b) r S) 0 0 (AC b) := by
  unfold f_X0_pageCount at hf
  refine g_met RX0 (by decide +kernel) (Nat.le_of_ble_eq_true rfl) rfl ?_
  intro p e s m args below meth c ls Q F hr hlocks hK hP hl hQ
  have hx := F.1
  have hb := F.2.1
  have hS : va_S (AC b) s.heap s.heap [] := va_S.rf
  have hl : lv_has ls 1 [(0, .ref (b + (oL z)))] := hl
  refine lv_aload_n hx hb dX0_pageCount_0 rfl (lv_at hl 0 rfl) ?_
  refine g_get F hK hP inA0 (oL z) (wC_L hz) rfl 5 (by decide) wd_128 (v := .ref (b + (oL z + 7))) rfl dX0_pageCount_1 ?_
  obtain ⟨v4, q4, hf⟩ := cl_some hf
  refine g_calli F hK hP hS [] (c_X2_size l D cI cO b (oL z + 7) (nKL _ hz).2.2.2 S v4 q4) wd_230 wd_203 wd_204 wd_3 wd_205 (wC_N (nKL _ hz).2.2.2) rfl hd_X2_size rfl rfl ⟨Nat.le_of_ble_eq_true rfl, Nat.le_of_ble_eq_true rfl⟩ rfl hl (rest := []) rfl (Nat.le_of_ble_eq_true rfl) dX0_pageCount_4 ⟨Nat.le_of_ble_eq_true rfl, Nat.le_of_ble_eq_true rfl⟩ (fun H locs hP hS => ?_)
  exact g_iret F hr hlocks hQ hK hP hS (Option.some.inj hf) rfl dX0_pageCount_7
abbrev rm_X0_pageOf : Room := { frames := 1, cells := 0, slots := 0, locals := 21 }
theorem hd_X0_pageOf : yX0_pageOf.cls = RX0 ∧ yX0_pageOf.cls ≠ "java/lang/invoke/MethodHandle" ∧ yX0_pageOf.cls ≠ "java/lang/invoke/VarHandle" ∧ (parseMethodDescriptor yX0_pageOf.desc).map (fun d => d.parameters.length) = some 1 := by decide +kernel
set_option maxRecDepth 100000 in
set_option maxHeartbeats 4000000 in
theorem c_X0_pageOf (l : Launch) (D : va_G) (cI cO : ClassId) (b : Nat) (z : Nat) (hz : z < 4) (S : St) (x1 : Int32) (r : Int32) (hf : f_X0_pageOf S z x1 = some r) : Met l yX0_pageOf (Cond.code yX0_pageOf cX0_pageOf 4 (some .int) :: wsAll) rm_X0_pageOf (PX D (wC cI cO b) (tyC cI cO) S [.ref (b + (oL z)), .int x1]) (Qi D (wC cI cO b) (tyC cI cO) (AC b) r S) 0 0 (AC b) := by
  unfold f_X0_pageOf at hf
  refine g_met RX0 (by decide +kernel) (Nat.le_of_ble_eq_true rfl) rfl ?_
  intro p e s m args below meth c ls Q F hr hlocks hK hP hl hQ
  have hx := F.1
  have hb := F.2.1
  have hS : va_S (AC b) s.heap s.heap [] := va_S.rf
  have hl : lv_has ls 4 [(0, .ref (b + (oL z))), (1, .int x1)] := hl
  refine lv_iconst (v := -1) hx hb dX0_pageOf_0 (by decide) ?_
  refine lv_istore_n (lv' := [(2, .int (-1 : Int32)), (0, .ref (b + (oL z))), (1, .int x1)]) hx hb dX0_pageOf_1 rfl hl (by decide) rfl (fun ls hl => ?_)
  refine lv_iconst (v := 0) hx hb dX0_pageOf_2 (by decide) ?_
  refine lv_istore_n (lv' := [(3, .int (0 : Int32)), (2, .int (-1 : Int32)), (0, .ref (b + (oL z))), (1, .int x1)]) hx hb dX0_pageOf_3 rfl hl (by decide) rfl (fun ls hl => ?_)
  refine Lp2_ind (P := fun (x2_4 : Int32) (x3_4 : Int32) => ∀ (H : Heap) (locs : List Loc) (ls : Array Slot), va_P D vwCl ((wC cI cO b) S) H → va_S (AC b) s.heap H locs → lv_has ls 4 [(0, .ref (b + (oL z))), (1, .int x1), (2, .int x2_4), (3, .int x3_4)] → W p l e rm_X0_pageOf s m args below meth c H locs 0 0 Q (F0 m 4 ls [])) ?_ _ _ _ hf _ _ _ hP hS (lv_sub hl [2, 3, 1, 0] rfl)
  clear hf hP hS hl
  intro nx4 x2_4 x3_4 ih4 hf H locs ls hP hS hl
  refine lv_iload_n hx hb dX0_pageOf_4 rfl (lv_at hl 3 rfl) ?_
  refine lv_aload_n hx hb dX0_pageOf_5 rfl (lv_at hl 0 rfl) ?_
  refine g_get F hK hP inA0 (oL z) (wC_L hz) rfl 5 (by decide) wd_128 (v := .ref (b + (oL z + 7))) rfl dX0_pageOf_6 ?_
  obtain ⟨v9, q9, hf⟩ := cl_some hf
  refine g_calli F hK hP hS [] (c_X2_size l D cI cO b (oL z + 7) (nKL _ hz).2.2.2 S v9 q9) wd_230 wd_203 wd_204 wd_3 wd_205 (wC_N (nKL _ hz).2.2.2) rfl hd_X2_size rfl rfl ⟨Nat.le_of_ble_eq_true rfl, Nat.le_of_ble_eq_true rfl⟩ rfl hl (rest := [.int x3_4]) rfl (Nat.le_of_ble_eq_true rfl) dX0_pageOf_9 ⟨Nat.le_of_ble_eq_true rfl, Nat.le_of_ble_eq_true rfl⟩ (fun H locs hP hS => ?_)
  refine lv_icmp_ge (tgt := 35) hx hb dX0_pageOf_12 (by decide) (fun q => ?_) (fun q => ?_)
  · replace hf := ite_t q hf
    refine lv_iload_n hx hb dX0_pageOf_35 rfl (lv_at hl 2 rfl) ?_
    exact g_iret F hr hlocks hQ hK hP hS (Option.some.inj hf) rfl dX0_pageOf_36
  · replace hf := ite_f q hf
    refine lv_aload_n hx hb dX0_pageOf_15 rfl (lv_at hl 0 rfl) ?_
    refine g_get F hK hP inA0 (oL z) (wC_L hz) rfl 5 (by decide) wd_128 (v := .ref (b + (oL z + 7))) rfl dX0_pageOf_16 ?_
    refine lv_iload_n hx hb dX0_pageOf_19 rfl (lv_at hl 3 rfl) ?_
    obtain ⟨v20, q20, hf⟩ := cl_some hf
    refine g_calli F hK hP hS [.int x3_4] (c_X2_at l D cI cO b (oL z + 7) (nKL _ hz).2.2.2 S x3_4 v20 q20) wd_231 wd_232 wd_233 wd_3 wd_234 (wC_N (nKL _ hz).2.2.2) rfl hd_X2_at rfl rfl ⟨Nat.le_of_ble_eq_true rfl, Nat.le_of_ble_eq_true rfl⟩ rfl hl (rest := []) rfl (Nat.le_of_ble_eq_true rfl) dX0_pageOf_20 ⟨Nat.le_of_ble_eq_true rfl, Nat.le_of_ble_eq_true rfl⟩ (fun H locs hP hS => ?_)
    refine lv_iload_n hx hb dX0_pageOf_23 rfl (lv_at hl 1 rfl) ?_
    refine lv_icmp_gt (tgt := 35) hx hb dX0_pageOf_24 (by decide) (fun q => ?_) (fun q => ?_)
    · replace hf := ite_t q hf
      refine lv_iload_n hx hb dX0_pageOf_35 rfl (lv_at hl 2 rfl) ?_
      exact g_iret F hr hlocks hQ hK hP hS (Option.some.inj hf) rfl dX0_pageOf_36
    · replace hf := ite_f q hf
      refine lv_iload_n hx hb dX0_pageOf_27 rfl (lv_at hl 3 rfl) ?_
      refine lv_istore_n (lv' := [(2, .int x3_4), (0, .ref (b + (oL z))), (1, .int x1), (3, .int x3_4)]) hx hb dX0_pageOf_28 rfl hl (by decide) rfl (fun ls hl => ?_)
      obtain ⟨x3_29, ex3_29, hf⟩ := lt_some hf
      refine lv_iinc (v := x3_29) (lv' := [(3, .int x3_29), (2, .int x3_4), (0, .ref (b + (oL z))), (1, .int x1)]) hx hb dX0_pageOf_29 hl (k := 3) rfl (by rw [ex3_29]; rfl) (by decide) rfl (fun ls hl => ?_)
      refine lv_goto (tgt := 4) hx hb dX0_pageOf_32 (by decide) ?_
      exact ih4 _ _ hf _ _ _ hP hS (lv_sub hl [2, 3, 1, 0] rfl)
abbrev rm_X0_startOf : Room := { frames := 1, cells := 0, slots := 0, locals := 21 }
theorem hd_X0_startOf : yX0_startOf.cls = RX0 ∧ yX0_startOf.cls ≠ "java/lang/invoke/MethodHandle" ∧ yX0_startOf.cls ≠ "java/lang/invoke/VarHandle" ∧ (parseMethodDescriptor yX0_startOf.desc).map (fun d => d.parameters.length) = some 1 := by decide +kernel
set_option maxRecDepth 100000 in
set_option maxHeartbeats 4000000 in
theorem c_X0_startOf (l : Launch) (D : va_G) (cI cO : ClassId) (b : Nat) (z : Nat) (hz : z < 4) (S : St) (x1 : Int32) (r : Int32) (hf : f_X0_startOf S z x1 = some r) : Met l yX0_startOf (Cond.code yX0_startOf cX0_startOf 2 (some .int) :: wsAll) rm_X0_startOf (PX D (wC cI cO b) (tyC cI cO) S [.ref (b + (oL z)), .int x1]) (Qi D (wC cI cO b) (tyC cI cO) (AC b) r S) 0 0 (AC b) := by
  unfold f_X0_startOf at hf
  refine g_met RX0 (by decide +kernel) (Nat.le_of_ble_eq_true rfl) rfl ?_
  intro p e s m args below meth c ls Q F hr hlocks hK hP hl hQ
  have hx := F.1
  have hb := F.2.1
  have hS : va_S (AC b) s.heap s.heap [] := va_S.rf
  have hl : lv_has ls 2 [(0, .ref (b + (oL z))), (1, .int x1)] := hl
  refine lv_iload_n hx hb dX0_startOf_0 rfl (lv_at hl 1 rfl) ?_
  obtain ⟨J26, eJ26, hf⟩ := jn_some hf
  have kJ26 : ∀ (H : Heap) (locs : List Loc) (ls : Array Slot), J26 = some r → va_P D vwCl ((wC cI cO b) S) H → va_S (AC b) s.heap H locs → lv_has ls 2 [(0, .ref (b + (oL z)))] → W p l e rm_X0_startOf s m args below meth c H locs 0 0 Q (F0 m 26 ls []) := by
    intro  H locs ls hf hP hS hl
    rw [eJ26] at hf
    refine lv_aload_n hx hb dX0_startOf_26 rfl (lv_at hl 0 rfl) ?_
    refine g_get F hK hP inA0 (oL z) (wC_L hz) rfl 2 (by decide) wd_125 (v := .ref (b + (oL z + 1))) rfl dX0_startOf_27 ?_
    obtain ⟨v30, q30, hf⟩ := cl_some hf
    refine g_calli F hK hP hS [] (c_X2_size l D cI cO b (oL z + 1) (nKL _ hz).1 S v30 q30) wd_230 wd_203 wd_204 wd_3 wd_205 (wC_N (nKL _ hz).1) rfl hd_X2_size rfl rfl ⟨Nat.le_of_ble_eq_true rfl, Nat.le_of_ble_eq_true rfl⟩ rfl hl (rest := []) rfl (Nat.le_of_ble_eq_true rfl) dX0_startOf_30 ⟨Nat.le_of_ble_eq_true rfl, Nat.le_of_ble_eq_true rfl⟩ (fun H locs hP hS => ?_)
    exact g_iret F hr hlocks hQ hK hP hS (Option.some.inj hf) rfl dX0_startOf_33
  clear eJ26
  refine lv_if_lt (tgt := 26) hx hb dX0_startOf_1 (by decide) (fun q => ?_) (fun q => ?_)
  · replace hf := ite_t q hf
    exact kJ26 _ _ _ hf hP hS (lv_sub hl [0] rfl)
  · replace hf := ite_f q hf
    refine lv_iload_n hx hb dX0_startOf_4 rfl (lv_at hl 1 rfl) ?_
    refine lv_aload_n hx hb dX0_startOf_5 rfl (lv_at hl 0 rfl) ?_
    refine g_get F hK hP inA0 (oL z) (wC_L hz) rfl 5 (by decide) wd_128 (v := .ref (b + (oL z + 7))) rfl dX0_startOf_6 ?_
    obtain ⟨v9, q9, hf⟩ := cl_some hf
    refine g_calli F hK hP hS [] (c_X2_size l D cI cO b (oL z + 7) (nKL _ hz).2.2.2 S v9 q9) wd_230 wd_203 wd_204 wd_3 wd_205 (wC_N (nKL _ hz).2.2.2) rfl hd_X2_size rfl rfl ⟨Nat.le_of_ble_eq_true rfl, Nat.le_of_ble_eq_true rfl⟩ rfl hl (rest := [.int x1]) rfl (Nat.le_of_ble_eq_true rfl) dX0_startOf_9 ⟨Nat.le_of_ble_eq_true rfl, Nat.le_of_ble_eq_true rfl⟩ (fun H locs hP hS => ?_)
    refine lv_icmp_ge (tgt := 26) hx hb dX0_startOf_12 (by decide) (fun q => ?_) (fun q => ?_)
    · replace hf := ite_t q hf
      exact kJ26 _ _ _ hf hP hS (lv_sub hl [0] rfl)
    · replace hf := ite_f q hf
      refine lv_aload_n hx hb dX0_startOf_15 rfl (lv_at hl 0 rfl) ?_
      refine g_get F hK hP inA0 (oL z) (wC_L hz) rfl 5 (by decide) wd_128 (v := .ref (b + (oL z + 7))) rfl dX0_startOf_16 ?_
      refine lv_iload_n hx hb dX0_startOf_19 rfl (lv_at hl 1 rfl) ?_
      obtain ⟨v20, q20, hf⟩ := cl_some hf
      refine g_calli F hK hP hS [.int x1] (c_X2_at l D cI cO b (oL z + 7) (nKL _ hz).2.2.2 S x1 v20 q20) wd_231 wd_232 wd_233 wd_3 wd_234 (wC_N (nKL _ hz).2.2.2) rfl hd_X2_at rfl rfl ⟨Nat.le_of_ble_eq_true rfl, Nat.le_of_ble_eq_true rfl⟩ rfl hl (rest := []) rfl (Nat.le_of_ble_eq_true rfl) dX0_startOf_20 ⟨Nat.le_of_ble_eq_true rfl, Nat.le_of_ble_eq_true rfl⟩ (fun H locs hP hS => ?_)
      refine lv_goto (tgt := 33) hx hb dX0_startOf_23 (by decide) ?_
      exact g_iret F hr hlocks hQ hK hP hS (Option.some.inj hf) rfl dX0_startOf_33
abbrev rm_X0_endWithRoom : Room := { frames := 2, cells := 0, slots := 0, locals := 42 }
theorem hd_X0_endWithRoom : yX0_endWithRoom.cls = RX0 ∧ yX0_endWithRoom.cls ≠ "java/lang/invoke/MethodHandle" ∧ yX0_endWithRoom.cls ≠ "java/lang/invoke/VarHandle" ∧ (parseMethodDescriptor yX0_endWithRoom.desc).map (fun d => d.parameters.length) = some 1 := by decide +kernel
set_option maxRecDepth 100000 in
set_option maxHeartbeats 4000000 in
theorem c_X0_endWithRoom (l : Launch) (D : va_G) (cI cO : ClassId) (b : Nat) (z : Nat) (hz : z < 4) (S : St) (x1 : Int32) (r : Int32) (hf : f_X0_endWithRoom S z x1 = some r) : Met l yX0_endWithRoom (Cond.code yX0_endWithRoom cX0_endWithRoom 4 (some .int) :: wsAll) rm_X0_endWithRoom (PX D (wC cI cO b) (tyC cI cO) S [.ref (b + (oL z)), .int x1]) (Qi D (wC cI cO b) (tyC cI cO) (AC b) r S) 0 0 (AC b) := by
  unfold f_X0_endWithRoom at hf
  refine g_met RX0 (by decide +kernel) (Nat.le_of_ble_eq_true rfl) rfl ?_
  intro p e s m args below meth c ls Q F hr hlocks hK hP hl hQ
  have hx := F.1
  have hb := F.2.1
  have hS : va_S (AC b) s.heap s.heap [] := va_S.rf
  have hl : lv_has ls 4 [(0, .ref (b + (oL z))), (1, .int x1)] := hl
  refine lv_iconst (v := 0) hx hb dX0_endWithRoom_0 (by decide) ?_
  refine lv_istore_n (lv' := [(2, .int (0 : Int32)), (0, .ref (b + (oL z))), (1, .int x1)]) hx hb dX0_endWithRoom_1 rfl hl (by decide) rfl (fun ls hl => ?_)
  refine lv_iload_n hx hb dX0_endWithRoom_2 rfl (lv_at hl 2 rfl) ?_
  refine lv_istore_n (lv' := [(3, .int x1), (2, .int (0 : Int32)), (0, .ref (b + (oL z))), (1, .int x1)]) hx hb dX0_endWithRoom_3 rfl hl (by decide) rfl (fun ls hl => ?_)
  refine Lp2_ind (P := fun (x2_4 : Int32) (x3_4 : Int32) => ∀ (H : Heap) (locs : List Loc) (ls : Array Slot), va_P D vwCl ((wC cI cO b) S) H → va_S (AC b) s.heap H locs → lv_has ls 4 [(0, .ref (b + (oL z))), (2, .int x2_4), (3, .int x3_4)] → W p l e rm_X0_endWithRoom s m args below meth c H locs 0 0 Q (F0 m 4 ls [])) ?_ _ _ _ hf _ _ _ hP hS (lv_sub hl [2, 1, 0] rfl)
  clear hf hP hS hl
  intro nx4 x2_4 x3_4 ih4 hf H locs ls hP hS hl
  refine lv_iload_n hx hb dX0_endWithRoom_4 rfl (lv_at hl 2 rfl) ?_
  refine lv_aload_n hx hb dX0_endWithRoom_5 rfl (lv_at hl 0 rfl) ?_
  refine g_get F hK hP inA0 (oL z) (wC_L hz) rfl 2 (by decide) wd_125 (v := .ref (b + (oL z + 1))) rfl dX0_endWithRoom_6 ?_
  obtain ⟨v9, q9, hf⟩ := cl_some hf
  refine g_calli F hK hP hS [] (c_X2_size l D cI cO b (oL z + 1) (nKL _ hz).1 S v9 q9) wd_230 wd_203 wd_204 wd_3 wd_205 (wC_N (nKL _ hz).1) rfl hd_X2_size rfl rfl ⟨Nat.le_of_ble_eq_true rfl, Nat.le_of_ble_eq_true rfl⟩ rfl hl (rest := [.int x3_4]) rfl (Nat.le_of_ble_eq_true rfl) dX0_endWithRoom_9 ⟨Nat.le_of_ble_eq_true rfl, Nat.le_of_ble_eq_true rfl⟩ (fun H locs hP hS => ?_)
  refine lv_icmp_ge (tgt := 37) hx hb dX0_endWithRoom_12 (by decide) (fun q => ?_) (fun q => ?_)
  · replace hf := ite_t q hf
    refine lv_aload_n hx hb dX0_endWithRoom_37 rfl (lv_at hl 0 rfl) ?_
    refine g_get F hK hP inA0 (oL z) (wC_L hz) rfl 2 (by decide) wd_125 (v := .ref (b + (oL z + 1))) rfl dX0_endWithRoom_38 ?_
    obtain ⟨v41, q41, hf⟩ := cl_some hf
    refine g_calli F hK hP hS [] (c_X2_size l D cI cO b (oL z + 1) (nKL _ hz).1 S v41 q41) wd_230 wd_203 wd_204 wd_3 wd_205 (wC_N (nKL _ hz).1) rfl hd_X2_size rfl rfl ⟨Nat.le_of_ble_eq_true rfl, Nat.le_of_ble_eq_true rfl⟩ rfl hl (rest := []) rfl (Nat.le_of_ble_eq_true rfl) dX0_endWithRoom_41 ⟨Nat.le_of_ble_eq_true rfl, Nat.le_of_ble_eq_true rfl⟩ (fun H locs hP hS => ?_)
    exact g_iret F hr hlocks hQ hK hP hS (Option.some.inj hf) rfl dX0_endWithRoom_44
  · replace hf := ite_f q hf
    refine lv_iload_n hx hb dX0_endWithRoom_15 rfl (lv_at hl 1 rfl) ?_
    refine lv_aload_n hx hb dX0_endWithRoom_16 rfl (lv_at hl 0 rfl) ?_
    refine lv_iload_n hx hb dX0_endWithRoom_17 rfl (lv_at hl 2 rfl) ?_
    obtain ⟨v18, q18, hf⟩ := cl_some hf
    refine g_calli F hK hP hS [.int x3_4] (c_X0_rows l D cI cO b z hz S x3_4 v18 q18) wd_525 wd_240 wd_241 wd_7 wd_242 (wC_L hz) rfl hd_X0_rows rfl rfl ⟨Nat.le_of_ble_eq_true rfl, Nat.le_of_ble_eq_true rfl⟩ rfl hl (rest := [.int x2_4]) rfl (Nat.le_of_ble_eq_true rfl) dX0_endWithRoom_18 ⟨Nat.le_of_ble_eq_true rfl, Nat.le_of_ble_eq_true rfl⟩ (fun H locs hP hS => ?_)
    refine lv_iadd hx hb dX0_endWithRoom_21 ?_
    obtain ⟨x2_22, ex2_22, hf⟩ := lt_some hf
    rw [← ex2_22]
    refine lv_istore_n (lv' := [(2, .int x2_22), (0, .ref (b + (oL z))), (3, .int x3_4)]) hx hb dX0_endWithRoom_22 rfl hl (by decide) rfl (fun ls hl => ?_)
    refine lv_iload_n hx hb dX0_endWithRoom_23 rfl (lv_at hl 0 rfl) ?_
    refine lv_bipush (v := 6) hx hb dX0_endWithRoom_24 (by decide) ?_
    refine lv_icmp_le (tgt := 31) hx hb dX0_endWithRoom_26 (by decide) (fun q => ?_) (fun q => ?_)
    · replace hf := ite_t q hf
      obtain ⟨x3_31, ex3_31, hf⟩ := lt_some hf
      refine lv_iinc (v := x3_31) (lv' := [(3, .int x3_31), (2, .int x2_22), (0, .ref (b + (oL z)))]) hx hb dX0_endWithRoom_31 hl (k := 2) rfl (by rw [ex3_31]; rfl) (by decide) rfl (fun ls hl => ?_)
      refine lv_goto (tgt := 4) hx hb dX0_endWithRoom_34 (by decide) ?_
      exact ih4 _ _ hf _ _ _ hP hS (lv_sub hl [2, 1, 0] rfl)
    · replace hf := ite_f q hf
      refine lv_iload_n hx hb dX0_endWithRoom_29 rfl (lv_at hl 2 rfl) ?_
      exact g_iret F hr hlocks hQ hK hP hS (Option.some.inj hf) rfl dX0_endWithRoom_30
abbrev rm_X0_endByTrying : Room := { frames := 3, cells := 0, slots := 0, locals := 65 }
theorem hd_X0_endByTrying : yX0_endByTrying.cls = RX0 ∧ yX0_endByTrying.cls ≠ "java/lang/invoke/MethodHandle" ∧ yX0_endByTrying.cls ≠ "java/lang/invoke/VarHandle" ∧ (parseMethodDescriptor yX0_endByTrying.desc).map (fun d => d.parameters.length) = some 1 := by decide +kernel
set_option maxRecDepth 100000 in
set_option maxHeartbeats 4000000 in
theorem c_X0_endByTrying (l : Launch) (D : va_G) (cI cO : ClassId) (b : Nat) (z : Nat) (hz : z < 4) (S : St) (x1 : Int32) (r : Int32) (hf : f_X0_endByTrying S z x1 = some r) : Met l yX0_endByTrying (Cond.code yX0_endByTrying cX0_endByTrying 4 (some .int) :: wsAll) rm_X0_endByTrying (PX D (wC cI cO b) (tyC cI cO) S [.ref (b + (oL z)), .int x1]) (Qi D (wC cI cO b) (tyC cI cO) (AC b) r S) 0 0 (AC b) := by
  unfold f_X0_endByTrying at hf
  refine g_met RX0 (by decide +kernel) (Nat.le_of_ble_eq_true rfl) rfl ?_
  intro p e s m args below meth c ls Q F hr hlocks hK hP hl hQ
  have hx := F.1
  have hb := F.2.1
  have hS : va_S (AC b) s.heap s.heap [] := va_S.rf
  have hl : lv_has ls 4 [(0, .ref (b + (oL z))), (1, .int x1)] := hl
  refine lv_aload_n hx hb dX0_endByTrying_0 rfl (lv_at hl 0 rfl) ?_
  refine lv_iload_n hx hb dX0_endByTrying_1 rfl (lv_at hl 1 rfl) ?_
  obtain ⟨v2, q2, hf⟩ := cl_some hf
  refine g_calli F hK hP hS [.int x1] (c_X0_endWithRoom l D cI cO b z hz S x1 v2 q2) wd_731 wd_733 wp_22 wd_7 wd_734 (wC_L hz) rfl hd_X0_endWithRoom rfl rfl ⟨Nat.le_of_ble_eq_true rfl, Nat.le_of_ble_eq_true rfl⟩ rfl hl (rest := []) rfl (Nat.le_of_ble_eq_true rfl) dX0_endByTrying_2 ⟨Nat.le_of_ble_eq_true rfl, Nat.le_of_ble_eq_true rfl⟩ (fun H locs hP hS => ?_)
  refine lv_istore_n (lv' := [(2, .int v2), (0, .ref (b + (oL z))), (1, .int x1)]) hx hb dX0_endByTrying_5 rfl hl (by decide) rfl (fun ls hl => ?_)
  refine lv_iload_n hx hb dX0_endByTrying_6 rfl (lv_at hl 0 rfl) ?_
  refine lv_istore_n (lv' := [(3, .int v2), (2, .int v2), (0, .ref (b + (oL z))), (1, .int x1)]) hx hb dX0_endByTrying_7 rfl hl (by decide) rfl (fun ls hl => ?_)
  refine Lp1_ind (P := fun (x3_8 : Int32) => ∀ (H : Heap) (locs : List Loc) (ls : Array Slot), va_P D vwCl ((wC cI cO b) S) H → va_S (AC b) s.heap H locs → lv_has ls 4 [(0, .ref (b + (oL z))), (1, .int x1), (2, .int v2), (3, .int x3_8)] → W p l e rm_X0_endByTrying s m args below meth c H locs 0 0 Q (F0 m 8 ls [])) ?_ _ _ hf _ _ _ hP hS (lv_sub hl [2, 3, 1, 0] rfl)
  clear hf hP hS hl
  intro nx8 x3_8 ih8 hf H locs ls hP hS hl
  refine lv_iload_n hx hb dX0_endByTrying_8 rfl (lv_at hl 3 rfl) ?_
  refine lv_iload_n hx hb dX0_endByTrying_9 rfl (lv_at hl 1 rfl) ?_
  refine lv_icmp_le (tgt := 29) hx hb dX0_endByTrying_10 (by decide) (fun q => ?_) (fun q => ?_)
  · replace hf := ite_t q hf
    refine lv_iload_n hx hb dX0_endByTrying_29 rfl (lv_at hl 2 rfl) ?_
    exact g_iret F hr hlocks hQ hK hP hS (Option.some.inj hf) rfl dX0_endByTrying_30
  · replace hf := ite_f q hf
    refine lv_aload_n hx hb dX0_endByTrying_13 rfl (lv_at hl 0 rfl) ?_
    refine lv_iload_n hx hb dX0_endByTrying_14 rfl (lv_at hl 3 rfl) ?_
    obtain ⟨v15, q15, hf⟩ := cl_some hf
    refine g_calli F hK hP hS [.int x3_8] (c_X0_isBadCut l D cI cO b z hz S x3_8 v15 q15) wd_526 wd_528 wp_13 wd_7 wd_529 (wC_L hz) rfl hd_X0_isBadCut rfl rfl ⟨Nat.le_of_ble_eq_true rfl, Nat.le_of_ble_eq_true rfl⟩ rfl hl (rest := []) rfl (Nat.le_of_ble_eq_true rfl) dX0_endByTrying_15 ⟨Nat.le_of_ble_eq_true rfl, Nat.le_of_ble_eq_true rfl⟩ (fun H locs hP hS => ?_)
    refine lv_if_ne (tgt := 23) hx hb dX0_endByTrying_18 (by decide) (fun q => ?_) (fun q => ?_)
    · replace hf := ite_t q hf
      obtain ⟨x3_23, ex3_23, hf⟩ := lt_some hf
      refine lv_iinc (v := x3_23) (lv' := [(3, .int x3_23), (0, .ref (b + (oL z))), (1, .int x1), (2, .int v2)]) hx hb dX0_endByTrying_23 hl (k := 3) rfl (by rw [ex3_23]; rfl) (by decide) rfl (fun ls hl => ?_)
      refine lv_goto (tgt := 8) hx hb dX0_endByTrying_26 (by decide) ?_
      exact ih8 _ hf _ _ _ hP hS (lv_sub hl [1, 2, 3, 0] rfl)
    · replace hf := ite_f (fun h => h q) hf
      refine lv_iload_n hx hb dX0_endByTrying_21 rfl (lv_at hl 3 rfl) ?_
      exact g_iret F hr hlocks hQ hK hP hS (Option.some.inj hf) rfl dX0_endByTrying_22
abbrev rm_X0_countAheadAnew : Room := { frames := 4, cells := 0, slots := 0, locals := 88 }
theorem hd_X0_countAheadAnew : yX0_countAheadAnew.cls = RX0 ∧ yX0_countAheadAnew.cls ≠ "java/lang/invoke/MethodHandle" ∧ yX0_countAheadAnew.cls ≠ "java/lang/invoke/VarHandle" ∧ (parseMethodDescriptor yX0_countAheadAnew.desc).map (fun d => d.parameters.length) = some 1 := by decide +kernel
set_option maxRecDepth 100000 in
set_option maxHeartbeats 4000000 in
theorem c_X0_countAheadAnew (l : Launch) (D : va_G) (cI cO : ClassId) (b : Nat) (z : Nat) (hz : z < 4) (S : St) (x1 : Int32) (r : Int32) (hf : f_X0_countAheadAnew S z x1 = some r) : Met l yX0_countAheadAnew (Cond.code yX0_countAheadAnew cX0_countAheadAnew 4 (some .int) :: wsAll) rm_X0_countAheadAnew (PX D (wC cI cO b) (tyC cI cO) S [.ref (b + (oL z)), .int x1]) (Qi D (wC cI cO b) (tyC cI cO) (AC b) r S) 0 0 (AC b) := by
  unfold f_X0_countAheadAnew at hf
  refine g_met RX0 (by decide +kernel) (Nat.le_of_ble_eq_true rfl) rfl ?_
  intro p e s m args below meth c ls Q F hr hlocks hK hP hl hQ
  have hx := F.1
  have hb := F.2.1
  have hS : va_S (AC b) s.heap s.heap [] := va_S.rf
  have hl : lv_has ls 4 [(0, .ref (b + (oL z))), (1, .int x1)] := hl
  refine lv_iconst (v := 0) hx hb dX0_countAheadAnew_0 (by decide) ?_
  refine lv_istore_n (lv' := [(2, .int (0 : Int32)), (0, .ref (b + (oL z))), (1, .int x1)]) hx hb dX0_countAheadAnew_1 rfl hl (by decide) rfl (fun ls hl => ?_)
  refine lv_iconst (v := 0) hx hb dX0_countAheadAnew_2 (by decide) ?_
  refine lv_istore_n (lv' := [(3, .int (0 : Int32)), (2, .int (0 : Int32)), (0, .ref (b + (oL z))), (1, .int x1)]) hx hb dX0_countAheadAnew_3 rfl hl (by decide) rfl (fun ls hl => ?_)
  refine Lp2_ind (P := fun (x2_4 : Int32) (x3_4 : Int32) => ∀ (H : Heap) (locs : List Loc) (ls : Array Slot), va_P D vwCl ((wC cI cO b) S) H → va_S (AC b) s.heap H locs → lv_has ls 4 [(0, .ref (b + (oL z))), (1, .int x1), (2, .int x2_4), (3, .int x3_4)] → W p l e rm_X0_countAheadAnew s m args below meth c H locs 0 0 Q (F0 m 4 ls [])) ?_ _ _ _ hf _ _ _ hP hS (lv_sub hl [2, 3, 1, 0] rfl)
  clear hf hP hS hl
  intro nx4 x2_4 x3_4 ih4 hf H locs ls hP hS hl
  refine lv_iload_n hx hb dX0_countAheadAnew_4 rfl (lv_at hl 3 rfl) ?_
  refine lv_iload_n hx hb dX0_countAheadAnew_5 rfl (lv_at hl 1 rfl) ?_
  refine lv_icmp_ge (tgt := 32) hx hb dX0_countAheadAnew_6 (by decide) (fun q => ?_) (fun q => ?_)
  · replace hf := ite_t q hf
    refine lv_iload_n hx hb dX0_countAheadAnew_32 rfl (lv_at hl 2 rfl) ?_
    exact g_iret F hr hlocks hQ hK hP hS (Option.some.inj hf) rfl dX0_countAheadAnew_33
  · replace hf := ite_f q hf
    refine lv_iload_n hx hb dX0_countAheadAnew_9 rfl (lv_at hl 3 rfl) ?_
    refine lv_aload_n hx hb dX0_countAheadAnew_10 rfl (lv_at hl 0 rfl) ?_
    refine g_get F hK hP inA0 (oL z) (wC_L hz) rfl 2 (by decide) wd_125 (v := .ref (b + (oL z + 1))) rfl dX0_countAheadAnew_11 ?_
    obtain ⟨v14, q14, hf⟩ := cl_some hf
    refine g_calli F hK hP hS [] (c_X2_size l D cI cO b (oL z + 1) (nKL _ hz).1 S v14 q14) wd_230 wd_203 wd_204 wd_3 wd_205 (wC_N (nKL _ hz).1) rfl hd_X2_size rfl rfl ⟨Nat.le_of_ble_eq_true rfl, Nat.le_of_ble_eq_true rfl⟩ rfl hl (rest := [.int x3_4]) rfl (Nat.le_of_ble_eq_true rfl) dX0_countAheadAnew_14 ⟨Nat.le_of_ble_eq_true rfl, Nat.le_of_ble_eq_true rfl⟩ (fun H locs hP hS => ?_)
    refine lv_icmp_ge (tgt := 32) hx hb dX0_countAheadAnew_17 (by decide) (fun q => ?_) (fun q => ?_)
    · replace hf := ite_t q hf
      refine lv_iload_n hx hb dX0_countAheadAnew_32 rfl (lv_at hl 2 rfl) ?_
      exact g_iret F hr hlocks hQ hK hP hS (Option.some.inj hf) rfl dX0_countAheadAnew_33
    · replace hf := ite_f q hf
      refine lv_aload_n hx hb dX0_countAheadAnew_20 rfl (lv_at hl 0 rfl) ?_
      refine lv_iload_n hx hb dX0_countAheadAnew_21 rfl (lv_at hl 2 rfl) ?_
      obtain ⟨v22, q22, hf⟩ := cl_some hf
      refine g_calli F hK hP hS [.int x2_4] (c_X0_endByTrying l D cI cO b z hz S x2_4 v22 q22) wd_727 wd_729 wp_21 wd_7 wd_730 (wC_L hz) rfl hd_X0_endByTrying rfl rfl ⟨Nat.le_of_ble_eq_true rfl, Nat.le_of_ble_eq_true rfl⟩ rfl hl (rest := []) rfl (Nat.le_of_ble_eq_true rfl) dX0_countAheadAnew_22 ⟨Nat.le_of_ble_eq_true rfl, Nat.le_of_ble_eq_true rfl⟩ (fun H locs hP hS => ?_)
      refine lv_istore_n (lv' := [(2, .int v22), (0, .ref (b + (oL z))), (1, .int x1), (3, .int x3_4)]) hx hb dX0_countAheadAnew_25 rfl hl (by decide) rfl (fun ls hl => ?_)
      obtain ⟨x3_26, ex3_26, hf⟩ := lt_some hf
      refine lv_iinc (v := x3_26) (lv' := [(3, .int x3_26), (2, .int v22), (0, .ref (b + (oL z))), (1, .int x1)]) hx hb dX0_countAheadAnew_26 hl (k := 3) rfl (by rw [ex3_26]; rfl) (by decide) rfl (fun ls hl => ?_)
      refine lv_goto (tgt := 4) hx hb dX0_countAheadAnew_29 (by decide) ?_
      exact ih4 _ _ hf _ _ _ hP hS (lv_sub hl [2, 3, 1, 0] rfl)
abbrev rm_X1_addDeed : Room := { frames := 3, cells := 0, slots := 0, locals := 66 }
theorem hd_X1_addDeed : yX1_addDeed.cls = RX1 ∧ yX1_addDeed.cls ≠ "java/lang/invoke/MethodHandle" ∧ yX1_addDeed.cls ≠ "java/lang/invoke/VarHandle" ∧ (parseMethodDescriptor yX1_addDeed.desc).map (fun d => d.parameters.length) = some 4 := by decide +kernel
set_option maxRecDepth 100000 in
set_option maxHeartbeats 4000000 in
theorem c_X1_addDeed (l : Launch) (D : va_G) (cI cO : ClassId) (b : Nat) (S : St) (x1 : Int32) (x2 : Int32) (x3 : Int32) (x4 : Int32) (r : Int32) (S1 : St) (hf : f_X1_addDeed S x1 x2 x3 x4 = some (r, S1)) : Met l yX1_addDeed (Cond.code yX1_addDeed cX1_addDeed 5 (some .int) :: wsAll) rm_X1_addDeed (PX D (wC cI cO b) (tyC cI cO) S [.ref (b + 1), .int x1, .int x2, .int x3, .int x4]) (Qi D (wC cI cO b) (tyC cI cO) (AC b) r S1) 0 0 (AC b) := by
  unfold f_X1_addDeed at hf
  refine g_met RX1 (by decide +kernel) (Nat.le_of_ble_eq_true rfl) rfl ?_
  intro p e s m args below meth c ls Q F hr hlocks hK hP hl hQ
  have hx := F.1
  have hb := F.2.1
  have hS : va_S (AC b) s.heap s.heap [] := va_S.rf
  have hl : lv_has ls 5 [(0, .ref (b + 1)), (1, .int x1), (2, .int x2), (3, .int x3), (4, .int x4)] := hl
  refine lv_aload_n hx hb dX1_addDeed_0 rfl (lv_at hl 0 rfl) ?_
  refine g_get F hK hP inA1 1 wC_G rfl 0 (by decide) wd_48 (v := .ref (b + 2)) rfl dX1_addDeed_1 ?_
  refine lv_iload_n hx hb dX1_addDeed_4 rfl (lv_at hl 1 rfl) ?_
  obtain ⟨S_5, q5, hf⟩ := cl_some hf
  refine g_callv F hK hP hS [.int x1] (c_X2_add l D cI cO b (2) nK_2 S x1 S_5 q5) wd_393 wd_394 wd_395 wd_3 wd_396 (wC_N nK_2) rfl hd_X2_add rfl rfl ⟨Nat.le_of_ble_eq_true rfl, Nat.le_of_ble_eq_true rfl⟩ rfl hl (rest := []) rfl (Nat.le_of_ble_eq_true rfl) dX1_addDeed_5 ⟨Nat.le_of_ble_eq_true rfl, Nat.le_of_ble_eq_true rfl⟩ (fun H locs hP hS => ?_)
  refine lv_aload_n hx hb dX1_addDeed_8 rfl (lv_at hl 0 rfl) ?_
  refine g_get F hK hP inA1 1 wC_G rfl 1 (by decide) wd_49 (v := .ref (b + 4)) rfl dX1_addDeed_9 ?_
  refine lv_iload_n hx hb dX1_addDeed_12 rfl (lv_at hl 2 rfl) ?_
  obtain ⟨S_13, q13, hf⟩ := cl_some hf
  refine g_callv F hK hP hS [.int x2] (c_X2_add l D cI cO b (4) nK_4 S_5 x2 S_13 q13) wd_393 wd_394 wd_395 wd_3 wd_396 (wC_N nK_4) rfl hd_X2_add rfl rfl ⟨Nat.le_of_ble_eq_true rfl, Nat.le_of_ble_eq_true rfl⟩ rfl hl (rest := []) rfl (Nat.le_of_ble_eq_true rfl) dX1_addDeed_13 ⟨Nat.le_of_ble_eq_true rfl, Nat.le_of_ble_eq_true rfl⟩ (fun H locs hP hS => ?_)
  refine lv_aload_n hx hb dX1_addDeed_16 rfl (lv_at hl 0 rfl) ?_
  refine g_get F hK hP inA1 1 wC_G rfl 2 (by decide) wd_50 (v := .ref (b + 6)) rfl dX1_addDeed_17 ?_
  refine lv_iload_n hx hb dX1_addDeed_20 rfl (lv_at hl 3 rfl) ?_
  obtain ⟨S_21, q21, hf⟩ := cl_some hf
  refine g_callv F hK hP hS [.int x3] (c_X2_add l D cI cO b (6) nK_6 S_13 x3 S_21 q21) wd_393 wd_394 wd_395 wd_3 wd_396 (wC_N nK_6) rfl hd_X2_add rfl rfl ⟨Nat.le_of_ble_eq_true rfl, Nat.le_of_ble_eq_true rfl⟩ rfl hl (rest := []) rfl (Nat.le_of_ble_eq_true rfl) dX1_addDeed_21 ⟨Nat.le_of_ble_eq_true rfl, Nat.le_of_ble_eq_true rfl⟩ (fun H locs hP hS => ?_)
  refine lv_aload_n hx hb dX1_addDeed_24 rfl (lv_at hl 0 rfl) ?_
  refine g_get F hK hP inA1 1 wC_G rfl 3 (by decide) wd_51 (v := .ref (b + 8)) rfl dX1_addDeed_25 ?_
  refine lv_iload hx hb dX1_addDeed_28 (lv_at hl 4 rfl) ?_
  obtain ⟨S_30, q30, hf⟩ := cl_some hf
  refine g_callv F hK hP hS [.int x4] (c_X2_add l D cI cO b (8) nK_8 S_21 x4 S_30 q30) wd_393 wd_394 wd_395 wd_3 wd_396 (wC_N nK_8) rfl hd_X2_add rfl rfl ⟨Nat.le_of_ble_eq_true rfl, Nat.le_of_ble_eq_true rfl⟩ rfl hl (rest := []) rfl (Nat.le_of_ble_eq_true rfl) dX1_addDeed_30 ⟨Nat.le_of_ble_eq_true rfl, Nat.le_of_ble_eq_true rfl⟩ (fun H locs hP hS => ?_)
  refine lv_aload_n hx hb dX1_addDeed_33 rfl (lv_at hl 0 rfl) ?_
  refine g_get F hK hP inA1 1 wC_G rfl 0 (by decide) wd_48 (v := .ref (b + 2)) rfl dX1_addDeed_34 ?_
  obtain ⟨v37, q37, hf⟩ := cl_some hf
  refine g_calli F hK hP hS [] (c_X2_size l D cI cO b (2) nK_2 S_30 v37 q37) wd_368 wd_203 wd_204 wd_3 wd_205 (wC_N nK_2) rfl hd_X2_size rfl rfl ⟨Nat.le_of_ble_eq_true rfl, Nat.le_of_ble_eq_true rfl⟩ rfl hl (rest := []) rfl (Nat.le_of_ble_eq_true rfl) dX1_addDeed_37 ⟨Nat.le_of_ble_eq_true rfl, Nat.le_of_ble_eq_true rfl⟩ (fun H locs hP hS => ?_)
  refine lv_iconst (v := 1) hx hb dX1_addDeed_40 (by decide) ?_
  refine lv_isub hx hb dX1_addDeed_41 ?_
  exact g_iret F hr hlocks hQ hK hP hS (Prod.mk.inj (Option.some.inj hf)).1 (Prod.mk.inj (Option.some.inj hf)).2 dX1_addDeed_42
abbrev rm_X1_addLine : Room := { frames := 3, cells := 0, slots := 0, locals := 66 }
theorem hd_X1_addLine : yX1_addLine.cls = RX1 ∧ yX1_addLine.cls ≠ "java/lang/invoke/MethodHandle" ∧ yX1_addLine.cls ≠ "java/lang/invoke/VarHandle" ∧ (parseMethodDescriptor yX1_addLine.desc).map (fun d => d.parameters.length) = some 4 := by decide +kernel
set_option maxRecDepth 100000 in
set_option maxHeartbeats 4000000 in
theorem c_X1_addLine (l : Launch) (D : va_G) (cI cO : ClassId) (b : Nat) (S : St) (x1 : Int32) (x2 : Int32) (x3 : Int32) (x4 : Int32) (r : Int32) (S1 : St) (hf : f_X1_addLine S x1 x2 x3 x4 = some (r, S1)) : Met l yX1_addLine (Cond.code yX1_addLine cX1_addLine 5 (some .int) :: wsAll) rm_X1_addLine (PX D (wC cI cO b) (tyC cI cO) S [.ref (b + 1), .int x1, .int x2, .int x3, .int x4]) (Qi D (wC cI cO b) (tyC cI cO) (AC b) r S1) 0 0 (AC b) := by
  unfold f_X1_addLine at hf
  refine g_met RX1 (by decide +kernel) (Nat.le_of_ble_eq_true rfl) rfl ?_
  intro p e s m args below meth c ls Q F hr hlocks hK hP hl hQ
  have hx := F.1
  have hb := F.2.1
  have hS : va_S (AC b) s.heap s.heap [] := va_S.rf
  have hl : lv_has ls 5 [(0, .ref (b + 1)), (1, .int x1), (2, .int x2), (3, .int x3), (4, .int x4)] := hl
  refine lv_aload_n hx hb dX1_addLine_0 rfl (lv_at hl 0 rfl) ?_
  refine g_get F hK hP inA1 1 wC_G rfl 4 (by decide) wd_52 (v := .ref (b + 10)) rfl dX1_addLine_1 ?_
  refine lv_iload_n hx hb dX1_addLine_4 rfl (lv_at hl 1 rfl) ?_
  obtain ⟨S_5, q5, hf⟩ := cl_some hf
  refine g_callv F hK hP hS [.int x1] (c_X2_add l D cI cO b (10) nK_10 S x1 S_5 q5) wd_393 wd_394 wd_395 wd_3 wd_396 (wC_N nK_10) rfl hd_X2_add rfl rfl ⟨Nat.le_of_ble_eq_true rfl, Nat.le_of_ble_eq_true rfl⟩ rfl hl (rest := []) rfl (Nat.le_of_ble_eq_true rfl) dX1_addLine_5 ⟨Nat.le_of_ble_eq_true rfl, Nat.le_of_ble_eq_true rfl⟩ (fun H locs hP hS => ?_)
  refine lv_aload_n hx hb dX1_addLine_8 rfl (lv_at hl 0 rfl) ?_
  refine g_get F hK hP inA1 1 wC_G rfl 5 (by decide) wd_53 (v := .ref (b + 12)) rfl dX1_addLine_9 ?_
  refine lv_iload_n hx hb dX1_addLine_12 rfl (lv_at hl 2 rfl) ?_
  obtain ⟨S_13, q13, hf⟩ := cl_some hf
  refine g_callv F hK hP hS [.int x2] (c_X2_add l D cI cO b (12) nK_12 S_5 x2 S_13 q13) wd_393 wd_394 wd_395 wd_3 wd_396 (wC_N nK_12) rfl hd_X2_add rfl rfl ⟨Nat.le_of_ble_eq_true rfl, Nat.le_of_ble_eq_true rfl⟩ rfl hl (rest := []) rfl (Nat.le_of_ble_eq_true rfl) dX1_addLine_13 ⟨Nat.le_of_ble_eq_true rfl, Nat.le_of_ble_eq_true rfl⟩ (fun H locs hP hS => ?_)
  refine lv_aload_n hx hb dX1_addLine_16 rfl (lv_at hl 0 rfl) ?_
  refine g_get F hK hP inA1 1 wC_G rfl 6 (by decide) wd_54 (v := .ref (b + 14)) rfl dX1_addLine_17 ?_
  refine lv_iload_n hx hb dX1_addLine_20 rfl (lv_at hl 3 rfl) ?_
  obtain ⟨S_21, q21, hf⟩ := cl_some hf
  refine g_callv F hK hP hS [.int x3] (c_X2_add l D cI cO b (14) nK_14 S_13 x3 S_21 q21) wd_393 wd_394 wd_395 wd_3 wd_396 (wC_N nK_14) rfl hd_X2_add rfl rfl ⟨Nat.le_of_ble_eq_true rfl, Nat.le_of_ble_eq_true rfl⟩ rfl hl (rest := []) rfl (Nat.le_of_ble_eq_true rfl) dX1_addLine_21 ⟨Nat.le_of_ble_eq_true rfl, Nat.le_of_ble_eq_true rfl⟩ (fun H locs hP hS => ?_)
  refine lv_aload_n hx hb dX1_addLine_24 rfl (lv_at hl 0 rfl) ?_
  refine g_get F hK hP inA1 1 wC_G rfl 7 (by decide) wd_55 (v := .ref (b + 16)) rfl dX1_addLine_25 ?_
  refine lv_iload hx hb dX1_addLine_28 (lv_at hl 4 rfl) ?_
  obtain ⟨J38, eJ38, hf⟩ := jn_some hf
  have kJ38 : ∀ (t0_38 : Int32) (H : Heap) (locs : List Loc) (ls : Array Slot), J38 t0_38 = some (r, S1) → va_P D vwCl ((wC cI cO b) S_21) H → va_S (AC b) s.heap H locs → lv_has ls 5 [(0, .ref (b + 1))] → W p l e rm_X1_addLine s m args below meth c H locs 0 0 Q (F0 m 38 ls [.int t0_38, .ref (b + 16)]) := by
    intro t0_38 H locs ls hf hP hS hl
    rw [eJ38] at hf
    obtain ⟨S_38, q38, hf⟩ := cl_some hf
    refine g_callv F hK hP hS [.int t0_38] (c_X2_add l D cI cO b (16) nK_16 S_21 t0_38 S_38 q38) wd_393 wd_394 wd_395 wd_3 wd_396 (wC_N nK_16) rfl hd_X2_add rfl rfl ⟨Nat.le_of_ble_eq_true rfl, Nat.le_of_ble_eq_true rfl⟩ rfl hl (rest := []) rfl (Nat.le_of_ble_eq_true rfl) dX1_addLine_38 ⟨Nat.le_of_ble_eq_true rfl, Nat.le_of_ble_eq_true rfl⟩ (fun H locs hP hS => ?_)
    refine lv_aload_n hx hb dX1_addLine_41 rfl (lv_at hl 0 rfl) ?_
    refine g_get F hK hP inA1 1 wC_G rfl 4 (by decide) wd_52 (v := .ref (b + 10)) rfl dX1_addLine_42 ?_
    obtain ⟨v45, q45, hf⟩ := cl_some hf
    refine g_calli F hK hP hS [] (c_X2_size l D cI cO b (10) nK_10 S_38 v45 q45) wd_368 wd_203 wd_204 wd_3 wd_205 (wC_N nK_10) rfl hd_X2_size rfl rfl ⟨Nat.le_of_ble_eq_true rfl, Nat.le_of_ble_eq_true rfl⟩ rfl hl (rest := []) rfl (Nat.le_of_ble_eq_true rfl) dX1_addLine_45 ⟨Nat.le_of_ble_eq_true rfl, Nat.le_of_ble_eq_true rfl⟩ (fun H locs hP hS => ?_)
    refine lv_iconst (v := 1) hx hb dX1_addLine_48 (by decide) ?_
    refine lv_isub hx hb dX1_addLine_49 ?_
    exact g_iret F hr hlocks hQ hK hP hS (Prod.mk.inj (Option.some.inj hf)).1 (Prod.mk.inj (Option.some.inj hf)).2 dX1_addLine_50
  clear eJ38
  refine lv_if_eq (tgt := 37) hx hb dX1_addLine_30 (by decide) (fun q => ?_) (fun q => ?_)
  · replace hf := ite_t q hf
    refine lv_iconst (v := 0) hx hb dX1_addLine_37 (by decide) ?_
    exact kJ38 _ _ _ _ hf hP hS (lv_sub hl [0] rfl)
  · replace hf := ite_f q hf
    refine lv_iconst (v := 1) hx hb dX1_addLine_33 (by decide) ?_
    refine lv_goto (tgt := 38) hx hb dX1_addLine_34 (by decide) ?_
    exact kJ38 _ _ _ _ hf hP hS (lv_sub hl [0] rfl)
abbrev rm_X1_addNote : Room := { frames := 3, cells := 0, slots := 0, locals := 66 }
theorem hd_X1_addNote : yX1_addNote.cls = RX1 ∧ yX1_addNote.cls ≠ "java/lang/invoke/MethodHandle" ∧ yX1_addNote.cls ≠ "java/lang/invoke/VarHandle" ∧ (parseMethodDescriptor yX1_addNote.desc).map (fun d => d.parameters.length) = some 1 := by decide +kernel
set_option maxRecDepth 100000 in
set_option maxHeartbeats 4000000 in
theorem c_X1_addNote (l : Launch) (D : va_G) (cI cO : ClassId) (b : Nat) (S : St) (x1 : Int32) (r : Int32) (S1 : St) (hf : f_X1_addNote S x1 = some (r, S1)) : Met l yX1_addNote (Cond.code yX1_addNote cX1_addNote 2 (some .int) :: wsAll) rm_X1_addNote (PX D (wC cI cO b) (tyC cI cO) S [.ref (b + 1), .int x1]) (Qi D (wC cI cO b) (tyC cI cO) (AC b) r S1) 0 0 (AC b) := by
  unfold f_X1_addNote at hf
  refine g_met RX1 (by decide +kernel) (Nat.le_of_ble_eq_true rfl) rfl ?_
  intro p e s m args below meth c ls Q F hr hlocks hK hP hl hQ
  have hx := F.1
  have hb := F.2.1
  have hS : va_S (AC b) s.heap s.heap [] := va_S.rf
  have hl : lv_has ls 2 [(0, .ref (b + 1)), (1, .int x1)] := hl
  refine lv_aload_n hx hb dX1_addNote_0 rfl (lv_at hl 0 rfl) ?_
  refine g_get F hK hP inA1 1 wC_G rfl 8 (by decide) wd_56 (v := .ref (b + 18)) rfl dX1_addNote_1 ?_
  refine lv_iload_n hx hb dX1_addNote_4 rfl (lv_at hl 1 rfl) ?_
  obtain ⟨S_5, q5, hf⟩ := cl_some hf
  refine g_callv F hK hP hS [.int x1] (c_X2_add l D cI cO b (18) nK_18 S x1 S_5 q5) wd_393 wd_394 wd_395 wd_3 wd_396 (wC_N nK_18) rfl hd_X2_add rfl rfl ⟨Nat.le_of_ble_eq_true rfl, Nat.le_of_ble_eq_true rfl⟩ rfl hl (rest := []) rfl (Nat.le_of_ble_eq_true rfl) dX1_addNote_5 ⟨Nat.le_of_ble_eq_true rfl, Nat.le_of_ble_eq_true rfl⟩ (fun H locs hP hS => ?_)
  refine lv_aload_n hx hb dX1_addNote_8 rfl (lv_at hl 0 rfl) ?_
  refine g_get F hK hP inA1 1 wC_G rfl 8 (by decide) wd_56 (v := .ref (b + 18)) rfl dX1_addNote_9 ?_
  obtain ⟨v12, q12, hf⟩ := cl_some hf
  refine g_calli F hK hP hS [] (c_X2_size l D cI cO b (18) nK_18 S_5 v12 q12) wd_368 wd_203 wd_204 wd_3 wd_205 (wC_N nK_18) rfl hd_X2_size rfl rfl ⟨Nat.le_of_ble_eq_true rfl, Nat.le_of_ble_eq_true rfl⟩ rfl hl (rest := []) rfl (Nat.le_of_ble_eq_true rfl) dX1_addNote_12 ⟨Nat.le_of_ble_eq_true rfl, Nat.le_of_ble_eq_true rfl⟩ (fun H locs hP hS => ?_)
  refine lv_iconst (v := 1) hx hb dX1_addNote_15 (by decide) ?_
  refine lv_isub hx hb dX1_addNote_16 ?_
  exact g_iret F hr hlocks hQ hK hP hS (Prod.mk.inj (Option.some.inj hf)).1 (Prod.mk.inj (Option.some.inj hf)).2 dX1_addNote_17
abbrev rm_X1_deedCount : Room := { frames := 1, cells := 0, slots := 0, locals := 20 }
theorem hd_X1_deedCount : yX1_deedCount.cls = RX1 ∧ yX1_deedCount.cls ≠ "java/lang/invoke/MethodHandle" ∧ yX1_deedCount.cls ≠ "java/lang/invoke/VarHandle" ∧ (parseMethodDescriptor yX1_deedCount.desc).map (fun d => d.parameters.length) = some 0 := by decide +kernel
set_option maxRecDepth 100000 in
set_option maxHeartbeats 4000000 in
theorem c_X1_deedCount (l : Launch) (D : va_G) (cI cO : ClassId) (b : Nat) (S : St) (r : Int32) (hf : f_X1_deedCount S = some r) : Met l yX1_deedCount (Cond.code yX1_deedCount cX1_deedCount 1 (some .int) :: wsAll) rm_X1_deedCount (PX D (wC cI cO b) (tyC cI cO) S [.ref (b + 1)]) (Qi D (wC cI cO b) (tyC cI cO) (AC b) r S) 0 0 (AC b) := by
  unfold f_X1_deedCount at hf
  refine g_met RX1 (by decide +kernel) (Nat.le_of_ble_eq_true rfl) rfl ?_
  intro p e s m args below meth c ls Q F hr hlocks hK hP hl hQ
  have hx := F.1
  have hb := F.2.1
  have hS : va_S (AC b) s.heap s.heap [] := va_S.rf
  have hl : lv_has ls 1 [(0, .ref (b + 1))] := hl
  refine lv_aload_n hx hb dX1_deedCount_0 rfl (lv_at hl 0 rfl) ?_
  refine g_get F hK hP inA1 1 wC_G rfl 0 (by decide) wd_48 (v := .ref (b + 2)) rfl dX1_deedCount_1 ?_
  obtain ⟨v4, q4, hf⟩ := cl_some hf
  refine g_calli F hK hP hS [] (c_X2_size l D cI cO b (2) nK_2 S v4 q4) wd_368 wd_203 wd_204 wd_3 wd_205 (wC_N nK_2) rfl hd_X2_size rfl rfl ⟨Nat.le_of_ble_eq_true rfl, Nat.le_of_ble_eq_true rfl⟩ rfl hl (rest := []) rfl (Nat.le_of_ble_eq_true rfl) dX1_deedCount_4 ⟨Nat.le_of_ble_eq_true rfl, Nat.le_of_ble_eq_true rfl⟩ (fun H locs hP hS => ?_)
  exact g_iret F hr hlocks hQ hK hP hS (Option.some.inj hf) rfl dX1_deedCount_7
abbrev rm_X1_lineCount : Room := { frames := 1, cells := 0, slots := 0, locals := 20 }
theorem hd_X1_lineCount : yX1_lineCount.cls = RX1 ∧ yX1_lineCount.cls ≠ "java/lang/invoke/MethodHandle" ∧ yX1_lineCount.cls ≠ "java/lang/invoke/VarHandle" ∧ (parseMethodDescriptor yX1_lineCount.desc).map (fun d => d.parameters.length) = some 0 := by decide +kernel
set_option maxRecDepth 100000 in
set_option maxHeartbeats 4000000 in
theorem c_X1_lineCount (l : Launch) (D : va_G) (cI cO : ClassId) (b : Nat) (S : St) (r : Int32) (hf : f_X1_lineCount S = some r) : Met l yX1_lineCount (Cond.code yX1_lineCount cX1_lineCount 1 (some .int) :: wsAll) rm_X1_lineCount (PX D (wC cI cO b) (tyC cI cO) S [.ref (b + 1)]) (Qi D (wC cI cO b) (tyC cI cO) (AC b) r S) 0 0 (AC b) := by
  unfold f_X1_lineCount at hf
  refine g_met RX1 (by decide +kernel) (Nat.le_of_ble_eq_true rfl) rfl ?_
  intro p e s m args below meth c ls Q F hr hlocks hK hP hl hQ
  have hx := F.1
  have hb := F.2.1
  have hS : va_S (AC b) s.heap s.heap [] := va_S.rf
  have hl : lv_has ls 1 [(0, .ref (b + 1))] := hl
  refine lv_aload_n hx hb dX1_lineCount_0 rfl (lv_at hl 0 rfl) ?_
  refine g_get F hK hP inA1 1 wC_G rfl 4 (by decide) wd_52 (v := .ref (b + 10)) rfl dX1_lineCount_1 ?_
  obtain ⟨v4, q4, hf⟩ := cl_some hf
  refine g_calli F hK hP hS [] (c_X2_size l D cI cO b (10) nK_10 S v4 q4) wd_368 wd_203 wd_204 wd_3 wd_205 (wC_N nK_10) rfl hd_X2_size rfl rfl ⟨Nat.le_of_ble_eq_true rfl, Nat.le_of_ble_eq_true rfl⟩ rfl hl (rest := []) rfl (Nat.le_of_ble_eq_true rfl) dX1_lineCount_4 ⟨Nat.le_of_ble_eq_true rfl, Nat.le_of_ble_eq_true rfl⟩ (fun H locs hP hS => ?_)
  exact g_iret F hr hlocks hQ hK hP hS (Option.some.inj hf) rfl dX1_lineCount_7
abbrev rm_X1_kindOf : Room := { frames := 1, cells := 0, slots := 0, locals := 21 }
theorem hd_X1_kindOf : yX1_kindOf.cls = RX1 ∧ yX1_kindOf.cls ≠ "java/lang/invoke/MethodHandle" ∧ yX1_kindOf.cls ≠ "java/lang/invoke/VarHandle" ∧ (parseMethodDescriptor yX1_kindOf.desc).map (fun d => d.parameters.length) = some 1 := by decide +kernel
set_option maxRecDepth 100000 in
set_option maxHeartbeats 4000000 in
theorem c_X1_kindOf (l : Launch) (D : va_G) (cI cO : ClassId) (b : Nat) (S : St) (x1 : Int32) (r : Int32) (hf : f_X1_kindOf S x1 = some r) : Met l yX1_kindOf (Cond.code yX1_kindOf cX1_kindOf 2 (some .int) :: wsAll) rm_X1_kindOf (PX D (wC cI cO b) (tyC cI cO) S [.ref (b + 1), .int x1]) (Qi D (wC cI cO b) (tyC cI cO) (AC b) r S) 0 0 (AC b) := by
  unfold f_X1_kindOf at hf
  refine g_met RX1 (by decide +kernel) (Nat.le_of_ble_eq_true rfl) rfl ?_
  intro p e s m args below meth c ls Q F hr hlocks hK hP hl hQ
  have hx := F.1
  have hb := F.2.1
  have hS : va_S (AC b) s.heap s.heap [] := va_S.rf
  have hl : lv_has ls 2 [(0, .ref (b + 1)), (1, .int x1)] := hl
  refine lv_aload_n hx hb dX1_kindOf_0 rfl (lv_at hl 0 rfl) ?_
  refine g_get F hK hP inA1 1 wC_G rfl 0 (by decide) wd_48 (v := .ref (b + 2)) rfl dX1_kindOf_1 ?_
  refine lv_iload_n hx hb dX1_kindOf_4 rfl (lv_at hl 1 rfl) ?_
  obtain ⟨v5, q5, hf⟩ := cl_some hf
  refine g_calli F hK hP hS [.int x1] (c_X2_at l D cI cO b (2) nK_2 S x1 v5 q5) wd_429 wd_232 wd_233 wd_3 wd_234 (wC_N nK_2) rfl hd_X2_at rfl rfl ⟨Nat.le_of_ble_eq_true rfl, Nat.le_of_ble_eq_true rfl⟩ rfl hl (rest := []) rfl (Nat.le_of_ble_eq_true rfl) dX1_kindOf_5 ⟨Nat.le_of_ble_eq_true rfl, Nat.le_of_ble_eq_true rfl⟩ (fun H locs hP hS => ?_)
  exact g_iret F hr hlocks hQ hK hP hS (Option.some.inj hf) rfl dX1_kindOf_8
abbrev rm_X1_stampOf : Room := { frames := 1, cells := 0, slots := 0, locals := 21 }
theorem hd_X1_stampOf : yX1_stampOf.cls = RX1 ∧ yX1_stampOf.cls ≠ "java/lang/invoke/MethodHandle" ∧ yX1_stampOf.cls ≠ "java/lang/invoke/VarHandle" ∧ (parseMethodDescriptor yX1_stampOf.desc).map (fun d => d.parameters.length) = some 1 := by decide +kernel
set_option maxRecDepth 100000 in
set_option maxHeartbeats 4000000 in
theorem c_X1_stampOf (l : Launch) (D : va_G) (cI cO : ClassId) (b : Nat) (S : St) (x1 : Int32) (r : Int32) (hf : f_X1_stampOf S x1 = some r) : Met l yX1_stampOf (Cond.code yX1_stampOf cX1_stampOf 2 (some .int) :: wsAll) rm_X1_stampOf (PX D (wC cI cO b) (tyC cI cO) S [.ref (b + 1), .int x1]) (Qi D (wC cI cO b) (tyC cI cO) (AC b) r S) 0 0 (AC b) := by
  unfold f_X1_stampOf at hf
  refine g_met RX1 (by decide +kernel) (Nat.le_of_ble_eq_true rfl) rfl ?_
  intro p e s m args below meth c ls Q F hr hlocks hK hP hl hQ
  have hx := F.1
  have hb := F.2.1
  have hS : va_S (AC b) s.heap s.heap [] := va_S.rf
  have hl : lv_has ls 2 [(0, .ref (b + 1)), (1, .int x1)] := hl
  refine lv_aload_n hx hb dX1_stampOf_0 rfl (lv_at hl 0 rfl) ?_
  refine g_get F hK hP inA1 1 wC_G rfl 1 (by decide) wd_49 (v := .ref (b + 4)) rfl dX1_stampOf_1 ?_
  refine lv_iload_n hx hb dX1_stampOf_4 rfl (lv_at hl 1 rfl) ?_
  obtain ⟨v5, q5, hf⟩ := cl_some hf
  refine g_calli F hK hP hS [.int x1] (c_X2_at l D cI cO b (4) nK_4 S x1 v5 q5) wd_429 wd_232 wd_233 wd_3 wd_234 (wC_N nK_4) rfl hd_X2_at rfl rfl ⟨Nat.le_of_ble_eq_true rfl, Nat.le_of_ble_eq_true rfl⟩ rfl hl (rest := []) rfl (Nat.le_of_ble_eq_true rfl) dX1_stampOf_5 ⟨Nat.le_of_ble_eq_true rfl, Nat.le_of_ble_eq_true rfl⟩ (fun H locs hP hS => ?_)
  exact g_iret F hr hlocks hQ hK hP hS (Option.some.inj hf) rfl dX1_stampOf_8
abbrev rm_X1_subjectOf : Room := { frames := 1, cells := 0, slots := 0, locals := 21 }
theorem hd_X1_subjectOf : yX1_subjectOf.cls = RX1 ∧ yX1_subjectOf.cls ≠ "java/lang/invoke/MethodHandle" ∧ yX1_subjectOf.cls ≠ "java/lang/invoke/VarHandle" ∧ (parseMethodDescriptor yX1_subjectOf.desc).map (fun d => d.parameters.length) = some 1 := by decide +kernel
set_option maxRecDepth 100000 in
set_option maxHeartbeats 4000000 in
theorem c_X1_subjectOf (l : Launch) (D : va_G) (cI cO : ClassId) (b : Nat) (S : St) (x1 : Int32) (r : Int32) (hf : f_X1_subjectOf S x1 = some r) : Met l yX1_subjectOf (Cond.code yX1_subjectOf cX1_subjectOf 2 (some .int) :: wsAll) rm_X1_subjectOf (PX D (wC cI cO b) (tyC cI cO) S [.ref (b + 1), .int x1]) (Qi D (wC cI cO b) (tyC cI cO) (AC b) r S) 0 0 (AC b) := by
  unfold f_X1_subjectOf at hf
  refine g_met RX1 (by decide +kernel) (Nat.le_of_ble_eq_true rfl) rfl ?_
  intro p e s m args below meth c ls Q F hr hlocks hK hP hl hQ
  have hx := F.1
  have hb := F.2.1
  have hS : va_S (AC b) s.heap s.heap [] := va_S.rf
  have hl : lv_has ls 2 [(0, .ref (b + 1)), (1, .int x1)] := hl
  refine lv_aload_n hx hb dX1_subjectOf_0 rfl (lv_at hl 0 rfl) ?_
  refine g_get F hK hP inA1 1 wC_G rfl 2 (by decide) wd_50 (v := .ref (b + 6)) rfl dX1_subjectOf_1 ?_
  refine lv_iload_n hx hb dX1_subjectOf_4 rfl (lv_at hl 1 rfl) ?_
  obtain ⟨v5, q5, hf⟩ := cl_some hf
  refine g_calli F hK hP hS [.int x1] (c_X2_at l D cI cO b (6) nK_6 S x1 v5 q5) wd_429 wd_232 wd_233 wd_3 wd_234 (wC_N nK_6) rfl hd_X2_at rfl rfl ⟨Nat.le_of_ble_eq_true rfl, Nat.le_of_ble_eq_true rfl⟩ rfl hl (rest := []) rfl (Nat.le_of_ble_eq_true rfl) dX1_subjectOf_5 ⟨Nat.le_of_ble_eq_true rfl, Nat.le_of_ble_eq_true rfl⟩ (fun H locs hP hS => ?_)
  exact g_iret F hr hlocks hQ hK hP hS (Option.some.inj hf) rfl dX1_subjectOf_8
abbrev rm_X1_targetOf : Room := { frames := 1, cells := 0, slots := 0, locals := 21 }
theorem hd_X1_targetOf : yX1_targetOf.cls = RX1 ∧ yX1_targetOf.cls ≠ "java/lang/invoke/MethodHandle" ∧ yX1_targetOf.cls ≠ "java/lang/invoke/VarHandle" ∧ (parseMethodDescriptor yX1_targetOf.desc).map (fun d => d.parameters.length) = some 1 := by decide +kernel
set_option maxRecDepth 100000 in
set_option maxHeartbeats 4000000 in
theorem c_X1_targetOf (l : Launch) (D : va_G) (cI cO : ClassId) (b : Nat) (S : St) (x1 : Int32) (r : Int32) (hf : f_X1_targetOf S x1 = some r) : Met l yX1_targetOf (Cond.code yX1_targetOf cX1_targetOf 2 (some .int) :: wsAll) rm_X1_targetOf (PX D (wC cI cO b) (tyC cI cO) S [.ref (b + 1), .int x1]) (Qi D (wC cI cO b) (tyC cI cO) (AC b) r S) 0 0 (AC b) := by
  unfold f_X1_targetOf at hf
  refine g_met RX1 (by decide +kernel) (Nat.le_of_ble_eq_true rfl) rfl ?_
  intro p e s m args below meth c ls Q F hr hlocks hK hP hl hQ
  have hx := F.1
  have hb := F.2.1
  have hS : va_S (AC b) s.heap s.heap [] := va_S.rf
  have hl : lv_has ls 2 [(0, .ref (b + 1)), (1, .int x1)] := hl
  refine lv_aload_n hx hb dX1_targetOf_0 rfl (lv_at hl 0 rfl) ?_
  refine g_get F hK hP inA1 1 wC_G rfl 3 (by decide) wd_51 (v := .ref (b + 8)) rfl dX1_targetOf_1 ?_
  refine lv_iload_n hx hb dX1_targetOf_4 rfl (lv_at hl 1 rfl) ?_
  obtain ⟨v5, q5, hf⟩ := cl_some hf
  refine g_calli F hK hP hS [.int x1] (c_X2_at l D cI cO b (8) nK_8 S x1 v5 q5) wd_429 wd_232 wd_233 wd_3 wd_234 (wC_N nK_8) rfl hd_X2_at rfl rfl ⟨Nat.le_of_ble_eq_true rfl, Nat.le_of_ble_eq_true rfl⟩ rfl hl (rest := []) rfl (Nat.le_of_ble_eq_true rfl) dX1_targetOf_5 ⟨Nat.le_of_ble_eq_true rfl, Nat.le_of_ble_eq_true rfl⟩ (fun H locs hP hS => ?_)
  exact g_iret F hr hlocks hQ hK hP hS (Option.some.inj hf) rfl dX1_targetOf_8
abbrev rm_X1_stampOfLine : Room := { frames := 1, cells := 0, slots := 0, locals := 21 }
theorem hd_X1_stampOfLine : yX1_stampOfLine.cls = RX1 ∧ yX1_stampOfLine.cls ≠ "java/lang/invoke/MethodHandle" ∧ yX1_stampOfLine.cls ≠ "java/lang/invoke/VarHandle" ∧ (parseMethodDescriptor yX1_stampOfLine.desc).map (fun d => d.parameters.length) = some 1 := by decide +kernel
set_option maxRecDepth 100000 in
set_option maxHeartbeats 4000000 in
theorem c_X1_stampOfLine (l : Launch) (D : va_G) (cI cO : ClassId) (b : Nat) (S : St) (x1 : Int32) (r : Int32) (hf : f_X1_stampOfLine S x1 = some r) : Met l yX1_stampOfLine (Cond.code yX1_stampOfLine cX1_stampOfLine 2 (some .int) :: wsAll) rm_X1_stampOfLine (PX D (wC cI cO b) (tyC cI cO) S [.ref (b + 1), .int x1]) (Qi D (wC cI cO b) (tyC cI cO) (AC b) r S) 0 0 (AC b) := by
  unfold f_X1_stampOfLine at hf
  refine g_met RX1 (by decide +kernel) (Nat.le_of_ble_eq_true rfl) rfl ?_
  intro p e s m args below meth c ls Q F hr hlocks hK hP hl hQ
  have hx := F.1
  have hb := F.2.1
  have hS : va_S (AC b) s.heap s.heap [] := va_S.rf
  have hl : lv_has ls 2 [(0, .ref (b + 1)), (1, .int x1)] := hl
  refine lv_aload_n hx hb dX1_stampOfLine_0 rfl (lv_at hl 0 rfl) ?_
  refine g_get F hK hP inA1 1 wC_G rfl 4 (by decide) wd_52 (v := .ref (b + 10)) rfl dX1_stampOfLine_1 ?_
  refine lv_iload_n hx hb dX1_stampOfLine_4 rfl (lv_at hl 1 rfl) ?_
  obtain ⟨v5, q5, hf⟩ := cl_some hf
  refine g_calli F hK hP hS [.int x1] (c_X2_at l D cI cO b (10) nK_10 S x1 v5 q5) wd_429 wd_232 wd_233 wd_3 wd_234 (wC_N nK_10) rfl hd_X2_at rfl rfl ⟨Nat.le_of_ble_eq_true rfl, Nat.le_of_ble_eq_true rfl⟩ rfl hl (rest := []) rfl (Nat.le_of_ble_eq_true rfl) dX1_stampOfLine_5 ⟨Nat.le_of_ble_eq_true rfl, Nat.le_of_ble_eq_true rfl⟩ (fun H locs hP hS => ?_)
  exact g_iret F hr hlocks hQ hK hP hS (Option.some.inj hf) rfl dX1_stampOfLine_8
abbrev rm_X1_behindOf : Room := { frames := 1, cells := 0, slots := 0, locals := 21 }
theorem hd_X1_behindOf : yX1_behindOf.cls = RX1 ∧ yX1_behindOf.cls ≠ "java/lang/invoke/MethodHandle" ∧ yX1_behindOf.cls ≠ "java/lang/invoke/VarHandle" ∧ (parseMethodDescriptor yX1_behindOf.desc).map (fun d => d.parameters.length) = some 1 := by decide +kernel
set_option maxRecDepth 100000 in
set_option maxHeartbeats 4000000 in
theorem c_X1_behindOf (l : Launch) (D : va_G) (cI cO : ClassId) (b : Nat) (S : St) (x1 : Int32) (r : Int32) (hf : f_X1_behindOf S x1 = some r) : Met l yX1_behindOf (Cond.code yX1_behindOf cX1_behindOf 2 (some .int) :: wsAll) rm_X1_behindOf (PX D (wC cI cO b) (tyC cI cO) S [.ref (b + 1), .int x1]) (Qi D (wC cI cO b) (tyC cI cO) (AC b) r S) 0 0 (AC b) := by
  unfold f_X1_behindOf at hf
  refine g_met RX1 (by decide +kernel) (Nat.le_of_ble_eq_true rfl) rfl ?_
  intro p e s m args below meth c ls Q F hr hlocks hK hP hl hQ
  have hx := F.1
  have hb := F.2.1
  have hS : va_S (AC b) s.heap s.heap [] := va_S.rf
  have hl : lv_has ls 2 [(0, .ref (b + 1)), (1, .int x1)] := hl
  refine lv_aload_n hx hb dX1_behindOf_0 rfl (lv_at hl 0 rfl) ?_
  refine g_get F hK hP inA1 1 wC_G rfl 5 (by decide) wd_53 (v := .ref (b + 12)) rfl dX1_behindOf_1 ?_
  refine lv_iload_n hx hb dX1_behindOf_4 rfl (lv_at hl 1 rfl) ?_
  obtain ⟨v5, q5, hf⟩ := cl_some hf
  refine g_calli F hK hP hS [.int x1] (c_X2_at l D cI cO b (12) nK_12 S x1 v5 q5) wd_429 wd_232 wd_233 wd_3 wd_234 (wC_N nK_12) rfl hd_X2_at rfl rfl ⟨Nat.le_of_ble_eq_true rfl, Nat.le_of_ble_eq_true rfl⟩ rfl hl (rest := []) rfl (Nat.le_of_ble_eq_true rfl) dX1_behindOf_5 ⟨Nat.le_of_ble_eq_true rfl, Nat.le_of_ble_eq_true rfl⟩ (fun H locs hP hS => ?_)
  exact g_iret F hr hlocks hQ hK hP hS (Option.some.inj hf) rfl dX1_behindOf_8
abbrev rm_X1_valueOf : Room := { frames := 1, cells := 0, slots := 0, locals := 21 }
theorem hd_X1_valueOf : yX1_valueOf.cls = RX1 ∧ yX1_valueOf.cls ≠ "java/lang/invoke/MethodHandle" ∧ yX1_valueOf.cls ≠ "java/lang/invoke/VarHandle" ∧ (parseMethodDescriptor yX1_valueOf.desc).map (fun d => d.parameters.length) = some 1 := by decide +kernel
set_option maxRecDepth 100000 in
set_option maxHeartbeats 4000000 in
theorem c_X1_valueOf (l : Launch) (D : va_G) (cI cO : ClassId) (b : Nat) (S : St) (x1 : Int32) (r : Int32) (hf : f_X1_valueOf S x1 = some r) : Met l yX1_valueOf (Cond.code yX1_valueOf cX1_valueOf 2 (some .int) :: wsAll) rm_X1_valueOf (PX D (wC cI cO b) (tyC cI cO) S [.ref (b + 1), .int x1]) (Qi D (wC cI cO b) (tyC cI cO) (AC b) r S) 0 0 (AC b) := by
  unfold f_X1_valueOf at hf
  refine g_met RX1 (by decide +kernel) (Nat.le_of_ble_eq_true rfl) rfl ?_
  intro p e s m args below meth c ls Q F hr hlocks hK hP hl hQ
  have hx := F.1
  have hb := F.2.1
  have hS : va_S (AC b) s.heap s.heap [] := va_S.rf
  have hl : lv_has ls 2 [(0, .ref (b + 1)), (1, .int x1)] := hl
  refine lv_aload_n hx hb dX1_valueOf_0 rfl (lv_at hl 0 rfl) ?_
  refine g_get F hK hP inA1 1 wC_G rfl 6 (by decide) wd_54 (v := .ref (b + 14)) rfl dX1_valueOf_1 ?_
  refine lv_iload_n hx hb dX1_valueOf_4 rfl (lv_at hl 1 rfl) ?_
  obtain ⟨v5, q5, hf⟩ := cl_some hf
  refine g_calli F hK hP hS [.int x1] (c_X2_at l D cI cO b (14) nK_14 S x1 v5 q5) wd_429 wd_232 wd_233 wd_3 wd_234 (wC_N nK_14) rfl hd_X2_at rfl rfl ⟨Nat.le_of_ble_eq_true rfl, Nat.le_of_ble_eq_true rfl⟩ rfl hl (rest := []) rfl (Nat.le_of_ble_eq_true rfl) dX1_valueOf_5 ⟨Nat.le_of_ble_eq_true rfl, Nat.le_of_ble_eq_true rfl⟩ (fun H locs hP hS => ?_)
  exact g_iret F hr hlocks hQ hK hP hS (Option.some.inj hf) rfl dX1_valueOf_8
abbrev rm_X3_hasPageToPrint : Room := { frames := 2, cells := 0, slots := 0, locals := 40 }
theorem hd_X3_hasPageToPrint : yX3_hasPageToPrint.cls = RX3 ∧ yX3_hasPageToPrint.cls ≠ "java/lang/invoke/MethodHandle" ∧ yX3_hasPageToPrint.cls ≠ "java/lang/invoke/VarHandle" ∧ (parseMethodDescriptor yX3_hasPageToPrint.desc).map (fun d => d.parameters.length) = some 0 := by decide +kernel
set_option maxRecDepth 100000 in
set_option maxHeartbeats 4000000 in
theorem c_X3_hasPageToPrint (l : Launch) (D : va_G) (cI cO : ClassId) (b : Nat) (S : St) (r : Int32) (hf : f_X3_hasPageToPrint S = some r) : Met l yX3_hasPageToPrint (Cond.code yX3_hasPageToPrint cX3_hasPageToPrint 1 (some .boolean) :: wsAll) rm_X3_hasPageToPrint (PX D (wC cI cO b) (tyC cI cO) S [.ref (b + 129)]) (Qi D (wC cI cO b) (tyC cI cO) (AC b) r S) 0 0 (AC b) := by
  unfold f_X3_hasPageToPrint at hf
  refine g_met RX3 (by decide +kernel) (Nat.le_of_ble_eq_true rfl) rfl ?_
  intro p e s m args below meth c ls Q F hr hlocks hK hP hl hQ
  have hx := F.1
  have hb := F.2.1
  have hS : va_S (AC b) s.heap s.heap [] := va_S.rf
  have hl : lv_has ls 1 [(0, .ref (b + 129))] := hl
  refine lv_aload_n hx hb dX3_hasPageToPrint_0 rfl (lv_at hl 0 rfl) ?_
  refine g_get F hK hP inA3 129 wC_P rfl 1 (by decide) wd_172 (v := .ref (b + 130)) rfl dX3_hasPageToPrint_1 ?_
  obtain ⟨v4, q4, hf⟩ := cl_some hf
  refine g_calli F hK hP hS [] (c_X2_size l D cI cO b (130) nK_130 S v4 q4) wd_202 wd_203 wd_204 wd_3 wd_205 (wC_N nK_130) rfl hd_X2_size rfl rfl ⟨Nat.le_of_ble_eq_true rfl, Nat.le_of_ble_eq_true rfl⟩ rfl hl (rest := []) rfl (Nat.le_of_ble_eq_true rfl) dX3_hasPageToPrint_4 ⟨Nat.le_of_ble_eq_true rfl, Nat.le_of_ble_eq_true rfl⟩ (fun H locs hP hS => ?_)
  refine lv_aload_n hx hb dX3_hasPageToPrint_7 rfl (lv_at hl 0 rfl) ?_
  refine g_get F hK hP inA3 129 wC_P rfl 0 (by decide) wd_171 (v := .ref (b + (oL 0))) rfl dX3_hasPageToPrint_8 ?_
  obtain ⟨v11, q11, hf⟩ := cl_some hf
  refine g_calli F hK hP hS [] (c_X0_pageCount l D cI cO b 0 lt04 S v11 q11) wd_612 wd_613 wd_614 wd_7 wd_615 (wC_L lt04) rfl hd_X0_pageCount rfl rfl ⟨Nat.le_of_ble_eq_true rfl, Nat.le_of_ble_eq_true rfl⟩ rfl hl (rest := [.int v4]) rfl (Nat.le_of_ble_eq_true rfl) dX3_hasPageToPrint_11 ⟨Nat.le_of_ble_eq_true rfl, Nat.le_of_ble_eq_true rfl⟩ (fun H locs hP hS => ?_)
  refine lv_icmp_ge (tgt := 21) hx hb dX3_hasPageToPrint_14 (by decide) (fun q => ?_) (fun q => ?_)
  · replace hf := ite_t q hf
    refine lv_iconst (v := 0) hx hb dX3_hasPageToPrint_21 (by decide) ?_
    exact g_zret F hr hlocks hQ hK hP hS rfl (Option.some.inj hf) rfl dX3_hasPageToPrint_22
  · replace hf := ite_f q hf
    refine lv_iconst (v := 1) hx hb dX3_hasPageToPrint_17 (by decide) ?_
    refine lv_goto (tgt := 22) hx hb dX3_hasPageToPrint_18 (by decide) ?_
    exact g_zret F hr hlocks hQ hK hP hS rfl (Option.some.inj hf) rfl dX3_hasPageToPrint_22
abbrev rm_X3_pageCount : Room := { frames := 1, cells := 0, slots := 0, locals := 20 }
theorem hd_X3_pageCount : yX3_pageCount.cls = RX3 ∧ yX3_pageCount.cls ≠ "java/lang/invoke/MethodHandle" ∧ yX3_pageCount.cls ≠ "java/lang/invoke/VarHandle" ∧ (parseMethodDescriptor yX3_pageCount.desc).map (fun d => d.parameters.length) = some 0 := by decide +kernel
set_option maxRecDepth 100000 in
set_option maxHeartbeats 4000000 in
theorem c_X3_pageCount (l : Launch) (D : va_G) (cI cO : ClassId) (b : Nat) (S : St) (r : Int32) (hf : f_X3_pageCount S = some r) : Met l yX3_pageCount (Cond.code yX3_pageCount cX3_pageCount 1 (some .int) :: wsAll) rm_X3_pageCount (PX D (wC cI cO b) (tyC cI cO) S [.ref (b + 129)]) (Qi D (wC cI cO b) (tyC cI cO) (AC b) r S) 0 0 (AC b) := by
  unfold f_X3_pageCount at hf
  refine g_met RX3 (by decide +kernel) (Nat.le_of_ble_eq_true rfl) rfl ?_
  intro p e s m args below meth c ls Q F hr hlocks hK hP hl hQ
  have hx := F.1
  have hb := F.2.1
  have hS : va_S (AC b) s.heap s.heap [] := va_S.rf
  have hl : lv_has ls 1 [(0, .ref (b + 129))] := hl
  refine lv_aload_n hx hb dX3_pageCount_0 rfl (lv_at hl 0 rfl) ?_
  refine g_get F hK hP inA3 129 wC_P rfl 1 (by decide) wd_172 (v := .ref (b + 130)) rfl dX3_pageCount_1 ?_
  obtain ⟨v4, q4, hf⟩ := cl_some hf
  refine g_calli F hK hP hS [] (c_X2_size l D cI cO b (130) nK_130 S v4 q4) wd_202 wd_203 wd_204 wd_3 wd_205 (wC_N nK_130) rfl hd_X2_size rfl rfl ⟨Nat.le_of_ble_eq_true rfl, Nat.le_of_ble_eq_true rfl⟩ rfl hl (rest := []) rfl (Nat.le_of_ble_eq_true rfl) dX3_pageCount_4 ⟨Nat.le_of_ble_eq_true rfl, Nat.le_of_ble_eq_true rfl⟩ (fun H locs hP hS => ?_)
  exact g_iret F hr hlocks hQ hK hP hS (Option.some.inj hf) rfl dX3_pageCount_7
abbrev rm_X3_sheetCount : Room := { frames := 1, cells := 0, slots := 0, locals := 20 }
theorem hd_X3_sheetCount : yX3_sheetCount.cls = RX3 ∧ yX3_sheetCount.cls ≠ "java/lang/invoke/MethodHandle" ∧ yX3_sheetCount.cls ≠ "java/lang/invoke/VarHandle" ∧ (parseMethodDescriptor yX3_sheetCount.desc).map (fun d => d.parameters.length) = some 0 := by decide +kernel
set_option maxRecDepth 100000 in
set_option maxHeartbeats 4000000 in
theorem c_X3_sheetCount (l : Launch) (D : va_G) (cI cO : ClassId) (b : Nat) (S : St) (r : Int32) (hf : f_X3_sheetCount S = some r) : Met l yX3_sheetCount (Cond.code yX3_sheetCount cX3_sheetCount 1 (some .int) :: wsAll) rm_X3_sheetCount (PX D (wC cI cO b) (tyC cI cO) S [.ref (b + 129)]) (Qi D (wC cI cO b) (tyC cI cO) (AC b) r S) 0 0 (AC b) := by
  unfold f_X3_sheetCount at hf
  refine g_met RX3 (by decide +kernel) (Nat.le_of_ble_eq_true rfl) rfl ?_
  intro p e s m args below meth c ls Q F hr hlocks hK hP hl hQ
  have hx := F.1
  have hb := F.2.1
  have hS : va_S (AC b) s.heap s.heap [] := va_S.rf
  have hl : lv_has ls 1 [(0, .ref (b + 129))] := hl
  refine lv_aload_n hx hb dX3_sheetCount_0 rfl (lv_at hl 0 rfl) ?_
  refine g_get F hK hP inA3 129 wC_P rfl 1 (by decide) wd_172 (v := .ref (b + 130)) rfl dX3_sheetCount_1 ?_
  obtain ⟨v4, q4, hf⟩ := cl_some hf
  refine g_calli F hK hP hS [] (c_X2_size l D cI cO b (130) nK_130 S v4 q4) wd_202 wd_203 wd_204 wd_3 wd_205 (wC_N nK_130) rfl hd_X2_size rfl rfl ⟨Nat.le_of_ble_eq_true rfl, Nat.le_of_ble_eq_true rfl⟩ rfl hl (rest := []) rfl (Nat.le_of_ble_eq_true rfl) dX3_sheetCount_4 ⟨Nat.le_of_ble_eq_true rfl, Nat.le_of_ble_eq_true rfl⟩ (fun H locs hP hS => ?_)
  refine lv_iconst (v := 2) hx hb dX3_sheetCount_7 (by decide) ?_
  obtain ⟨hn, hf⟩ := nz_some hf
  refine lv_idiv hx hb dX3_sheetCount_8 hn ?_
  exact g_iret F hr hlocks hQ hK hP hS (Option.some.inj hf) rfl dX3_sheetCount_9
abbrev rm_X3_printPage : Room := { frames := 3, cells := 0, slots := 0, locals := 66 }
theorem hd_X3_printPage : yX3_printPage.cls = RX3 ∧ yX3_printPage.cls ≠ "java/lang/invoke/MethodHandle" ∧ yX3_printPage.cls ≠ "java/lang/invoke/VarHandle" ∧ (parseMethodDescriptor yX3_printPage.desc).map (fun d => d.parameters.length) = some 0 := by decide +kernel
set_option maxRecDepth 100000 in
set_option maxHeartbeats 4000000 in
theorem c_X3_printPage (l : Launch) (D : va_G) (cI cO : ClassId) (b : Nat) (S : St) (r : Int32) (S1 : St) (hf : f_X3_printPage S = some (r, S1)) : Met l yX3_printPage (Cond.code yX3_printPage cX3_printPage 5 (some .int) :: wsAll) rm_X3_printPage (PX D (wC cI cO b) (tyC cI cO) S [.ref (b + 129)]) (Qi D (wC cI cO b) (tyC cI cO) (AC b) r S1) 0 0 (AC b) := by
  unfold f_X3_printPage at hf
  refine g_met RX3 (by decide +kernel) (Nat.le_of_ble_eq_true rfl) rfl ?_
  intro p e s m args below meth c ls Q F hr hlocks hK hP hl hQ
  have hx := F.1
  have hb := F.2.1
  have hS : va_S (AC b) s.heap s.heap [] := va_S.rf
  have hl : lv_has ls 5 [(0, .ref (b + 129))] := hl
  refine lv_aload_n hx hb dX3_printPage_0 rfl (lv_at hl 0 rfl) ?_
  refine g_get F hK hP inA3 129 wC_P rfl 1 (by decide) wd_172 (v := .ref (b + 130)) rfl dX3_printPage_1 ?_
  obtain ⟨v4, q4, hf⟩ := cl_some hf
  refine g_calli F hK hP hS [] (c_X2_size l D cI cO b (130) nK_130 S v4 q4) wd_202 wd_203 wd_204 wd_3 wd_205 (wC_N nK_130) rfl hd_X2_size rfl rfl ⟨Nat.le_of_ble_eq_true rfl, Nat.le_of_ble_eq_true rfl⟩ rfl hl (rest := []) rfl (Nat.le_of_ble_eq_true rfl) dX3_printPage_4 ⟨Nat.le_of_ble_eq_true rfl, Nat.le_of_ble_eq_true rfl⟩ (fun H locs hP hS => ?_)
  refine lv_istore_n (lv' := [(1, .int v4), (0, .ref (b + 129))]) hx hb dX3_printPage_7 rfl hl (by decide) rfl (fun ls hl => ?_)
  refine lv_aload_n hx hb dX3_printPage_8 rfl (lv_at hl 1 rfl) ?_
  refine g_get F hK hP inA3 129 wC_P rfl 0 (by decide) wd_171 (v := .ref (b + (oL 0))) rfl dX3_printPage_9 ?_
  refine lv_iload_n hx hb dX3_printPage_12 rfl (lv_at hl 0 rfl) ?_
  obtain ⟨v13, q13, hf⟩ := cl_some hf
  refine g_calli F hK hP hS [.int v4] (c_X0_startOf l D cI cO b 0 lt04 S v4 v13 q13) wd_226 wd_227 wd_228 wd_7 wd_229 (wC_L lt04) rfl hd_X0_startOf rfl rfl ⟨Nat.le_of_ble_eq_true rfl, Nat.le_of_ble_eq_true rfl⟩ rfl hl (rest := []) rfl (Nat.le_of_ble_eq_true rfl) dX3_printPage_13 ⟨Nat.le_of_ble_eq_true rfl, Nat.le_of_ble_eq_true rfl⟩ (fun H locs hP hS => ?_)
  refine lv_istore_n (lv' := [(2, .int v13), (1, .int v4), (0, .ref (b + 129))]) hx hb dX3_printPage_16 rfl hl (by decide) rfl (fun ls hl => ?_)
  refine lv_aload_n hx hb dX3_printPage_17 rfl (lv_at hl 2 rfl) ?_
  refine g_get F hK hP inA3 129 wC_P rfl 0 (by decide) wd_171 (v := .ref (b + (oL 0))) rfl dX3_printPage_18 ?_
  refine lv_iload_n hx hb dX3_printPage_21 rfl (lv_at hl 1 rfl) ?_
  refine lv_iconst (v := 1) hx hb dX3_printPage_22 (by decide) ?_
  refine lv_iadd hx hb dX3_printPage_23 ?_
  obtain ⟨v24, q24, hf⟩ := cl_some hf
  refine g_calli F hK hP hS [.int (v4 + (1 : Int32))] (c_X0_startOf l D cI cO b 0 lt04 S (v4 + (1 : Int32)) v24 q24) wd_226 wd_227 wd_228 wd_7 wd_229 (wC_L lt04) rfl hd_X0_startOf rfl rfl ⟨Nat.le_of_ble_eq_true rfl, Nat.le_of_ble_eq_true rfl⟩ rfl hl (rest := []) rfl (Nat.le_of_ble_eq_true rfl) dX3_printPage_24 ⟨Nat.le_of_ble_eq_true rfl, Nat.le_of_ble_eq_true rfl⟩ (fun H locs hP hS => ?_)
  refine lv_iload_n hx hb dX3_printPage_27 rfl (lv_at hl 0 rfl) ?_
  refine lv_isub hx hb dX3_printPage_28 ?_
  obtain ⟨x3_29, ex3_29, hf⟩ := lt_some hf
  rw [← ex3_29]
  refine lv_istore_n (lv' := [(3, .int x3_29), (2, .int v13), (1, .int v4), (0, .ref (b + 129))]) hx hb dX3_printPage_29 rfl hl (by decide) rfl (fun ls hl => ?_)
  refine lv_iconst (v := 0) hx hb dX3_printPage_30 (by decide) ?_
  refine lv_istore (lv' := [(4, .int (0 : Int32)), (3, .int x3_29), (2, .int v13), (1, .int v4), (0, .ref (b + 129))]) hx hb dX3_printPage_31 hl (by decide) rfl (fun ls hl => ?_)
  refine Lp2_ind (P := fun (x4_33 : Int32) (S_33 : St) => ∀ (H : Heap) (locs : List Loc) (ls : Array Slot), va_P D vwCl ((wC cI cO b) S_33) H → va_S (AC b) s.heap H locs → lv_has ls 5 [(0, .ref (b + 129)), (1, .int v4), (2, .int v13), (3, .int x3_29), (4, .int x4_33)] → W p l e rm_X3_printPage s m args below meth c H locs 0 0 Q (F0 m 33 ls [])) ?_ _ _ _ hf _ _ _ hP hS (lv_sub hl [4, 3, 2, 1, 0] rfl)
  clear hf hP hS hl
  intro nx33 x4_33 S_33 ih33 hf H locs ls hP hS hl
  refine lv_iload hx hb dX3_printPage_33 (lv_at hl 4 rfl) ?_
  refine lv_iload_n hx hb dX3_printPage_35 rfl (lv_at hl 3 rfl) ?_
  refine lv_icmp_ge (tgt := 95) hx hb dX3_printPage_36 (by decide) (fun q => ?_) (fun q => ?_)
  · replace hf := ite_t q hf
    refine lv_aload_n hx hb dX3_printPage_95 rfl (lv_at hl 0 rfl) ?_
    refine g_get F hK hP inA3 129 wC_P rfl 1 (by decide) wd_172 (v := .ref (b + 130)) rfl dX3_printPage_96 ?_
    refine lv_iload_n hx hb dX3_printPage_99 rfl (lv_at hl 3 rfl) ?_
    obtain ⟨S_100, q100, hf⟩ := cl_some hf
    refine g_callv F hK hP hS [.int x3_29] (c_X2_add l D cI cO b (130) nK_130 S_33 x3_29 S_100 q100) wd_626 wd_394 wd_395 wd_3 wd_396 (wC_N nK_130) rfl hd_X2_add rfl rfl ⟨Nat.le_of_ble_eq_true rfl, Nat.le_of_ble_eq_true rfl⟩ rfl hl (rest := []) rfl (Nat.le_of_ble_eq_true rfl) dX3_printPage_100 ⟨Nat.le_of_ble_eq_true rfl, Nat.le_of_ble_eq_true rfl⟩ (fun H locs hP hS => ?_)
    refine lv_iload_n hx hb dX3_printPage_103 rfl (lv_at hl 3 rfl) ?_
    exact g_iret F hr hlocks hQ hK hP hS (Prod.mk.inj (Option.some.inj hf)).1 (Prod.mk.inj (Option.some.inj hf)).2 dX3_printPage_104
  · replace hf := ite_f q hf
    refine lv_aload_n hx hb dX3_printPage_39 rfl (lv_at hl 0 rfl) ?_
    refine g_get F hK hP inA3 129 wC_P rfl 2 (by decide) wd_173 (v := .ref (b + 132)) rfl dX3_printPage_40 ?_
    refine lv_iload_n hx hb dX3_printPage_43 rfl (lv_at hl 1 rfl) ?_
    refine lv_bipush (v := 6) hx hb dX3_printPage_44 (by decide) ?_
    refine lv_imul hx hb dX3_printPage_46 ?_
    refine lv_iload hx hb dX3_printPage_47 (lv_at hl 4 rfl) ?_
    refine lv_iadd hx hb dX3_printPage_49 ?_
    refine lv_aload_n hx hb dX3_printPage_50 rfl (lv_at hl 0 rfl) ?_
    refine g_get F hK hP inA3 129 wC_P rfl 0 (by decide) wd_171 (v := .ref (b + (oL 0))) rfl dX3_printPage_51 ?_
    refine lv_iload_n hx hb dX3_printPage_54 rfl (lv_at hl 2 rfl) ?_
    refine lv_iload hx hb dX3_printPage_55 (lv_at hl 4 rfl) ?_
    refine lv_iadd hx hb dX3_printPage_57 ?_
    obtain ⟨v58, q58, hf⟩ := cl_some hf
    refine g_calli F hK hP hS [.int (v13 + x4_33)] (c_X0_line l D cI cO b 0 lt04 S_33 (v13 + x4_33) v58 q58) wd_235 wd_236 wd_237 wd_7 wd_238 (wC_L lt04) rfl hd_X0_line rfl rfl ⟨Nat.le_of_ble_eq_true rfl, Nat.le_of_ble_eq_true rfl⟩ rfl hl (rest := [.int ((v4 * (6 : Int32)) + x4_33), .ref (b + 132)]) rfl (Nat.le_of_ble_eq_true rfl) dX3_printPage_58 ⟨Nat.le_of_ble_eq_true rfl, Nat.le_of_ble_eq_true rfl⟩ (fun H locs hP hS => ?_)
    obtain ⟨S_61, q61, hf⟩ := cl_some hf
    refine g_callv F hK hP hS [.int ((v4 * (6 : Int32)) + x4_33), .int v58] (c_X2_put l D cI cO b (132) nK_132 S_33 ((v4 * (6 : Int32)) + x4_33) v58 S_61 q61) wd_625 wd_403 wd_404 wd_3 wd_405 (wC_N nK_132) rfl hd_X2_put rfl rfl ⟨Nat.le_of_ble_eq_true rfl, Nat.le_of_ble_eq_true rfl⟩ rfl hl (rest := []) rfl (Nat.le_of_ble_eq_true rfl) dX3_printPage_61 ⟨Nat.le_of_ble_eq_true rfl, Nat.le_of_ble_eq_true rfl⟩ (fun H locs hP hS => ?_)
    refine lv_aload_n hx hb dX3_printPage_64 rfl (lv_at hl 0 rfl) ?_
    refine g_get F hK hP inA3 129 wC_P rfl 3 (by decide) wd_174 (v := .ref (b + 134)) rfl dX3_printPage_65 ?_
    refine lv_iload_n hx hb dX3_printPage_68 rfl (lv_at hl 1 rfl) ?_
    refine lv_bipush (v := 6) hx hb dX3_printPage_69 (by decide) ?_
    refine lv_imul hx hb dX3_printPage_71 ?_
    refine lv_iload hx hb dX3_printPage_72 (lv_at hl 4 rfl) ?_
    refine lv_iadd hx hb dX3_printPage_74 ?_
    refine lv_aload_n hx hb dX3_printPage_75 rfl (lv_at hl 0 rfl) ?_
    refine g_get F hK hP inA3 129 wC_P rfl 0 (by decide) wd_171 (v := .ref (b + (oL 0))) rfl dX3_printPage_76 ?_
    refine lv_iload_n hx hb dX3_printPage_79 rfl (lv_at hl 2 rfl) ?_
    refine lv_iload hx hb dX3_printPage_80 (lv_at hl 4 rfl) ?_
    refine lv_iadd hx hb dX3_printPage_82 ?_
    obtain ⟨v83, q83, hf⟩ := cl_some hf
    refine g_calli F hK hP hS [.int (v13 + x4_33)] (c_X0_rows l D cI cO b 0 lt04 S_61 (v13 + x4_33) v83 q83) wd_239 wd_240 wd_241 wd_7 wd_242 (wC_L lt04) rfl hd_X0_rows rfl rfl ⟨Nat.le_of_ble_eq_true rfl, Nat.le_of_ble_eq_true rfl⟩ rfl hl (rest := [.int ((v4 * (6 : Int32)) + x4_33), .ref (b + 134)]) rfl (Nat.le_of_ble_eq_true rfl) dX3_printPage_83 ⟨Nat.le_of_ble_eq_true rfl, Nat.le_of_ble_eq_true rfl⟩ (fun H locs hP hS => ?_)
    obtain ⟨S_86, q86, hf⟩ := cl_some hf
    refine g_callv F hK hP hS [.int ((v4 * (6 : Int32)) + x4_33), .int v83] (c_X2_put l D cI cO b (134) nK_134 S_61 ((v4 * (6 : Int32)) + x4_33) v83 S_86 q86) wd_625 wd_403 wd_404 wd_3 wd_405 (wC_N nK_134) rfl hd_X2_put rfl rfl ⟨Nat.le_of_ble_eq_true rfl, Nat.le_of_ble_eq_true rfl⟩ rfl hl (rest := []) rfl (Nat.le_of_ble_eq_true rfl) dX3_printPage_86 ⟨Nat.le_of_ble_eq_true rfl, Nat.le_of_ble_eq_true rfl⟩ (fun H locs hP hS => ?_)
    obtain ⟨x4_89, ex4_89, hf⟩ := lt_some hf
    refine lv_iinc (v := x4_89) (lv' := [(4, .int x4_89), (0, .ref (b + 129)), (1, .int v4), (2, .int v13), (3, .int x3_29)]) hx hb dX3_printPage_89 hl (k := 4) rfl (by rw [ex4_89]; rfl) (by decide) rfl (fun ls hl => ?_)
    refine lv_goto (tgt := 33) hx hb dX3_printPage_92 (by decide) ?_
    exact ih33 _ _ hf _ _ _ hP hS (lv_sub hl [1, 2, 3, 4, 0] rfl)
abbrev rm_X3_printSheet : Room := { frames := 4, cells := 0, slots := 0, locals := 90 }
theorem hd_X3_printSheet : yX3_printSheet.cls = RX3 ∧ yX3_printSheet.cls ≠ "java/lang/invoke/MethodHandle" ∧ yX3_printSheet.cls ≠ "java/lang/invoke/VarHandle" ∧ (parseMethodDescriptor yX3_printSheet.desc).map (fun d => d.parameters.length) = some 0 := by decide +kernel
set_option maxRecDepth 100000 in
set_option maxHeartbeats 4000000 in
theorem c_X3_printSheet (l : Launch) (D : va_G) (cI cO : ClassId) (b : Nat) (S : St) (r : Int32) (S1 : St) (hf : f_X3_printSheet S = some (r, S1)) : Met l yX3_printSheet (Cond.code yX3_printSheet cX3_printSheet 3 (some .int) :: wsAll) rm_X3_printSheet (PX D (wC cI cO b) (tyC cI cO) S [.ref (b + 129)]) (Qi D (wC cI cO b) (tyC cI cO) (AC b) r S1) 0 0 (AC b) := by
  unfold f_X3_printSheet at hf
  refine g_met RX3 (by decide +kernel) (Nat.le_of_ble_eq_true rfl) rfl ?_
  intro p e s m args below meth c ls Q F hr hlocks hK hP hl hQ
  have hx := F.1
  have hb := F.2.1
  have hS : va_S (AC b) s.heap s.heap [] := va_S.rf
  have hl : lv_has ls 3 [(0, .ref (b + 129))] := hl
  refine lv_iconst (v := 0) hx hb dX3_printSheet_0 (by decide) ?_
  refine lv_istore_n (lv' := [(1, .int (0 : Int32)), (0, .ref (b + 129))]) hx hb dX3_printSheet_1 rfl hl (by decide) rfl (fun ls hl => ?_)
  refine lv_iconst (v := 0) hx hb dX3_printSheet_2 (by decide) ?_
  refine lv_istore_n (lv' := [(2, .int (0 : Int32)), (1, .int (0 : Int32)), (0, .ref (b + 129))]) hx hb dX3_printSheet_3 rfl hl (by decide) rfl (fun ls hl => ?_)
  refine Lp3_ind (P := fun (x1_4 : Int32) (x2_4 : Int32) (S_4 : St) => ∀ (H : Heap) (locs : List Loc) (ls : Array Slot), va_P D vwCl ((wC cI cO b) S_4) H → va_S (AC b) s.heap H locs → lv_has ls 3 [(0, .ref (b + 129)), (1, .int x1_4), (2, .int x2_4)] → W p l e rm_X3_printSheet s m args below meth c H locs 0 0 Q (F0 m 4 ls [])) ?_ _ _ _ _ hf _ _ _ hP hS (lv_sub hl [2, 1, 0] rfl)
  clear hf hP hS hl
  intro nx4 x1_4 x2_4 S_4 ih4 hf H locs ls hP hS hl
  refine lv_iload_n hx hb dX3_printSheet_4 rfl (lv_at hl 2 rfl) ?_
  refine lv_iconst (v := 2) hx hb dX3_printSheet_5 (by decide) ?_
  refine lv_icmp_ge (tgt := 22) hx hb dX3_printSheet_6 (by decide) (fun q => ?_) (fun q => ?_)
  · replace hf := ite_t q hf
    refine lv_iload_n hx hb dX3_printSheet_22 rfl (lv_at hl 1 rfl) ?_
    exact g_iret F hr hlocks hQ hK hP hS (Prod.mk.inj (Option.some.inj hf)).1 (Prod.mk.inj (Option.some.inj hf)).2 dX3_printSheet_23
  · replace hf := ite_f q hf
    refine lv_iload_n hx hb dX3_printSheet_9 rfl (lv_at hl 1 rfl) ?_
    refine lv_aload_n hx hb dX3_printSheet_10 rfl (lv_at hl 0 rfl) ?_
    obtain ⟨v11, S_11, q11, hf⟩ := cl2_some hf
    refine g_calli F hK hP hS [] (c_X3_printPage l D cI cO b S_4 v11 S_11 q11) wd_621 wd_623 wp_16 wd_8 wd_624 wC_P rfl hd_X3_printPage rfl rfl ⟨Nat.le_of_ble_eq_true rfl, Nat.le_of_ble_eq_true rfl⟩ rfl hl (rest := [.int x1_4]) rfl (Nat.le_of_ble_eq_true rfl) dX3_printSheet_11 ⟨Nat.le_of_ble_eq_true rfl, Nat.le_of_ble_eq_true rfl⟩ (fun H locs hP hS => ?_)
    refine lv_iadd hx hb dX3_printSheet_14 ?_
    obtain ⟨x1_15, ex1_15, hf⟩ := lt_some hf
    rw [← ex1_15]
    refine lv_istore_n (lv' := [(1, .int x1_15), (0, .ref (b + 129)), (2, .int x2_4)]) hx hb dX3_printSheet_15 rfl hl (by decide) rfl (fun ls hl => ?_)
    obtain ⟨x2_16, ex2_16, hf⟩ := lt_some hf
    refine lv_iinc (v := x2_16) (lv' := [(2, .int x2_16), (1, .int x1_15), (0, .ref (b + 129))]) hx hb dX3_printSheet_16 hl (k := 2) rfl (by rw [ex2_16]; rfl) (by decide) rfl (fun ls hl => ?_)
    refine lv_goto (tgt := 4) hx hb dX3_printSheet_19 (by decide) ?_
    exact ih4 _ _ _ hf _ _ _ hP hS (lv_sub hl [2, 1, 0] rfl)
abbrev rm_X3_isPrinted : Room := { frames := 1, cells := 0, slots := 0, locals := 21 }
theorem hd_X3_isPrinted : yX3_isPrinted.cls = RX3 ∧ yX3_isPrinted.cls ≠ "java/lang/invoke/MethodHandle" ∧ yX3_isPrinted.cls ≠ "java/lang/invoke/VarHandle" ∧ (parseMethodDescriptor yX3_isPrinted.desc).map (fun d => d.parameters.length) = some 3 := by decide +kernel
set_option maxRecDepth 100000 in
set_option maxHeartbeats 4000000 in
theorem c_X3_isPrinted (l : Launch) (D : va_G) (cI cO : ClassId) (b : Nat) (S : St) (x1 : Int32) (x2 : Int32) (x3 : Int32) (r : Int32) (hf : f_X3_isPrinted S x1 x2 x3 = some r) : Met l yX3_isPrinted (Cond.code yX3_isPrinted cX3_isPrinted 6 (some .boolean) :: wsAll) rm_X3_isPrinted (PX D (wC cI cO b) (tyC cI cO) S [.ref (b + 129), .int x1, .int x2, .int x3]) (Qi D (wC cI cO b) (tyC cI cO) (AC b) r S) 0 0 (AC b) := by
  unfold f_X3_isPrinted at hf
  refine g_met RX3 (by decide +kernel) (Nat.le_of_ble_eq_true rfl) rfl ?_
  intro p e s m args below meth c ls Q F hr hlocks hK hP hl hQ
  have hx := F.1
  have hb := F.2.1
  have hS : va_S (AC b) s.heap s.heap [] := va_S.rf
  have hl : lv_has ls 6 [(0, .ref (b + 129)), (1, .int x1), (2, .int x2), (3, .int x3)] := hl
  refine lv_iconst (v := 0) hx hb dX3_isPrinted_0 (by decide) ?_
  refine lv_istore (lv' := [(4, .int (0 : Int32)), (0, .ref (b + 129)), (1, .int x1), (2, .int x2), (3, .int x3)]) hx hb dX3_isPrinted_1 hl (by decide) rfl (fun ls hl => ?_)
  refine Lp1_ind (P := fun (x4_3 : Int32) => ∀ (H : Heap) (locs : List Loc) (ls : Array Slot), va_P D vwCl ((wC cI cO b) S) H → va_S (AC b) s.heap H locs → lv_has ls 6 [(0, .ref (b + 129)), (1, .int x1), (2, .int x2), (3, .int x3), (4, .int x4_3)] → W p l e rm_X3_isPrinted s m args below meth c H locs 0 0 Q (F0 m 3 ls [])) ?_ _ _ hf _ _ _ hP hS (lv_sub hl [1, 2, 3, 4, 0] rfl)
  clear hf hP hS hl
  intro nx3 x4_3 ih3 hf H locs ls hP hS hl
  refine lv_iload hx hb dX3_isPrinted_3 (lv_at hl 4 rfl) ?_
  refine lv_aload_n hx hb dX3_isPrinted_5 rfl (lv_at hl 0 rfl) ?_
  refine g_get F hK hP inA3 129 wC_P rfl 1 (by decide) wd_172 (v := .ref (b + 130)) rfl dX3_isPrinted_6 ?_
  refine lv_iload_n hx hb dX3_isPrinted_9 rfl (lv_at hl 1 rfl) ?_
  obtain ⟨v10, q10, hf⟩ := cl_some hf
  refine g_calli F hK hP hS [.int x1] (c_X2_at l D cI cO b (130) nK_130 S x1 v10 q10) wd_247 wd_232 wd_233 wd_3 wd_234 (wC_N nK_130) rfl hd_X2_at rfl rfl ⟨Nat.le_of_ble_eq_true rfl, Nat.le_of_ble_eq_true rfl⟩ rfl hl (rest := [.int x4_3]) rfl (Nat.le_of_ble_eq_true rfl) dX3_isPrinted_10 ⟨Nat.le_of_ble_eq_true rfl, Nat.le_of_ble_eq_true rfl⟩ (fun H locs hP hS => ?_)
  refine lv_icmp_ge (tgt := 59) hx hb dX3_isPrinted_13 (by decide) (fun q => ?_) (fun q => ?_)
  · replace hf := ite_t q hf
    refine lv_iconst (v := 0) hx hb dX3_isPrinted_59 (by decide) ?_
    exact g_zret F hr hlocks hQ hK hP hS rfl (Option.some.inj hf) rfl dX3_isPrinted_60
  · replace hf := ite_f q hf
    refine lv_iload_n hx hb dX3_isPrinted_16 rfl (lv_at hl 1 rfl) ?_
    refine lv_bipush (v := 6) hx hb dX3_isPrinted_17 (by decide) ?_
    refine lv_imul hx hb dX3_isPrinted_19 ?_
    refine lv_iload hx hb dX3_isPrinted_20 (lv_at hl 4 rfl) ?_
    refine lv_iadd hx hb dX3_isPrinted_22 ?_
    obtain ⟨x5_23, ex5_23, hf⟩ := lt_some hf
    rw [← ex5_23]
    refine lv_istore (lv' := [(5, .int x5_23), (0, .ref (b + 129)), (1, .int x1), (2, .int x2), (3, .int x3), (4, .int x4_3)]) hx hb dX3_isPrinted_23 hl (by decide) rfl (fun ls hl => ?_)
    refine lv_aload_n hx hb dX3_isPrinted_25 rfl (lv_at hl 1 rfl) ?_
    refine g_get F hK hP inA3 129 wC_P rfl 2 (by decide) wd_173 (v := .ref (b + 132)) rfl dX3_isPrinted_26 ?_
    refine lv_iload hx hb dX3_isPrinted_29 (lv_at hl 0 rfl) ?_
    obtain ⟨v31, q31, hf⟩ := cl_some hf
    refine g_calli F hK hP hS [.int x5_23] (c_X2_at l D cI cO b (132) nK_132 S x5_23 v31 q31) wd_247 wd_232 wd_233 wd_3 wd_234 (wC_N nK_132) rfl hd_X2_at rfl rfl ⟨Nat.le_of_ble_eq_true rfl, Nat.le_of_ble_eq_true rfl⟩ rfl hl (rest := []) rfl (Nat.le_of_ble_eq_true rfl) dX3_isPrinted_31 ⟨Nat.le_of_ble_eq_true rfl, Nat.le_of_ble_eq_true rfl⟩ (fun H locs hP hS => ?_)
    refine lv_iload_n hx hb dX3_isPrinted_34 rfl (lv_at hl 3 rfl) ?_
    obtain ⟨J53, eJ53, hf⟩ := jn_some hf
    have kJ53 : ∀ (H : Heap) (locs : List Loc) (ls : Array Slot), J53 = some r → va_P D vwCl ((wC cI cO b) S) H → va_S (AC b) s.heap H locs → lv_has ls 6 [(0, .ref (b + 129)), (1, .int x1), (2, .int x2), (3, .int x3), (4, .int x4_3)] → W p l e rm_X3_isPrinted s m args below meth c H locs 0 0 Q (F0 m 53 ls []) := by
      intro  H locs ls hf hP hS hl
      rw [eJ53] at hf
      obtain ⟨x4_53, ex4_53, hf⟩ := lt_some hf
      refine lv_iinc (v := x4_53) (lv' := [(4, .int x4_53), (0, .ref (b + 129)), (1, .int x1), (2, .int x2), (3, .int x3)]) hx hb dX3_isPrinted_53 hl (k := 4) rfl (by rw [ex4_53]; rfl) (by decide) rfl (fun ls hl => ?_)
      refine lv_goto (tgt := 3) hx hb dX3_isPrinted_56 (by decide) ?_
      exact ih3 _ hf _ _ _ hP hS (lv_sub hl [1, 2, 3, 4, 0] rfl)
    clear eJ53
    refine lv_icmp_ne (tgt := 53) hx hb dX3_isPrinted_35 (by decide) (fun q => ?_) (fun q => ?_)
    · replace hf := ite_t q hf
      exact kJ53 _ _ _ hf hP hS (lv_sub hl [1, 2, 3, 4, 5] rfl)
    · replace hf := ite_f (fun h => h q) hf
      refine lv_aload_n hx hb dX3_isPrinted_38 rfl (lv_at hl 1 rfl) ?_
      refine g_get F hK hP inA3 129 wC_P rfl 3 (by decide) wd_174 (v := .ref (b + 134)) rfl dX3_isPrinted_39 ?_
      refine lv_iload hx hb dX3_isPrinted_42 (lv_at hl 0 rfl) ?_
      obtain ⟨v44, q44, hf⟩ := cl_some hf
      refine g_calli F hK hP hS [.int x5_23] (c_X2_at l D cI cO b (134) nK_134 S x5_23 v44 q44) wd_247 wd_232 wd_233 wd_3 wd_234 (wC_N nK_134) rfl hd_X2_at rfl rfl ⟨Nat.le_of_ble_eq_true rfl, Nat.le_of_ble_eq_true rfl⟩ rfl hl (rest := []) rfl (Nat.le_of_ble_eq_true rfl) dX3_isPrinted_44 ⟨Nat.le_of_ble_eq_true rfl, Nat.le_of_ble_eq_true rfl⟩ (fun H locs hP hS => ?_)
      refine lv_iload_n hx hb dX3_isPrinted_47 rfl (lv_at hl 4 rfl) ?_
      refine lv_icmp_ne (tgt := 53) hx hb dX3_isPrinted_48 (by decide) (fun q => ?_) (fun q => ?_)
      · replace hf := ite_t q hf
        exact kJ53 _ _ _ hf hP hS (lv_sub hl [1, 2, 3, 4, 5] rfl)
      · replace hf := ite_f (fun h => h q) hf
        refine lv_iconst (v := 1) hx hb dX3_isPrinted_51 (by decide) ?_
        exact g_zret F hr hlocks hQ hK hP hS rfl (Option.some.inj hf) rfl dX3_isPrinted_52
abbrev rm_X3_difference : Room := { frames := 2, cells := 0, slots := 0, locals := 46 }
theorem hd_X3_difference : yX3_difference.cls = RX3 ∧ yX3_difference.cls ≠ "java/lang/invoke/MethodHandle" ∧ yX3_difference.cls ≠ "java/lang/invoke/VarHandle" ∧ (parseMethodDescriptor yX3_difference.desc).map (fun d => d.parameters.length) = some 1 := by decide +kernel
set_option maxRecDepth 100000 in
set_option maxHeartbeats 4000000 in
theorem c_X3_difference (l : Launch) (D : va_G) (cI cO : ClassId) (b : Nat) (S : St) (x1 : Int32) (r : Int32) (hf : f_X3_difference S x1 = some r) : Met l yX3_difference (Cond.code yX3_difference cX3_difference 6 (some .int) :: wsAll) rm_X3_difference (PX D (wC cI cO b) (tyC cI cO) S [.ref (b + 129), .int x1]) (Qi D (wC cI cO b) (tyC cI cO) (AC b) r S) 0 0 (AC b) := by
  unfold f_X3_difference at hf
  refine g_met RX3 (by decide +kernel) (Nat.le_of_ble_eq_true rfl) rfl ?_
  intro p e s m args below meth c ls Q F hr hlocks hK hP hl hQ
  have hx := F.1
  have hb := F.2.1
  have hS : va_S (AC b) s.heap s.heap [] := va_S.rf
  have hl : lv_has ls 6 [(0, .ref (b + 129)), (1, .int x1)] := hl
  refine lv_aload_n hx hb dX3_difference_0 rfl (lv_at hl 0 rfl) ?_
  refine g_get F hK hP inA3 129 wC_P rfl 0 (by decide) wd_171 (v := .ref (b + (oL 0))) rfl dX3_difference_1 ?_
  refine lv_iload_n hx hb dX3_difference_4 rfl (lv_at hl 1 rfl) ?_
  obtain ⟨v5, q5, hf⟩ := cl_some hf
  refine g_calli F hK hP hS [.int x1] (c_X0_startOf l D cI cO b 0 lt04 S x1 v5 q5) wd_226 wd_227 wd_228 wd_7 wd_229 (wC_L lt04) rfl hd_X0_startOf rfl rfl ⟨Nat.le_of_ble_eq_true rfl, Nat.le_of_ble_eq_true rfl⟩ rfl hl (rest := []) rfl (Nat.le_of_ble_eq_true rfl) dX3_difference_5 ⟨Nat.le_of_ble_eq_true rfl, Nat.le_of_ble_eq_true rfl⟩ (fun H locs hP hS => ?_)
  refine lv_istore_n (lv' := [(2, .int v5), (0, .ref (b + 129)), (1, .int x1)]) hx hb dX3_difference_8 rfl hl (by decide) rfl (fun ls hl => ?_)
  refine lv_aload_n hx hb dX3_difference_9 rfl (lv_at hl 1 rfl) ?_
  refine g_get F hK hP inA3 129 wC_P rfl 0 (by decide) wd_171 (v := .ref (b + (oL 0))) rfl dX3_difference_10 ?_
  refine lv_iload_n hx hb dX3_difference_13 rfl (lv_at hl 2 rfl) ?_
  refine lv_iconst (v := 1) hx hb dX3_difference_14 (by decide) ?_
  refine lv_iadd hx hb dX3_difference_15 ?_
  obtain ⟨v16, q16, hf⟩ := cl_some hf
  refine g_calli F hK hP hS [.int (x1 + (1 : Int32))] (c_X0_startOf l D cI cO b 0 lt04 S (x1 + (1 : Int32)) v16 q16) wd_226 wd_227 wd_228 wd_7 wd_229 (wC_L lt04) rfl hd_X0_startOf rfl rfl ⟨Nat.le_of_ble_eq_true rfl, Nat.le_of_ble_eq_true rfl⟩ rfl hl (rest := []) rfl (Nat.le_of_ble_eq_true rfl) dX3_difference_16 ⟨Nat.le_of_ble_eq_true rfl, Nat.le_of_ble_eq_true rfl⟩ (fun H locs hP hS => ?_)
  refine lv_istore_n (lv' := [(3, .int v16), (2, .int v5), (0, .ref (b + 129)), (1, .int x1)]) hx hb dX3_difference_19 rfl hl (by decide) rfl (fun ls hl => ?_)
  refine lv_iconst (v := 0) hx hb dX3_difference_20 (by decide) ?_
  refine lv_istore (lv' := [(4, .int (0 : Int32)), (3, .int v16), (2, .int v5), (0, .ref (b + 129)), (1, .int x1)]) hx hb dX3_difference_21 hl (by decide) rfl (fun ls hl => ?_)
  refine lv_iload_n hx hb dX3_difference_23 rfl (lv_at hl 2 rfl) ?_
  refine lv_istore (lv' := [(5, .int v5), (4, .int (0 : Int32)), (3, .int v16), (2, .int v5), (0, .ref (b + 129)), (1, .int x1)]) hx hb dX3_difference_24 hl (by decide) rfl (fun ls hl => ?_)
  refine Lp2_ind (P := fun (x4_26 : Int32) (x5_26 : Int32) => ∀ (H : Heap) (locs : List Loc) (ls : Array Slot), va_P D vwCl ((wC cI cO b) S) H → va_S (AC b) s.heap H locs → lv_has ls 6 [(0, .ref (b + 129)), (1, .int x1), (2, .int v5), (3, .int v16), (4, .int x4_26), (5, .int x5_26)] → W p l e rm_X3_difference s m args below meth c H locs 0 0 Q (F0 m 26 ls [])) ?_ _ _ _ hf _ _ _ hP hS (lv_sub hl [4, 5, 3, 2, 1, 0] rfl)
  clear hf hP hS hl
  intro nx26 x4_26 x5_26 ih26 hf H locs ls hP hS hl
  refine lv_iload hx hb dX3_difference_26 (lv_at hl 5 rfl) ?_
  refine lv_iload_n hx hb dX3_difference_28 rfl (lv_at hl 3 rfl) ?_
  refine lv_icmp_ge (tgt := 67) hx hb dX3_difference_29 (by decide) (fun q => ?_) (fun q => ?_)
  · replace hf := ite_t q hf
    refine lv_aload_n hx hb dX3_difference_67 rfl (lv_at hl 0 rfl) ?_
    refine g_get F hK hP inA3 129 wC_P rfl 1 (by decide) wd_172 (v := .ref (b + 130)) rfl dX3_difference_68 ?_
    refine lv_iload_n hx hb dX3_difference_71 rfl (lv_at hl 1 rfl) ?_
    obtain ⟨v72, q72, hf⟩ := cl_some hf
    refine g_calli F hK hP hS [.int x1] (c_X2_at l D cI cO b (130) nK_130 S x1 v72 q72) wd_247 wd_232 wd_233 wd_3 wd_234 (wC_N nK_130) rfl hd_X2_at rfl rfl ⟨Nat.le_of_ble_eq_true rfl, Nat.le_of_ble_eq_true rfl⟩ rfl hl (rest := []) rfl (Nat.le_of_ble_eq_true rfl) dX3_difference_72 ⟨Nat.le_of_ble_eq_true rfl, Nat.le_of_ble_eq_true rfl⟩ (fun H locs hP hS => ?_)
    refine lv_iload hx hb dX3_difference_75 (lv_at hl 4 rfl) ?_
    refine lv_isub hx hb dX3_difference_77 ?_
    refine lv_iload_n hx hb dX3_difference_78 rfl (lv_at hl 3 rfl) ?_
    refine lv_iadd hx hb dX3_difference_79 ?_
    refine lv_iload_n hx hb dX3_difference_80 rfl (lv_at hl 2 rfl) ?_
    refine lv_isub hx hb dX3_difference_81 ?_
    refine lv_iload hx hb dX3_difference_82 (lv_at hl 4 rfl) ?_
    refine lv_isub hx hb dX3_difference_84 ?_
    exact g_iret F hr hlocks hQ hK hP hS (Option.some.inj hf) rfl dX3_difference_85
  · replace hf := ite_f q hf
    refine lv_aload_n hx hb dX3_difference_32 rfl (lv_at hl 0 rfl) ?_
    refine lv_iload_n hx hb dX3_difference_33 rfl (lv_at hl 1 rfl) ?_
    refine lv_aload_n hx hb dX3_difference_34 rfl (lv_at hl 0 rfl) ?_
    refine g_get F hK hP inA3 129 wC_P rfl 0 (by decide) wd_171 (v := .ref (b + (oL 0))) rfl dX3_difference_35 ?_
    refine lv_iload hx hb dX3_difference_38 (lv_at hl 5 rfl) ?_
    obtain ⟨v40, q40, hf⟩ := cl_some hf
    refine g_calli F hK hP hS [.int x5_26] (c_X0_line l D cI cO b 0 lt04 S x5_26 v40 q40) wd_235 wd_236 wd_237 wd_7 wd_238 (wC_L lt04) rfl hd_X0_line rfl rfl ⟨Nat.le_of_ble_eq_true rfl, Nat.le_of_ble_eq_true rfl⟩ rfl hl (rest := [.int x1, .ref (b + 129)]) rfl (Nat.le_of_ble_eq_true rfl) dX3_difference_40 ⟨Nat.le_of_ble_eq_true rfl, Nat.le_of_ble_eq_true rfl⟩ (fun H locs hP hS => ?_)
    refine lv_aload_n hx hb dX3_difference_43 rfl (lv_at hl 0 rfl) ?_
    refine g_get F hK hP inA3 129 wC_P rfl 0 (by decide) wd_171 (v := .ref (b + (oL 0))) rfl dX3_difference_44 ?_
    refine lv_iload hx hb dX3_difference_47 (lv_at hl 5 rfl) ?_
    obtain ⟨v49, q49, hf⟩ := cl_some hf
    refine g_calli F hK hP hS [.int x5_26] (c_X0_rows l D cI cO b 0 lt04 S x5_26 v49 q49) wd_239 wd_240 wd_241 wd_7 wd_242 (wC_L lt04) rfl hd_X0_rows rfl rfl ⟨Nat.le_of_ble_eq_true rfl, Nat.le_of_ble_eq_true rfl⟩ rfl hl (rest := [.int v40, .int x1, .ref (b + 129)]) rfl (Nat.le_of_ble_eq_true rfl) dX3_difference_49 ⟨Nat.le_of_ble_eq_true rfl, Nat.le_of_ble_eq_true rfl⟩ (fun H locs hP hS => ?_)
    obtain ⟨v52, q52, hf⟩ := cl_some hf
    refine g_calli F hK hP hS [.int x1, .int v40, .int v49] (c_X3_isPrinted l D cI cO b S x1 v40 v49 v52 q52) wd_243 wd_245 wp_1 wd_8 wd_246 wC_P rfl hd_X3_isPrinted rfl rfl ⟨Nat.le_of_ble_eq_true rfl, Nat.le_of_ble_eq_true rfl⟩ rfl hl (rest := []) rfl (Nat.le_of_ble_eq_true rfl) dX3_difference_52 ⟨Nat.le_of_ble_eq_true rfl, Nat.le_of_ble_eq_true rfl⟩ (fun H locs hP hS => ?_)
    obtain ⟨J61, eJ61, hf⟩ := jn_some hf
    have kJ61 : ∀ (x4_61 : Int32) (H : Heap) (locs : List Loc) (ls : Array Slot), J61 x4_61 = some r → va_P D vwCl ((wC cI cO b) S) H → va_S (AC b) s.heap H locs → lv_has ls 6 [(0, .ref (b + 129)), (1, .int x1), (2, .int v5), (3, .int v16), (4, .int x4_61), (5, .int x5_26)] → W p l e rm_X3_difference s m args below meth c H locs 0 0 Q (F0 m 61 ls []) := by
      intro x4_61 H locs ls hf hP hS hl
      rw [eJ61] at hf
      obtain ⟨x5_61, ex5_61, hf⟩ := lt_some hf
      refine lv_iinc (v := x5_61) (lv' := [(5, .int x5_61), (0, .ref (b + 129)), (1, .int x1), (2, .int v5), (3, .int v16), (4, .int x4_61)]) hx hb dX3_difference_61 hl (k := 5) rfl (by rw [ex5_61]; rfl) (by decide) rfl (fun ls hl => ?_)
      refine lv_goto (tgt := 26) hx hb dX3_difference_64 (by decide) ?_
      exact ih26 _ _ hf _ _ _ hP hS (lv_sub hl [1, 2, 3, 4, 5, 0] rfl)
    clear eJ61
    refine lv_if_eq (tgt := 61) hx hb dX3_difference_55 (by decide) (fun q => ?_) (fun q => ?_)
    · replace hf := ite_t q hf
      exact kJ61 _ _ _ _ hf hP hS (lv_sub hl [0, 1, 2, 3, 4, 5] rfl)
    · replace hf := ite_f q hf
      obtain ⟨x4_58, ex4_58, hf⟩ := lt_some hf
      refine lv_iinc (v := x4_58) (lv' := [(4, .int x4_58), (0, .ref (b + 129)), (1, .int x1), (2, .int v5), (3, .int v16), (5, .int x5_26)]) hx hb dX3_difference_58 hl (k := 4) rfl (by rw [ex4_58]; rfl) (by decide) rfl (fun ls hl => ?_)
      exact kJ61 _ _ _ _ hf hP hS (lv_sub hl [1, 2, 3, 4, 0, 5] rfl)
abbrev rm_X3_slips : Room := { frames := 3, cells := 0, slots := 0, locals := 71 }
theorem hd_X3_slips : yX3_slips.cls = RX3 ∧ yX3_slips.cls ≠ "java/lang/invoke/MethodHandle" ∧ yX3_slips.cls ≠ "java/lang/invoke/VarHandle" ∧ (parseMethodDescriptor yX3_slips.desc).map (fun d => d.parameters.length) = some 1 := by decide +kernel
set_option maxRecDepth 100000 in
set_option maxHeartbeats 4000000 in
theorem c_X3_slips (l : Launch) (D : va_G) (cI cO : ClassId) (b : Nat) (S : St) (x1 : Int32) (r : Int32) (hf : f_X3_slips S x1 = some r) : Met l yX3_slips (Cond.code yX3_slips cX3_slips 5 (some .int) :: wsAll) rm_X3_slips (PX D (wC cI cO b) (tyC cI cO) S [.ref (b + 129), .int x1]) (Qi D (wC cI cO b) (tyC cI cO) (AC b) r S) 0 0 (AC b) := by
  unfold f_X3_slips at hf
  refine g_met RX3 (by decide +kernel) (Nat.le_of_ble_eq_true rfl) rfl ?_
  intro p e s m args below meth c ls Q F hr hlocks hK hP hl hQ
  have hx := F.1
  have hb := F.2.1
  have hS : va_S (AC b) s.heap s.heap [] := va_S.rf
  have hl : lv_has ls 5 [(0, .ref (b + 129)), (1, .int x1)] := hl
  refine lv_iconst (v := 0) hx hb dX3_slips_0 (by decide) ?_
  refine lv_istore_n (lv' := [(2, .int (0 : Int32)), (0, .ref (b + 129)), (1, .int x1)]) hx hb dX3_slips_1 rfl hl (by decide) rfl (fun ls hl => ?_)
  refine lv_iload_n hx hb dX3_slips_2 rfl (lv_at hl 2 rfl) ?_
  refine lv_istore_n (lv' := [(3, .int x1), (2, .int (0 : Int32)), (0, .ref (b + 129)), (1, .int x1)]) hx hb dX3_slips_3 rfl hl (by decide) rfl (fun ls hl => ?_)
  refine Lp2_ind (P := fun (x2_4 : Int32) (x3_4 : Int32) => ∀ (H : Heap) (locs : List Loc) (ls : Array Slot), va_P D vwCl ((wC cI cO b) S) H → va_S (AC b) s.heap H locs → lv_has ls 5 [(0, .ref (b + 129)), (1, .int x1), (2, .int x2_4), (3, .int x3_4)] → W p l e rm_X3_slips s m args below meth c H locs 0 0 Q (F0 m 4 ls [])) ?_ _ _ _ hf _ _ _ hP hS (lv_sub hl [2, 3, 1, 0] rfl)
  clear hf hP hS hl
  intro nx4 x2_4 x3_4 ih4 hf H locs ls hP hS hl
  refine lv_iload_n hx hb dX3_slips_4 rfl (lv_at hl 3 rfl) ?_
  refine lv_iload_n hx hb dX3_slips_5 rfl (lv_at hl 1 rfl) ?_
  refine lv_iconst (v := 2) hx hb dX3_slips_6 (by decide) ?_
  refine lv_iadd hx hb dX3_slips_7 ?_
  refine lv_icmp_ge (tgt := 40) hx hb dX3_slips_8 (by decide) (fun q => ?_) (fun q => ?_)
  · replace hf := ite_t q hf
    refine lv_iload_n hx hb dX3_slips_40 rfl (lv_at hl 2 rfl) ?_
    exact g_iret F hr hlocks hQ hK hP hS (Option.some.inj hf) rfl dX3_slips_41
  · replace hf := ite_f q hf
    refine lv_aload_n hx hb dX3_slips_11 rfl (lv_at hl 0 rfl) ?_
    refine lv_iload_n hx hb dX3_slips_12 rfl (lv_at hl 3 rfl) ?_
    obtain ⟨v13, q13, hf⟩ := cl_some hf
    refine g_calli F hK hP hS [.int x3_4] (c_X3_difference l D cI cO b S x3_4 v13 q13) wd_222 wd_223 wd_224 wd_8 wd_225 wC_P rfl hd_X3_difference rfl rfl ⟨Nat.le_of_ble_eq_true rfl, Nat.le_of_ble_eq_true rfl⟩ rfl hl (rest := []) rfl (Nat.le_of_ble_eq_true rfl) dX3_slips_13 ⟨Nat.le_of_ble_eq_true rfl, Nat.le_of_ble_eq_true rfl⟩ (fun H locs hP hS => ?_)
    refine lv_istore (lv' := [(4, .int v13), (0, .ref (b + 129)), (1, .int x1), (2, .int x2_4), (3, .int x3_4)]) hx hb dX3_slips_16 hl (by decide) rfl (fun ls hl => ?_)
    refine lv_iload_n hx hb dX3_slips_18 rfl (lv_at hl 3 rfl) ?_
    refine lv_iload hx hb dX3_slips_19 (lv_at hl 0 rfl) ?_
    obtain ⟨J32, eJ32, hf⟩ := jn_some hf
    have kJ32 : ∀ (t0_32 : Int32) (H : Heap) (locs : List Loc) (ls : Array Slot), J32 t0_32 = some r → va_P D vwCl ((wC cI cO b) S) H → va_S (AC b) s.heap H locs → lv_has ls 5 [(0, .ref (b + 129)), (1, .int x1), (3, .int x3_4)] → W p l e rm_X3_slips s m args below meth c H locs 0 0 Q (F0 m 32 ls [.int t0_32, .int x2_4]) := by
      intro t0_32 H locs ls hf hP hS hl
      rw [eJ32] at hf
      refine lv_iadd hx hb dX3_slips_32 ?_
      obtain ⟨x2_33, ex2_33, hf⟩ := lt_some hf
      rw [← ex2_33]
      refine lv_istore_n (lv' := [(2, .int x2_33), (0, .ref (b + 129)), (1, .int x1), (3, .int x3_4)]) hx hb dX3_slips_33 rfl hl (by decide) rfl (fun ls hl => ?_)
      obtain ⟨x3_34, ex3_34, hf⟩ := lt_some hf
      refine lv_iinc (v := x3_34) (lv' := [(3, .int x3_34), (2, .int x2_33), (0, .ref (b + 129)), (1, .int x1)]) hx hb dX3_slips_34 hl (k := 3) rfl (by rw [ex3_34]; rfl) (by decide) rfl (fun ls hl => ?_)
      refine lv_goto (tgt := 4) hx hb dX3_slips_37 (by decide) ?_
      exact ih4 _ _ hf _ _ _ hP hS (lv_sub hl [2, 3, 1, 0] rfl)
    clear eJ32
    refine lv_if_ne (tgt := 28) hx hb dX3_slips_21 (by decide) (fun q => ?_) (fun q => ?_)
    · replace hf := ite_t q hf
      refine lv_iconst (v := 1) hx hb dX3_slips_28 (by decide) ?_
      refine lv_iload hx hb dX3_slips_29 (lv_at hl 0 rfl) ?_
      refine lv_iadd hx hb dX3_slips_31 ?_
      exact kJ32 _ _ _ _ hf hP hS (lv_sub hl [1, 2, 4] rfl)
    · replace hf := ite_f (fun h => h q) hf
      refine lv_iconst (v := 0) hx hb dX3_slips_24 (by decide) ?_
      refine lv_goto (tgt := 32) hx hb dX3_slips_25 (by decide) ?_
      exact kJ32 _ _ _ _ hf hP hS (lv_sub hl [1, 2, 4] rfl)
abbrev rm_X3_bill : Room := { frames := 4, cells := 0, slots := 0, locals := 95 }
theorem hd_X3_bill : yX3_bill.cls = RX3 ∧ yX3_bill.cls ≠ "java/lang/invoke/MethodHandle" ∧ yX3_bill.cls ≠ "java/lang/invoke/VarHandle" ∧ (parseMethodDescriptor yX3_bill.desc).map (fun d => d.parameters.length) = some 0 := by decide +kernel
set_option maxRecDepth 100000 in
set_option maxHeartbeats 4000000 in
theorem c_X3_bill (l : Launch) (D : va_G) (cI cO : ClassId) (b : Nat) (S : St) (r : Int32) (hf : f_X3_bill S = some r) : Met l yX3_bill (Cond.code yX3_bill cX3_bill 3 (some .int) :: wsAll) rm_X3_bill (PX D (wC cI cO b) (tyC cI cO) S [.ref (b + 129)]) (Qi D (wC cI cO b) (tyC cI cO) (AC b) r S) 0 0 (AC b) := by
  unfold f_X3_bill at hf
  refine g_met RX3 (by decide +kernel) (Nat.le_of_ble_eq_true rfl) rfl ?_
  intro p e s m args below meth c ls Q F hr hlocks hK hP hl hQ
  have hx := F.1
  have hb := F.2.1
  have hS : va_S (AC b) s.heap s.heap [] := va_S.rf
  have hl : lv_has ls 3 [(0, .ref (b + 129))] := hl
  refine lv_iconst (v := 0) hx hb dX3_bill_0 (by decide) ?_
  refine lv_istore_n (lv' := [(1, .int (0 : Int32)), (0, .ref (b + 129))]) hx hb dX3_bill_1 rfl hl (by decide) rfl (fun ls hl => ?_)
  refine lv_iconst (v := 0) hx hb dX3_bill_2 (by decide) ?_
  refine lv_istore_n (lv' := [(2, .int (0 : Int32)), (1, .int (0 : Int32)), (0, .ref (b + 129))]) hx hb dX3_bill_3 rfl hl (by decide) rfl (fun ls hl => ?_)
  refine Lp2_ind (P := fun (x1_4 : Int32) (x2_4 : Int32) => ∀ (H : Heap) (locs : List Loc) (ls : Array Slot), va_P D vwCl ((wC cI cO b) S) H → va_S (AC b) s.heap H locs → lv_has ls 3 [(0, .ref (b + 129)), (1, .int x1_4), (2, .int x2_4)] → W p l e rm_X3_bill s m args below meth c H locs 0 0 Q (F0 m 4 ls [])) ?_ _ _ _ hf _ _ _ hP hS (lv_sub hl [2, 1, 0] rfl)
  clear hf hP hS hl
  intro nx4 x1_4 x2_4 ih4 hf H locs ls hP hS hl
  refine lv_iload_n hx hb dX3_bill_4 rfl (lv_at hl 2 rfl) ?_
  refine lv_aload_n hx hb dX3_bill_5 rfl (lv_at hl 0 rfl) ?_
  obtain ⟨v6, q6, hf⟩ := cl_some hf
  refine g_calli F hK hP hS [] (c_X3_pageCount l D cI cO b S v6 q6) wd_214 wd_215 wd_216 wd_8 wd_217 wC_P rfl hd_X3_pageCount rfl rfl ⟨Nat.le_of_ble_eq_true rfl, Nat.le_of_ble_eq_true rfl⟩ rfl hl (rest := [.int x2_4]) rfl (Nat.le_of_ble_eq_true rfl) dX3_bill_6 ⟨Nat.le_of_ble_eq_true rfl, Nat.le_of_ble_eq_true rfl⟩ (fun H locs hP hS => ?_)
  refine lv_icmp_ge (tgt := 31) hx hb dX3_bill_9 (by decide) (fun q => ?_) (fun q => ?_)
  · replace hf := ite_t q hf
    refine lv_iload_n hx hb dX3_bill_31 rfl (lv_at hl 1 rfl) ?_
    exact g_iret F hr hlocks hQ hK hP hS (Option.some.inj hf) rfl dX3_bill_32
  · replace hf := ite_f q hf
    refine lv_iload_n hx hb dX3_bill_12 rfl (lv_at hl 1 rfl) ?_
    refine lv_bipush (v := 10) hx hb dX3_bill_13 (by decide) ?_
    refine lv_aload_n hx hb dX3_bill_15 rfl (lv_at hl 0 rfl) ?_
    refine lv_iload_n hx hb dX3_bill_16 rfl (lv_at hl 2 rfl) ?_
    obtain ⟨v17, q17, hf⟩ := cl_some hf
    refine g_calli F hK hP hS [.int x2_4] (c_X3_slips l D cI cO b S x2_4 v17 q17) wd_218 wd_220 wp_0 wd_8 wd_221 wC_P rfl hd_X3_slips rfl rfl ⟨Nat.le_of_ble_eq_true rfl, Nat.le_of_ble_eq_true rfl⟩ rfl hl (rest := [.int (10 : Int32), .int x1_4]) rfl (Nat.le_of_ble_eq_true rfl) dX3_bill_17 ⟨Nat.le_of_ble_eq_true rfl, Nat.le_of_ble_eq_true rfl⟩ (fun H locs hP hS => ?_)
    refine va_mmin hx hb (F.2.2.1.trans hl.1.symm) F.2.2.2.1 (F.2.2.2.2 _ (List.mem_cons_of_mem _ wd_248)) (F.2.2.2.2 _ (List.mem_cons_of_mem _ wd_249)) (F.2.2.2.2 _ (List.mem_cons_of_mem _ wd_4)) (F.2.2.2.2 _ (List.mem_cons_of_mem _ wd_min)) (Nat.le_of_ble_eq_true rfl) (Nat.le_of_ble_eq_true rfl) (Nat.zero_le _) (Nat.zero_le _) dX3_bill_20 ?_
    refine lv_iadd hx hb dX3_bill_23 ?_
    obtain ⟨x1_24, ex1_24, hf⟩ := lt_some hf
    rw [← ex1_24]
    refine lv_istore_n (lv' := [(1, .int x1_24), (0, .ref (b + 129)), (2, .int x2_4)]) hx hb dX3_bill_24 rfl hl (by decide) rfl (fun ls hl => ?_)
    obtain ⟨x2_25, ex2_25, hf⟩ := lt_some hf
    refine lv_iinc (v := x2_25) (lv' := [(2, .int x2_25), (1, .int x1_24), (0, .ref (b + 129))]) hx hb dX3_bill_25 hl (k := 2) rfl (by rw [ex2_25]; rfl) (by decide) rfl (fun ls hl => ?_)
    refine lv_goto (tgt := 4) hx hb dX3_bill_28 (by decide) ?_
    exact ih4 _ _ hf _ _ _ hP hS (lv_sub hl [2, 1, 0] rfl)
abbrev rm_X4_nextStamp : Room := { frames := 0, cells := 0, slots := 0, locals := 0 }
theorem hd_X4_nextStamp : yX4_nextStamp.cls = RX4 ∧ yX4_nextStamp.cls ≠ "java/lang/invoke/MethodHandle" ∧ yX4_nextStamp.cls ≠ "java/lang/invoke/VarHandle" ∧ (parseMethodDescriptor yX4_nextStamp.desc).map (fun d => d.parameters.length) = some 0 := by decide +kernel
set_option maxRecDepth 100000 in
set_option maxHeartbeats 4000000 in
theorem c_X4_nextStamp (l : Launch) (D : va_G) (cI cO : ClassId) (b : Nat) (z : Nat) (hz : z < 4) (S : St) (r : Int32) (S1 : St) (hf : f_X4_nextStamp S z = some (r, S1)) : Met l yX4_nextStamp (Cond.code yX4_nextStamp cX4_nextStamp 1 (some .int) :: wsAll) rm_X4_nextStamp (PX D (wC cI cO b) (tyC cI cO) S [.ref (b + (oS z))]) (Qi D (wC cI cO b) (tyC cI cO) (AC b) r S1) 0 0 (AC b) := by
  unfold f_X4_nextStamp at hf
  refine g_met RX4 (by decide +kernel) (Nat.le_of_ble_eq_true rfl) rfl ?_
  intro p e s m args below meth c ls Q F hr hlocks hK hP hl hQ
  have hx := F.1
  have hb := F.2.1
  have hS : va_S (AC b) s.heap s.heap [] := va_S.rf
  have hl : lv_has ls 1 [(0, .ref (b + (oS z)))] := hl
  refine lv_aload_n hx hb dX4_nextStamp_0 rfl (lv_at hl 0 rfl) ?_
  refine lv_dup hx hb dX4_nextStamp_1 rfl ?_
  refine g_get F hK hP inA4 (oS z) (wC_S hz) rfl 5 (by decide) wd_149 (v := .int (gi S (oS z))) rfl dX4_nextStamp_2 ?_
  refine lv_iconst (v := 1) hx hb dX4_nextStamp_5 (by decide) ?_
  refine lv_iadd hx hb dX4_nextStamp_6 ?_
  obtain ⟨S_7, eS_7, hf⟩ := lt_some hf
  refine g_puti (S1 := S_7) F hK hP wC_D hS inA4 tyX4 tyX4_ok nmX4 (oS z) (wC_S hz) rfl 5 (by decide) wd_149 rfl (by decide +kernel) (Nat.le_of_ble_eq_true rfl) (by rw [eS_7]; exact wC_sS hz) dX4_nextStamp_7 (fun H locs hP hS => ?_)
  refine lv_aload_n hx hb dX4_nextStamp_10 rfl (lv_at hl 0 rfl) ?_
  refine g_get F hK hP inA4 (oS z) (wC_S hz) rfl 5 (by decide) wd_149 (v := .int (gi S_7 (oS z))) rfl dX4_nextStamp_11 ?_
  refine lv_iconst (v := 4) hx hb dX4_nextStamp_14 (by decide) ?_
  refine lv_imul hx hb dX4_nextStamp_15 ?_
  refine lv_aload_n hx hb dX4_nextStamp_16 rfl (lv_at hl 0 rfl) ?_
  refine g_get F hK hP inA4 (oS z) (wC_S hz) rfl 2 (by decide) wd_146 (v := .int (nI z)) rfl dX4_nextStamp_17 ?_
  refine lv_iadd hx hb dX4_nextStamp_20 ?_
  exact g_iret F hr hlocks hQ hK hP hS (Prod.mk.inj (Option.some.inj hf)).1 (Prod.mk.inj (Option.some.inj hf)).2 dX4_nextStamp_21
abbrev rm_X5_putIn : Room := { frames := 2, cells := 0, slots := 0, locals := 45 }
theorem hd_X5_putIn : yX5_putIn.cls = RX5 ∧ yX5_putIn.cls ≠ "java/lang/invoke/MethodHandle" ∧ yX5_putIn.cls ≠ "java/lang/invoke/VarHandle" ∧ (parseMethodDescriptor yX5_putIn.desc).map (fun d => d.parameters.length) = some 1 := by decide +kernel
set_option maxRecDepth 100000 in
set_option maxHeartbeats 4000000 in
theorem c_X5_putIn (l : Launch) (D : va_G) (cI cO : ClassId) (b : Nat) (z : Nat) (hz : z < 4) (S : St) (x1 : Int32) (S1 : St) (hf : f_X5_putIn S z x1 = some S1) : Met l yX5_putIn (Cond.code yX5_putIn cX5_putIn 4 none :: wsAll) rm_X5_putIn (PX D (wC cI cO b) (tyC cI cO) S [.ref (b + (oT z)), .int x1]) (Qv D (wC cI cO b) (tyC cI cO) (AC b) S1) 0 0 (AC b) := by
  unfold f_X5_putIn at hf
  refine g_met RX5 (by decide +kernel) (Nat.le_of_ble_eq_true rfl) rfl ?_
  intro p e s m args below meth c ls Q F hr hlocks hK hP hl hQ
  have hx := F.1
  have hb := F.2.1
  have hS : va_S (AC b) s.heap s.heap [] := va_S.rf
  have hl : lv_has ls 4 [(0, .ref (b + (oT z))), (1, .int x1)] := hl
  refine lv_aload_n hx hb dX5_putIn_0 rfl (lv_at hl 0 rfl) ?_
  refine g_get F hK hP inA5 (oT z) (wC_T hz) rfl 0 (by decide) wd_93 (v := .ref (b + 1)) rfl dX5_putIn_1 ?_
  refine lv_iload_n hx hb dX5_putIn_4 rfl (lv_at hl 1 rfl) ?_
  obtain ⟨v5, q5, hf⟩ := cl_some hf
  refine g_calli F hK hP hS [.int x1] (c_X1_stampOfLine l D cI cO b S x1 v5 q5) wd_438 wd_439 wd_440 wd_2 wd_441 wC_G rfl hd_X1_stampOfLine rfl rfl ⟨Nat.le_of_ble_eq_true rfl, Nat.le_of_ble_eq_true rfl⟩ rfl hl (rest := []) rfl (Nat.le_of_ble_eq_true rfl) dX5_putIn_5 ⟨Nat.le_of_ble_eq_true rfl, Nat.le_of_ble_eq_true rfl⟩ (fun H locs hP hS => ?_)
  refine lv_istore_n (lv' := [(2, .int v5), (0, .ref (b + (oT z))), (1, .int x1)]) hx hb dX5_putIn_8 rfl hl (by decide) rfl (fun ls hl => ?_)
  refine lv_aload_n hx hb dX5_putIn_9 rfl (lv_at hl 1 rfl) ?_
  refine g_get F hK hP inA5 (oT z) (wC_T hz) rfl 1 (by decide) wd_94 (v := .ref (b + (oT z + 1))) rfl dX5_putIn_10 ?_
  refine lv_aload_n hx hb dX5_putIn_13 rfl (lv_at hl 1 rfl) ?_
  refine g_get F hK hP inA5 (oT z) (wC_T hz) rfl 0 (by decide) wd_93 (v := .ref (b + 1)) rfl dX5_putIn_14 ?_
  refine lv_iload_n hx hb dX5_putIn_17 rfl (lv_at hl 2 rfl) ?_
  obtain ⟨v18, q18, hf⟩ := cl_some hf
  refine g_calli F hK hP hS [.int x1] (c_X1_behindOf l D cI cO b S x1 v18 q18) wd_442 wd_443 wd_444 wd_2 wd_445 wC_G rfl hd_X1_behindOf rfl rfl ⟨Nat.le_of_ble_eq_true rfl, Nat.le_of_ble_eq_true rfl⟩ rfl hl (rest := [.ref (b + (oT z + 1))]) rfl (Nat.le_of_ble_eq_true rfl) dX5_putIn_18 ⟨Nat.le_of_ble_eq_true rfl, Nat.le_of_ble_eq_true rfl⟩ (fun H locs hP hS => ?_)
  obtain ⟨v21, q21, hf⟩ := cl_some hf
  refine g_calli F hK hP hS [.int v18] (c_X2_placeOf l D cI cO b (oT z + 1) (nKT _ hz).1 S v18 v21 q21) wd_446 wd_447 wd_448 wd_3 wd_449 (wC_N (nKT _ hz).1) rfl hd_X2_placeOf rfl rfl ⟨Nat.le_of_ble_eq_true rfl, Nat.le_of_ble_eq_true rfl⟩ rfl hl (rest := []) rfl (Nat.le_of_ble_eq_true rfl) dX5_putIn_21 ⟨Nat.le_of_ble_eq_true rfl, Nat.le_of_ble_eq_true rfl⟩ (fun H locs hP hS => ?_)
  refine lv_iconst (v := 1) hx hb dX5_putIn_24 (by decide) ?_
  refine lv_iadd hx hb dX5_putIn_25 ?_
  obtain ⟨x3_26, ex3_26, hf⟩ := lt_some hf
  rw [← ex3_26]
  refine lv_istore_n (lv' := [(3, .int x3_26), (2, .int v5), (0, .ref (b + (oT z))), (1, .int x1)]) hx hb dX5_putIn_26 rfl hl (by decide) rfl (fun ls hl => ?_)
  refine Lp1_ind (P := fun (x3_27 : Int32) => ∀ (H : Heap) (locs : List Loc) (ls : Array Slot), va_P D vwCl ((wC cI cO b) S) H → va_S (AC b) s.heap H locs → lv_has ls 4 [(0, .ref (b + (oT z))), (1, .int x1), (2, .int v5), (3, .int x3_27)] → W p l e rm_X5_putIn s m args below meth c H locs 0 0 Q (F0 m 27 ls [])) ?_ _ _ hf _ _ _ hP hS (lv_sub hl [2, 3, 1, 0] rfl)
  clear hf hP hS hl
  intro nx27 x3_27 ih27 hf H locs ls hP hS hl
  refine lv_iload_n hx hb dX5_putIn_27 rfl (lv_at hl 3 rfl) ?_
  refine lv_aload_n hx hb dX5_putIn_28 rfl (lv_at hl 0 rfl) ?_
  refine g_get F hK hP inA5 (oT z) (wC_T hz) rfl 1 (by decide) wd_94 (v := .ref (b + (oT z + 1))) rfl dX5_putIn_29 ?_
  obtain ⟨v32, q32, hf⟩ := cl_some hf
  refine g_calli F hK hP hS [] (c_X2_size l D cI cO b (oT z + 1) (nKT _ hz).1 S v32 q32) wd_450 wd_203 wd_204 wd_3 wd_205 (wC_N (nKT _ hz).1) rfl hd_X2_size rfl rfl ⟨Nat.le_of_ble_eq_true rfl, Nat.le_of_ble_eq_true rfl⟩ rfl hl (rest := [.int x3_27]) rfl (Nat.le_of_ble_eq_true rfl) dX5_putIn_32 ⟨Nat.le_of_ble_eq_true rfl, Nat.le_of_ble_eq_true rfl⟩ (fun H locs hP hS => ?_)
  obtain ⟨J63, eJ63, hf⟩ := jn_some hf
  have kJ63 : ∀ (H : Heap) (locs : List Loc) (ls : Array Slot), J63 = some S1 → va_P D vwCl ((wC cI cO b) S) H → va_S (AC b) s.heap H locs → lv_has ls 4 [(0, .ref (b + (oT z))), (1, .int x1), (3, .int x3_27)] → W p l e rm_X5_putIn s m args below meth c H locs 0 0 Q (F0 m 63 ls []) := by
    intro  H locs ls hf hP hS hl
    rw [eJ63] at hf
    refine lv_aload_n hx hb dX5_putIn_63 rfl (lv_at hl 0 rfl) ?_
    refine g_get F hK hP inA5 (oT z) (wC_T hz) rfl 1 (by decide) wd_94 (v := .ref (b + (oT z + 1))) rfl dX5_putIn_64 ?_
    refine lv_iload_n hx hb dX5_putIn_67 rfl (lv_at hl 2 rfl) ?_
    refine lv_iload_n hx hb dX5_putIn_68 rfl (lv_at hl 1 rfl) ?_
    obtain ⟨S_69, q69, hf⟩ := cl_some hf
    refine g_callv F hK hP hS [.int x3_27, .int x1] (c_X2_putBetween l D cI cO b (oT z + 1) (nKT _ hz).1 S x3_27 x1 S_69 q69) wd_451 wd_398 wd_399 wd_3 wd_400 (wC_N (nKT _ hz).1) rfl hd_X2_putBetween rfl rfl ⟨Nat.le_of_ble_eq_true rfl, Nat.le_of_ble_eq_true rfl⟩ rfl hl (rest := []) rfl (Nat.le_of_ble_eq_true rfl) dX5_putIn_69 ⟨Nat.le_of_ble_eq_true rfl, Nat.le_of_ble_eq_true rfl⟩ (fun H locs hP hS => ?_)
    refine lv_aload_n hx hb dX5_putIn_72 rfl (lv_at hl 0 rfl) ?_
    refine g_get F hK hP inA5 (oT z) (wC_T hz) rfl 4 (by decide) wd_97 (v := .ref (b + (oT z + 7))) rfl dX5_putIn_73 ?_
    refine lv_iload_n hx hb dX5_putIn_76 rfl (lv_at hl 1 rfl) ?_
    refine lv_iconst (v := 1) hx hb dX5_putIn_77 (by decide) ?_
    obtain ⟨S_78, q78, hf⟩ := cl_some hf
    refine g_callv F hK hP hS [.int x1, .int (1 : Int32)] (c_X2_put l D cI cO b (oT z + 7) (nKT _ hz).2.2.2.1 S_69 x1 (1 : Int32) S_78 q78) wd_452 wd_403 wd_404 wd_3 wd_405 (wC_N (nKT _ hz).2.2.2.1) rfl hd_X2_put rfl rfl ⟨Nat.le_of_ble_eq_true rfl, Nat.le_of_ble_eq_true rfl⟩ rfl hl (rest := []) rfl (Nat.le_of_ble_eq_true rfl) dX5_putIn_78 ⟨Nat.le_of_ble_eq_true rfl, Nat.le_of_ble_eq_true rfl⟩ (fun H locs hP hS => ?_)
    exact g_vret F hr hlocks hQ hK hP hS (Option.some.inj hf) dX5_putIn_81
  clear eJ63
  refine lv_icmp_ge (tgt := 63) hx hb dX5_putIn_35 (by decide) (fun q => ?_) (fun q => ?_)
  · replace hf := ite_t q hf
    exact kJ63 _ _ _ hf hP hS (lv_sub hl [0, 1, 3] rfl)
  · replace hf := ite_f q hf
    refine lv_aload_n hx hb dX5_putIn_38 rfl (lv_at hl 0 rfl) ?_
    refine g_get F hK hP inA5 (oT z) (wC_T hz) rfl 0 (by decide) wd_93 (v := .ref (b + 1)) rfl dX5_putIn_39 ?_
    refine lv_aload_n hx hb dX5_putIn_42 rfl (lv_at hl 0 rfl) ?_
    refine g_get F hK hP inA5 (oT z) (wC_T hz) rfl 1 (by decide) wd_94 (v := .ref (b + (oT z + 1))) rfl dX5_putIn_43 ?_
    refine lv_iload_n hx hb dX5_putIn_46 rfl (lv_at hl 3 rfl) ?_
    obtain ⟨v47, q47, hf⟩ := cl_some hf
    refine g_calli F hK hP hS [.int x3_27] (c_X2_at l D cI cO b (oT z + 1) (nKT _ hz).1 S x3_27 v47 q47) wd_342 wd_232 wd_233 wd_3 wd_234 (wC_N (nKT _ hz).1) rfl hd_X2_at rfl rfl ⟨Nat.le_of_ble_eq_true rfl, Nat.le_of_ble_eq_true rfl⟩ rfl hl (rest := [.ref (b + 1)]) rfl (Nat.le_of_ble_eq_true rfl) dX5_putIn_47 ⟨Nat.le_of_ble_eq_true rfl, Nat.le_of_ble_eq_true rfl⟩ (fun H locs hP hS => ?_)
    obtain ⟨v50, q50, hf⟩ := cl_some hf
    refine g_calli F hK hP hS [.int v47] (c_X1_stampOfLine l D cI cO b S v47 v50 q50) wd_438 wd_439 wd_440 wd_2 wd_441 wC_G rfl hd_X1_stampOfLine rfl rfl ⟨Nat.le_of_ble_eq_true rfl, Nat.le_of_ble_eq_true rfl⟩ rfl hl (rest := []) rfl (Nat.le_of_ble_eq_true rfl) dX5_putIn_50 ⟨Nat.le_of_ble_eq_true rfl, Nat.le_of_ble_eq_true rfl⟩ (fun H locs hP hS => ?_)
    refine lv_iload_n hx hb dX5_putIn_53 rfl (lv_at hl 2 rfl) ?_
    refine lv_icmp_le (tgt := 63) hx hb dX5_putIn_54 (by decide) (fun q => ?_) (fun q => ?_)
    · replace hf := ite_t q hf
      exact kJ63 _ _ _ hf hP hS (lv_sub hl [0, 1, 3] rfl)
    · replace hf := ite_f q hf
      obtain ⟨x3_57, ex3_57, hf⟩ := lt_some hf
      refine lv_iinc (v := x3_57) (lv' := [(3, .int x3_57), (0, .ref (b + (oT z))), (1, .int x1), (2, .int v5)]) hx hb dX5_putIn_57 hl (k := 3) rfl (by rw [ex3_57]; rfl) (by decide) rfl (fun ls hl => ?_)
      refine lv_goto (tgt := 27) hx hb dX5_putIn_60 (by decide) ?_
      exact ih27 _ hf _ _ _ hP hS (lv_sub hl [1, 2, 3, 0] rfl)
abbrev rm_X5_bringNote : Room := { frames := 1, cells := 0, slots := 0, locals := 22 }
theorem hd_X5_bringNote : yX5_bringNote.cls = RX5 ∧ yX5_bringNote.cls ≠ "java/lang/invoke/MethodHandle" ∧ yX5_bringNote.cls ≠ "java/lang/invoke/VarHandle" ∧ (parseMethodDescriptor yX5_bringNote.desc).map (fun d => d.parameters.length) = some 3 := by decide +kernel
set_option maxRecDepth 100000 in
set_option maxHeartbeats 4000000 in
theorem c_X5_bringNote (l : Launch) (D : va_G) (cI cO : ClassId) (b : Nat) (z : Nat) (hz : z < 4) (S : St) (x1 : Int32) (x2 : Int32) (x3 : Int32) (S1 : St) (hf : f_X5_bringNote S z x1 x2 x3 = some S1) : Met l yX5_bringNote (Cond.code yX5_bringNote cX5_bringNote 4 none :: wsAll) rm_X5_bringNote (PX D (wC cI cO b) (tyC cI cO) S [.ref (b + (oT z)), .int x1, .int x2, .int x3]) (Qv D (wC cI cO b) (tyC cI cO) (AC b) S1) 0 0 (AC b) := by
  unfold f_X5_bringNote at hf
  refine g_met RX5 (by decide +kernel) (Nat.le_of_ble_eq_true rfl) rfl ?_
  intro p e s m args below meth c ls Q F hr hlocks hK hP hl hQ
  have hx := F.1
  have hb := F.2.1
  have hS : va_S (AC b) s.heap s.heap [] := va_S.rf
  have hl : lv_has ls 4 [(0, .ref (b + (oT z))), (1, .int x1), (2, .int x2), (3, .int x3)] := hl
  refine lv_iload_n hx hb dX5_bringNote_0 rfl (lv_at hl 3 rfl) ?_
  refine lv_aload_n hx hb dX5_bringNote_1 rfl (lv_at hl 0 rfl) ?_
  refine g_get F hK hP inA5 (oT z) (wC_T hz) rfl 6 (by decide) wd_99 (v := .ref (b + (oT z + 11))) rfl dX5_bringNote_2 ?_
  refine lv_iload_n hx hb dX5_bringNote_5 rfl (lv_at hl 1 rfl) ?_
  obtain ⟨v6, q6, hf⟩ := cl_some hf
  refine g_calli F hK hP hS [.int x1] (c_X2_at l D cI cO b (oT z + 11) (nKT _ hz).2.2.2.2.2 S x1 v6 q6) wd_342 wd_232 wd_233 wd_3 wd_234 (wC_N (nKT _ hz).2.2.2.2.2) rfl hd_X2_at rfl rfl ⟨Nat.le_of_ble_eq_true rfl, Nat.le_of_ble_eq_true rfl⟩ rfl hl (rest := [.int x3]) rfl (Nat.le_of_ble_eq_true rfl) dX5_bringNote_6 ⟨Nat.le_of_ble_eq_true rfl, Nat.le_of_ble_eq_true rfl⟩ (fun H locs hP hS => ?_)
  refine lv_icmp_le (tgt := 30) hx hb dX5_bringNote_9 (by decide) (fun q => ?_) (fun q => ?_)
  · replace hf := ite_t q hf
    exact g_vret F hr hlocks hQ hK hP hS (Option.some.inj hf) dX5_bringNote_30
  · replace hf := ite_f q hf
    refine lv_aload_n hx hb dX5_bringNote_12 rfl (lv_at hl 0 rfl) ?_
    refine g_get F hK hP inA5 (oT z) (wC_T hz) rfl 5 (by decide) wd_98 (v := .ref (b + (oT z + 9))) rfl dX5_bringNote_13 ?_
    refine lv_iload_n hx hb dX5_bringNote_16 rfl (lv_at hl 1 rfl) ?_
    refine lv_iload_n hx hb dX5_bringNote_17 rfl (lv_at hl 2 rfl) ?_
    obtain ⟨S_18, q18, hf⟩ := cl_some hf
    refine g_callv F hK hP hS [.int x1, .int x2] (c_X2_put l D cI cO b (oT z + 9) (nKT _ hz).2.2.2.2.1 S x1 x2 S_18 q18) wd_452 wd_403 wd_404 wd_3 wd_405 (wC_N (nKT _ hz).2.2.2.2.1) rfl hd_X2_put rfl rfl ⟨Nat.le_of_ble_eq_true rfl, Nat.le_of_ble_eq_true rfl⟩ rfl hl (rest := []) rfl (Nat.le_of_ble_eq_true rfl) dX5_bringNote_18 ⟨Nat.le_of_ble_eq_true rfl, Nat.le_of_ble_eq_true rfl⟩ (fun H locs hP hS => ?_)
    refine lv_aload_n hx hb dX5_bringNote_21 rfl (lv_at hl 0 rfl) ?_
    refine g_get F hK hP inA5 (oT z) (wC_T hz) rfl 6 (by decide) wd_99 (v := .ref (b + (oT z + 11))) rfl dX5_bringNote_22 ?_
    refine lv_iload_n hx hb dX5_bringNote_25 rfl (lv_at hl 1 rfl) ?_
    refine lv_iload_n hx hb dX5_bringNote_26 rfl (lv_at hl 3 rfl) ?_
    obtain ⟨S_27, q27, hf⟩ := cl_some hf
    refine g_callv F hK hP hS [.int x1, .int x3] (c_X2_put l D cI cO b (oT z + 11) (nKT _ hz).2.2.2.2.2 S_18 x1 x3 S_27 q27) wd_452 wd_403 wd_404 wd_3 wd_405 (wC_N (nKT _ hz).2.2.2.2.2) rfl hd_X2_put rfl rfl ⟨Nat.le_of_ble_eq_true rfl, Nat.le_of_ble_eq_true rfl⟩ rfl hl (rest := []) rfl (Nat.le_of_ble_eq_true rfl) dX5_bringNote_27 ⟨Nat.le_of_ble_eq_true rfl, Nat.le_of_ble_eq_true rfl⟩ (fun H locs hP hS => ?_)
    exact g_vret F hr hlocks hQ hK hP hS (Option.some.inj hf) dX5_bringNote_30
abbrev rm_X5_change : Room := { frames := 3, cells := 0, slots := 0, locals := 68 }
theorem hd_X5_change : yX5_change.cls = RX5 ∧ yX5_change.cls ≠ "java/lang/invoke/MethodHandle" ∧ yX5_change.cls ≠ "java/lang/invoke/VarHandle" ∧ (parseMethodDescriptor yX5_change.desc).map (fun d => d.parameters.length) = some 1 := by decide +kernel
set_option maxRecDepth 100000 in
set_option maxHeartbeats 4000000 in
theorem c_X5_change (l : Launch) (D : va_G) (cI cO : ClassId) (b : Nat) (z : Nat) (hz : z < 4) (S : St) (x1 : Int32) (S1 : St) (hf : f_X5_change S z x1 = some S1) : Met l yX5_change (Cond.code yX5_change cX5_change 3 none :: wsAll) rm_X5_change (PX D (wC cI cO b) (tyC cI cO) S [.ref (b + (oT z)), .int x1]) (Qv D (wC cI cO b) (tyC cI cO) (AC b) S1) 0 0 (AC b) := by
  unfold f_X5_change at hf
  refine g_met RX5 (by decide +kernel) (Nat.le_of_ble_eq_true rfl) rfl ?_
  intro p e s m args below meth c ls Q F hr hlocks hK hP hl hQ
  have hx := F.1
  have hb := F.2.1
  have hS : va_S (AC b) s.heap s.heap [] := va_S.rf
  have hl : lv_has ls 3 [(0, .ref (b + (oT z))), (1, .int x1)] := hl
  refine lv_aload_n hx hb dX5_change_0 rfl (lv_at hl 0 rfl) ?_
  refine g_get F hK hP inA5 (oT z) (wC_T hz) rfl 0 (by decide) wd_93 (v := .ref (b + 1)) rfl dX5_change_1 ?_
  refine lv_iload_n hx hb dX5_change_4 rfl (lv_at hl 1 rfl) ?_
  obtain ⟨v5, q5, hf⟩ := cl_some hf
  refine g_calli F hK hP hS [.int x1] (c_X1_subjectOf l D cI cO b S x1 v5 q5) wd_425 wd_426 wd_427 wd_2 wd_428 wC_G rfl hd_X1_subjectOf rfl rfl ⟨Nat.le_of_ble_eq_true rfl, Nat.le_of_ble_eq_true rfl⟩ rfl hl (rest := []) rfl (Nat.le_of_ble_eq_true rfl) dX5_change_5 ⟨Nat.le_of_ble_eq_true rfl, Nat.le_of_ble_eq_true rfl⟩ (fun H locs hP hS => ?_)
  refine lv_istore_n (lv' := [(2, .int v5), (0, .ref (b + (oT z))), (1, .int x1)]) hx hb dX5_change_8 rfl hl (by decide) rfl (fun ls hl => ?_)
  refine lv_aload_n hx hb dX5_change_9 rfl (lv_at hl 1 rfl) ?_
  refine g_get F hK hP inA5 (oT z) (wC_T hz) rfl 0 (by decide) wd_93 (v := .ref (b + 1)) rfl dX5_change_10 ?_
  refine lv_iload_n hx hb dX5_change_13 rfl (lv_at hl 2 rfl) ?_
  obtain ⟨v14, q14, hf⟩ := cl_some hf
  refine g_calli F hK hP hS [.int x1] (c_X1_kindOf l D cI cO b S x1 v14 q14) wd_430 wd_431 wd_432 wd_2 wd_433 wC_G rfl hd_X1_kindOf rfl rfl ⟨Nat.le_of_ble_eq_true rfl, Nat.le_of_ble_eq_true rfl⟩ rfl hl (rest := []) rfl (Nat.le_of_ble_eq_true rfl) dX5_change_14 ⟨Nat.le_of_ble_eq_true rfl, Nat.le_of_ble_eq_true rfl⟩ (fun H locs hP hS => ?_)
  by_cases q17_0 : v14 = (0 : Int32)
  · replace hf := ite_t q17_0 hf
    refine lv_tableIn (off := 31) (tgt := 48) hx hb dX5_change_17 (by rw [q17_0]; decide) (by rw [q17_0]; decide) (by rw [q17_0]; rfl) (by decide) ?_
    refine lv_aload_n hx hb dX5_change_48 rfl (lv_at hl 1 rfl) ?_
    refine lv_iload_n hx hb dX5_change_49 rfl (lv_at hl 0 rfl) ?_
    obtain ⟨S_50, q50, hf⟩ := cl_some hf
    refine g_callv F hK hP hS [.int v5] (c_X5_putIn l D cI cO b z hz S v5 S_50 q50) wd_434 wd_436 wp_7 wd_6 wd_437 (wC_T hz) rfl hd_X5_putIn rfl rfl ⟨Nat.le_of_ble_eq_true rfl, Nat.le_of_ble_eq_true rfl⟩ rfl hl (rest := []) rfl (Nat.le_of_ble_eq_true rfl) dX5_change_50 ⟨Nat.le_of_ble_eq_true rfl, Nat.le_of_ble_eq_true rfl⟩ (fun H locs hP hS => ?_)
    refine lv_goto (tgt := 92) hx hb dX5_change_53 (by decide) ?_
    exact g_vret F hr hlocks hQ hK hP hS (Option.some.inj hf) dX5_change_92
  replace hf := ite_f q17_0 hf
  by_cases q17_1 : v14 = (1 : Int32)
  · replace hf := ite_t q17_1 hf
    refine lv_tableIn (off := 39) (tgt := 56) hx hb dX5_change_17 (by rw [q17_1]; decide) (by rw [q17_1]; decide) (by rw [q17_1]; rfl) (by decide) ?_
    refine lv_aload_n hx hb dX5_change_56 rfl (lv_at hl 1 rfl) ?_
    refine g_get F hK hP inA5 (oT z) (wC_T hz) rfl 4 (by decide) wd_97 (v := .ref (b + (oT z + 7))) rfl dX5_change_57 ?_
    refine lv_iload_n hx hb dX5_change_60 rfl (lv_at hl 0 rfl) ?_
    refine lv_iconst (v := 0) hx hb dX5_change_61 (by decide) ?_
    obtain ⟨S_62, q62, hf⟩ := cl_some hf
    refine g_callv F hK hP hS [.int v5, .int (0 : Int32)] (c_X2_put l D cI cO b (oT z + 7) (nKT _ hz).2.2.2.1 S v5 (0 : Int32) S_62 q62) wd_452 wd_403 wd_404 wd_3 wd_405 (wC_N (nKT _ hz).2.2.2.1) rfl hd_X2_put rfl rfl ⟨Nat.le_of_ble_eq_true rfl, Nat.le_of_ble_eq_true rfl⟩ rfl hl (rest := []) rfl (Nat.le_of_ble_eq_true rfl) dX5_change_62 ⟨Nat.le_of_ble_eq_true rfl, Nat.le_of_ble_eq_true rfl⟩ (fun H locs hP hS => ?_)
    refine lv_goto (tgt := 92) hx hb dX5_change_65 (by decide) ?_
    exact g_vret F hr hlocks hQ hK hP hS (Option.some.inj hf) dX5_change_92
  replace hf := ite_f q17_1 hf
  by_cases q17_2 : v14 = (2 : Int32)
  · replace hf := ite_t q17_2 hf
    refine lv_tableIn (off := 51) (tgt := 68) hx hb dX5_change_17 (by rw [q17_2]; decide) (by rw [q17_2]; decide) (by rw [q17_2]; rfl) (by decide) ?_
    refine lv_aload_n hx hb dX5_change_68 rfl (lv_at hl 1 rfl) ?_
    refine lv_iload_n hx hb dX5_change_69 rfl (lv_at hl 0 rfl) ?_
    refine lv_aload_n hx hb dX5_change_70 rfl (lv_at hl 1 rfl) ?_
    refine g_get F hK hP inA5 (oT z) (wC_T hz) rfl 0 (by decide) wd_93 (v := .ref (b + 1)) rfl dX5_change_71 ?_
    refine lv_iload_n hx hb dX5_change_74 rfl (lv_at hl 2 rfl) ?_
    obtain ⟨v75, q75, hf⟩ := cl_some hf
    refine g_calli F hK hP hS [.int x1] (c_X1_targetOf l D cI cO b S x1 v75 q75) wd_453 wd_454 wd_455 wd_2 wd_456 wC_G rfl hd_X1_targetOf rfl rfl ⟨Nat.le_of_ble_eq_true rfl, Nat.le_of_ble_eq_true rfl⟩ rfl hl (rest := [.int v5, .ref (b + (oT z))]) rfl (Nat.le_of_ble_eq_true rfl) dX5_change_75 ⟨Nat.le_of_ble_eq_true rfl, Nat.le_of_ble_eq_true rfl⟩ (fun H locs hP hS => ?_)
    refine lv_aload_n hx hb dX5_change_78 rfl (lv_at hl 1 rfl) ?_
    refine g_get F hK hP inA5 (oT z) (wC_T hz) rfl 0 (by decide) wd_93 (v := .ref (b + 1)) rfl dX5_change_79 ?_
    refine lv_iload_n hx hb dX5_change_82 rfl (lv_at hl 2 rfl) ?_
    obtain ⟨v83, q83, hf⟩ := cl_some hf
    refine g_calli F hK hP hS [.int x1] (c_X1_stampOf l D cI cO b S x1 v83 q83) wd_457 wd_458 wd_459 wd_2 wd_460 wC_G rfl hd_X1_stampOf rfl rfl ⟨Nat.le_of_ble_eq_true rfl, Nat.le_of_ble_eq_true rfl⟩ rfl hl (rest := [.int v75, .int v5, .ref (b + (oT z))]) rfl (Nat.le_of_ble_eq_true rfl) dX5_change_83 ⟨Nat.le_of_ble_eq_true rfl, Nat.le_of_ble_eq_true rfl⟩ (fun H locs hP hS => ?_)
    obtain ⟨S_86, q86, hf⟩ := cl_some hf
    refine g_callv F hK hP hS [.int v5, .int v75, .int v83] (c_X5_bringNote l D cI cO b z hz S v5 v75 v83 S_86 q86) wd_461 wd_463 wp_8 wd_6 wd_464 (wC_T hz) rfl hd_X5_bringNote rfl rfl ⟨Nat.le_of_ble_eq_true rfl, Nat.le_of_ble_eq_true rfl⟩ rfl hl (rest := []) rfl (Nat.le_of_ble_eq_true rfl) dX5_change_86 ⟨Nat.le_of_ble_eq_true rfl, Nat.le_of_ble_eq_true rfl⟩ (fun H locs hP hS => ?_)
    refine lv_goto (tgt := 92) hx hb dX5_change_89 (by decide) ?_
    exact g_vret F hr hlocks hQ hK hP hS (Option.some.inj hf) dX5_change_92
  replace hf := ite_f q17_2 hf
  by_cases q17_3 : v14 = (3 : Int32)
  · replace hf := ite_t q17_3 hf
    refine lv_tableIn (off := 51) (tgt := 68) hx hb dX5_change_17 (by rw [q17_3]; decide) (by rw [q17_3]; decide) (by rw [q17_3]; rfl) (by decide) ?_
    refine lv_aload_n hx hb dX5_change_68 rfl (lv_at hl 1 rfl) ?_
    refine lv_iload_n hx hb dX5_change_69 rfl (lv_at hl 0 rfl) ?_
    refine lv_aload_n hx hb dX5_change_70 rfl (lv_at hl 1 rfl) ?_
    refine g_get F hK hP inA5 (oT z) (wC_T hz) rfl 0 (by decide) wd_93 (v := .ref (b + 1)) rfl dX5_change_71 ?_
    refine lv_iload_n hx hb dX5_change_74 rfl (lv_at hl 2 rfl) ?_
    obtain ⟨v75, q75, hf⟩ := cl_some hf
    refine g_calli F hK hP hS [.int x1] (c_X1_targetOf l D cI cO b S x1 v75 q75) wd_453 wd_454 wd_455 wd_2 wd_456 wC_G rfl hd_X1_targetOf rfl rfl ⟨Nat.le_of_ble_eq_true rfl, Nat.le_of_ble_eq_true rfl⟩ rfl hl (rest := [.int v5, .ref (b + (oT z))]) rfl (Nat.le_of_ble_eq_true rfl) dX5_change_75 ⟨Nat.le_of_ble_eq_true rfl, Nat.le_of_ble_eq_true rfl⟩ (fun H locs hP hS => ?_)
    refine lv_aload_n hx hb dX5_change_78 rfl (lv_at hl 1 rfl) ?_
    refine g_get F hK hP inA5 (oT z) (wC_T hz) rfl 0 (by decide) wd_93 (v := .ref (b + 1)) rfl dX5_change_79 ?_
    refine lv_iload_n hx hb dX5_change_82 rfl (lv_at hl 2 rfl) ?_
    obtain ⟨v83, q83, hf⟩ := cl_some hf
    refine g_calli F hK hP hS [.int x1] (c_X1_stampOf l D cI cO b S x1 v83 q83) wd_457 wd_458 wd_459 wd_2 wd_460 wC_G rfl hd_X1_stampOf rfl rfl ⟨Nat.le_of_ble_eq_true rfl, Nat.le_of_ble_eq_true rfl⟩ rfl hl (rest := [.int v75, .int v5, .ref (b + (oT z))]) rfl (Nat.le_of_ble_eq_true rfl) dX5_change_83 ⟨Nat.le_of_ble_eq_true rfl, Nat.le_of_ble_eq_true rfl⟩ (fun H locs hP hS => ?_)
    obtain ⟨S_86, q86, hf⟩ := cl_some hf
    refine g_callv F hK hP hS [.int v5, .int v75, .int v83] (c_X5_bringNote l D cI cO b z hz S v5 v75 v83 S_86 q86) wd_461 wd_463 wp_8 wd_6 wd_464 (wC_T hz) rfl hd_X5_bringNote rfl rfl ⟨Nat.le_of_ble_eq_true rfl, Nat.le_of_ble_eq_true rfl⟩ rfl hl (rest := []) rfl (Nat.le_of_ble_eq_true rfl) dX5_change_86 ⟨Nat.le_of_ble_eq_true rfl, Nat.le_of_ble_eq_true rfl⟩ (fun H locs hP hS => ?_)
    refine lv_goto (tgt := 92) hx hb dX5_change_89 (by decide) ?_
    exact g_vret F hr hlocks hQ hK hP hS (Option.some.inj hf) dX5_change_92
  replace hf := ite_f q17_3 hf
  refine lv_tableOut (tgt := 92) hx hb dX5_change_17 (sw_out4 q17_0 q17_1 q17_2 q17_3) (by decide) ?_
  exact g_vret F hr hlocks hQ hK hP hS (Option.some.inj hf) dX5_change_92
abbrev rm_X4_learn : Room := { frames := 4, cells := 0, slots := 0, locals := 90 }
theorem hd_X4_learn : yX4_learn.cls = RX4 ∧ yX4_learn.cls ≠ "java/lang/invoke/MethodHandle" ∧ yX4_learn.cls ≠ "java/lang/invoke/VarHandle" ∧ (parseMethodDescriptor yX4_learn.desc).map (fun d => d.parameters.length) = some 1 := by decide +kernel
set_option maxRecDepth 100000 in
set_option maxHeartbeats 4000000 in
theorem c_X4_learn (l : Launch) (D : va_G) (cI cO : ClassId) (b : Nat) (z : Nat) (hz : z < 4) (S : St) (x1 : Int32) (S1 : St) (hf : f_X4_learn S z x1 = some S1) : Met l yX4_learn (Cond.code yX4_learn cX4_learn 2 none :: wsAll) rm_X4_learn (PX D (wC cI cO b) (tyC cI cO) S [.ref (b + (oS z)), .int x1]) (Qv D (wC cI cO b) (tyC cI cO) (AC b) S1) 0 0 (AC b) := by
  unfold f_X4_learn at hf
  refine g_met RX4 (by decide +kernel) (Nat.le_of_ble_eq_true rfl) rfl ?_
  intro p e s m args below meth c ls Q F hr hlocks hK hP hl hQ
  have hx := F.1
  have hb := F.2.1
  have hS : va_S (AC b) s.heap s.heap [] := va_S.rf
  have hl : lv_has ls 2 [(0, .ref (b + (oS z))), (1, .int x1)] := hl
  refine lv_aload_n hx hb dX4_learn_0 rfl (lv_at hl 0 rfl) ?_
  refine g_get F hK hP inA4 (oS z) (wC_S hz) rfl 4 (by decide) wd_148 (v := .ref (b + (oS z + 3))) rfl dX4_learn_1 ?_
  refine lv_iload_n hx hb dX4_learn_4 rfl (lv_at hl 1 rfl) ?_
  refine lv_aload_n hx hb dX4_learn_5 rfl (lv_at hl 0 rfl) ?_
  refine g_get F hK hP inA4 (oS z) (wC_S hz) rfl 3 (by decide) wd_147 (v := .ref (b + (oS z + 1))) rfl dX4_learn_6 ?_
  obtain ⟨v9, q9, hf⟩ := cl_some hf
  refine g_calli F hK hP hS [] (c_X2_size l D cI cO b (oS z + 1) (nKS _ hz).1 S v9 q9) wd_418 wd_203 wd_204 wd_3 wd_205 (wC_N (nKS _ hz).1) rfl hd_X2_size rfl rfl ⟨Nat.le_of_ble_eq_true rfl, Nat.le_of_ble_eq_true rfl⟩ rfl hl (rest := [.int x1, .ref (b + (oS z + 3))]) rfl (Nat.le_of_ble_eq_true rfl) dX4_learn_9 ⟨Nat.le_of_ble_eq_true rfl, Nat.le_of_ble_eq_true rfl⟩ (fun H locs hP hS => ?_)
  obtain ⟨S_12, q12, hf⟩ := cl_some hf
  refine g_callv F hK hP hS [.int x1, .int v9] (c_X2_put l D cI cO b (oS z + 3) (nKS _ hz).2 S x1 v9 S_12 q12) wd_419 wd_403 wd_404 wd_3 wd_405 (wC_N (nKS _ hz).2) rfl hd_X2_put rfl rfl ⟨Nat.le_of_ble_eq_true rfl, Nat.le_of_ble_eq_true rfl⟩ rfl hl (rest := []) rfl (Nat.le_of_ble_eq_true rfl) dX4_learn_12 ⟨Nat.le_of_ble_eq_true rfl, Nat.le_of_ble_eq_true rfl⟩ (fun H locs hP hS => ?_)
  refine lv_aload_n hx hb dX4_learn_15 rfl (lv_at hl 0 rfl) ?_
  refine g_get F hK hP inA4 (oS z) (wC_S hz) rfl 3 (by decide) wd_147 (v := .ref (b + (oS z + 1))) rfl dX4_learn_16 ?_
  refine lv_iload_n hx hb dX4_learn_19 rfl (lv_at hl 1 rfl) ?_
  obtain ⟨S_20, q20, hf⟩ := cl_some hf
  refine g_callv F hK hP hS [.int x1] (c_X2_add l D cI cO b (oS z + 1) (nKS _ hz).1 S_12 x1 S_20 q20) wd_420 wd_394 wd_395 wd_3 wd_396 (wC_N (nKS _ hz).1) rfl hd_X2_add rfl rfl ⟨Nat.le_of_ble_eq_true rfl, Nat.le_of_ble_eq_true rfl⟩ rfl hl (rest := []) rfl (Nat.le_of_ble_eq_true rfl) dX4_learn_20 ⟨Nat.le_of_ble_eq_true rfl, Nat.le_of_ble_eq_true rfl⟩ (fun H locs hP hS => ?_)
  refine lv_aload_n hx hb dX4_learn_23 rfl (lv_at hl 0 rfl) ?_
  refine g_get F hK hP inA4 (oS z) (wC_S hz) rfl 0 (by decide) wd_142 (v := .ref (b + (oT z))) rfl dX4_learn_24 ?_
  refine lv_iload_n hx hb dX4_learn_27 rfl (lv_at hl 1 rfl) ?_
  obtain ⟨S_28, q28, hf⟩ := cl_some hf
  refine g_callv F hK hP hS [.int x1] (c_X5_change l D cI cO b z hz S_20 x1 S_28 q28) wd_421 wd_422 wd_423 wd_6 wd_424 (wC_T hz) rfl hd_X5_change rfl rfl ⟨Nat.le_of_ble_eq_true rfl, Nat.le_of_ble_eq_true rfl⟩ rfl hl (rest := []) rfl (Nat.le_of_ble_eq_true rfl) dX4_learn_28 ⟨Nat.le_of_ble_eq_true rfl, Nat.le_of_ble_eq_true rfl⟩ (fun H locs hP hS => ?_)
  exact g_vret F hr hlocks hQ hK hP hS (Option.some.inj hf) dX4_learn_31
abbrev rm_X4_take : Room := { frames := 5, cells := 0, slots := 0, locals := 111 }
theorem hd_X4_take : yX4_take.cls = RX4 ∧ yX4_take.cls ≠ "java/lang/invoke/MethodHandle" ∧ yX4_take.cls ≠ "java/lang/invoke/VarHandle" ∧ (parseMethodDescriptor yX4_take.desc).map (fun d => d.parameters.length) = some 1 := by decide +kernel
set_option maxRecDepth 100000 in
set_option maxHeartbeats 4000000 in
theorem c_X4_take (l : Launch) (D : va_G) (cI cO : ClassId) (b : Nat) (z : Nat) (hz : z < 4) (S : St) (x1 : Int32) (S1 : St) (hf : f_X4_take S z x1 = some S1) : Met l yX4_take (Cond.code yX4_take cX4_take 2 none :: wsAll) rm_X4_take (PX D (wC cI cO b) (tyC cI cO) S [.ref (b + (oS z)), .int x1]) (Qv D (wC cI cO b) (tyC cI cO) (AC b) S1) 0 0 (AC b) := by
  unfold f_X4_take at hf
  refine g_met RX4 (by decide +kernel) (Nat.le_of_ble_eq_true rfl) rfl ?_
  intro p e s m args below meth c ls Q F hr hlocks hK hP hl hQ
  have hx := F.1
  have hb := F.2.1
  have hS : va_S (AC b) s.heap s.heap [] := va_S.rf
  have hl : lv_has ls 2 [(0, .ref (b + (oS z))), (1, .int x1)] := hl
  refine lv_aload_n hx hb dX4_take_0 rfl (lv_at hl 0 rfl) ?_
  refine lv_iload_n hx hb dX4_take_1 rfl (lv_at hl 1 rfl) ?_
  obtain ⟨S_2, q2, hf⟩ := cl_some hf
  refine g_callv F hK hP hS [.int x1] (c_X4_learn l D cI cO b z hz S x1 S_2 q2) wd_414 wd_416 wp_6 wd_5 wd_417 (wC_S hz) rfl hd_X4_learn rfl rfl ⟨Nat.le_of_ble_eq_true rfl, Nat.le_of_ble_eq_true rfl⟩ rfl hl (rest := []) rfl (Nat.le_of_ble_eq_true rfl) dX4_take_2 ⟨Nat.le_of_ble_eq_true rfl, Nat.le_of_ble_eq_true rfl⟩ (fun H locs hP hS => ?_)
  refine lv_aload_n hx hb dX4_take_5 rfl (lv_at hl 0 rfl) ?_
  refine g_get F hK hP inA4 (oS z) (wC_S hz) rfl 1 (by decide) wd_144 (v := .ref (b + (oL z))) rfl dX4_take_6 ?_
  obtain ⟨S_9, q9, hf⟩ := cl_some hf
  refine g_callv F hK hP hS [] (c_X0_layAnew l D cI cO b z hz S_2 S_9 q9) wd_465 wd_466 wd_467 wd_7 wd_468 (wC_L hz) rfl hd_X0_layAnew rfl rfl ⟨Nat.le_of_ble_eq_true rfl, Nat.le_of_ble_eq_true rfl⟩ rfl hl (rest := []) rfl (Nat.le_of_ble_eq_true rfl) dX4_take_9 ⟨Nat.le_of_ble_eq_true rfl, Nat.le_of_ble_eq_true rfl⟩ (fun H locs hP hS => ?_)
  exact g_vret F hr hlocks hQ hK hP hS (Option.some.inj hf) dX4_take_12
abbrev rm_X4_takeAllOf : Room := { frames := 5, cells := 0, slots := 0, locals := 111 }
theorem hd_X4_takeAllOf : yX4_takeAllOf.cls = RX4 ∧ yX4_takeAllOf.cls ≠ "java/lang/invoke/MethodHandle" ∧ yX4_takeAllOf.cls ≠ "java/lang/invoke/VarHandle" ∧ (parseMethodDescriptor yX4_takeAllOf.desc).map (fun d => d.parameters.length) = some 1 := by decide +kernel
set_option maxRecDepth 100000 in
set_option maxHeartbeats 4000000 in
theorem c_X4_takeAllOf (l : Launch) (D : va_G) (cI cO : ClassId) (b : Nat) (z : Nat) (hz : z < 4) (S : St) (z1 : Nat) (hz1 : z1 < 4) (r : Int32) (S1 : St) (hf : f_X4_takeAllOf S z z1 = some (r, S1)) : Met l yX4_takeAllOf (Cond.code yX4_takeAllOf cX4_takeAllOf 5 (some .int) :: wsAll) rm_X4_takeAllOf (PX D (wC cI cO b) (tyC cI cO) S [.ref (b + (oS z)), .ref (b + (oS z1))]) (Qi D (wC cI cO b) (tyC cI cO) (AC b) r S1) 0 0 (AC b) := by
  unfold f_X4_takeAllOf at hf
  refine g_met RX4 (by decide +kernel) (Nat.le_of_ble_eq_true rfl) rfl ?_
  intro p e s m args below meth c ls Q F hr hlocks hK hP hl hQ
  have hx := F.1
  have hb := F.2.1
  have hS : va_S (AC b) s.heap s.heap [] := va_S.rf
  have hl : lv_has ls 5 [(0, .ref (b + (oS z))), (1, .ref (b + (oS z1)))] := hl
  refine lv_aload_n hx hb dX4_takeAllOf_0 rfl (lv_at hl 0 rfl) ?_
  refine g_get F hK hP inA4 (oS z) (wC_S hz) rfl 3 (by decide) wd_147 (v := .ref (b + (oS z + 1))) rfl dX4_takeAllOf_1 ?_
  obtain ⟨v4, q4, hf⟩ := cl_some hf
  refine g_calli F hK hP hS [] (c_X2_size l D cI cO b (oS z + 1) (nKS _ hz).1 S v4 q4) wd_418 wd_203 wd_204 wd_3 wd_205 (wC_N (nKS _ hz).1) rfl hd_X2_size rfl rfl ⟨Nat.le_of_ble_eq_true rfl, Nat.le_of_ble_eq_true rfl⟩ rfl hl (rest := []) rfl (Nat.le_of_ble_eq_true rfl) dX4_takeAllOf_4 ⟨Nat.le_of_ble_eq_true rfl, Nat.le_of_ble_eq_true rfl⟩ (fun H locs hP hS => ?_)
  refine lv_istore_n (lv' := [(2, .int v4), (0, .ref (b + (oS z))), (1, .ref (b + (oS z1)))]) hx hb dX4_takeAllOf_7 rfl hl (by decide) rfl (fun ls hl => ?_)
  refine lv_iconst (v := 0) hx hb dX4_takeAllOf_8 (by decide) ?_
  refine lv_istore_n (lv' := [(3, .int (0 : Int32)), (2, .int v4), (0, .ref (b + (oS z))), (1, .ref (b + (oS z1)))]) hx hb dX4_takeAllOf_9 rfl hl (by decide) rfl (fun ls hl => ?_)
  refine Lp2_ind (P := fun (x3_10 : Int32) (S_10 : St) => ∀ (H : Heap) (locs : List Loc) (ls : Array Slot), va_P D vwCl ((wC cI cO b) S_10) H → va_S (AC b) s.heap H locs → lv_has ls 5 [(0, .ref (b + (oS z))), (1, .ref (b + (oS z1))), (2, .int v4), (3, .int x3_10)] → W p l e rm_X4_takeAllOf s m args below meth c H locs 0 0 Q (F0 m 10 ls [])) ?_ _ _ _ hf _ _ _ hP hS (lv_sub hl [2, 3, 1, 0] rfl)
  clear hf hP hS hl
  intro nx10 x3_10 S_10 ih10 hf H locs ls hP hS hl
  refine lv_iload_n hx hb dX4_takeAllOf_10 rfl (lv_at hl 3 rfl) ?_
  refine lv_aload_n hx hb dX4_takeAllOf_11 rfl (lv_at hl 1 rfl) ?_
  refine g_get F hK hP inA4 (oS z1) (wC_S hz1) rfl 3 (by decide) wd_147 (v := .ref (b + (oS z1 + 1))) rfl dX4_takeAllOf_12 ?_
  obtain ⟨v15, q15, hf⟩ := cl_some hf
  refine g_calli F hK hP hS [] (c_X2_size l D cI cO b (oS z1 + 1) (nKS _ hz1).1 S_10 v15 q15) wd_418 wd_203 wd_204 wd_3 wd_205 (wC_N (nKS _ hz1).1) rfl hd_X2_size rfl rfl ⟨Nat.le_of_ble_eq_true rfl, Nat.le_of_ble_eq_true rfl⟩ rfl hl (rest := [.int x3_10]) rfl (Nat.le_of_ble_eq_true rfl) dX4_takeAllOf_15 ⟨Nat.le_of_ble_eq_true rfl, Nat.le_of_ble_eq_true rfl⟩ (fun H locs hP hS => ?_)
  refine lv_icmp_ge (tgt := 56) hx hb dX4_takeAllOf_18 (by decide) (fun q => ?_) (fun q => ?_)
  · replace hf := ite_t q hf
    refine lv_aload_n hx hb dX4_takeAllOf_56 rfl (lv_at hl 0 rfl) ?_
    refine lv_aload_n hx hb dX4_takeAllOf_57 rfl (lv_at hl 0 rfl) ?_
    refine g_get F hK hP inA4 (oS z) (wC_S hz) rfl 5 (by decide) wd_149 (v := .int (gi S_10 (oS z))) rfl dX4_takeAllOf_58 ?_
    refine lv_aload_n hx hb dX4_takeAllOf_61 rfl (lv_at hl 1 rfl) ?_
    refine g_get F hK hP inA4 (oS z1) (wC_S hz1) rfl 5 (by decide) wd_149 (v := .int (gi S_10 (oS z1))) rfl dX4_takeAllOf_62 ?_
    refine va_mmax hx hb (F.2.2.1.trans hl.1.symm) F.2.2.2.1 (F.2.2.2.2 _ (List.mem_cons_of_mem _ wd_600)) (F.2.2.2.2 _ (List.mem_cons_of_mem _ wd_38)) (F.2.2.2.2 _ (List.mem_cons_of_mem _ wd_4)) (F.2.2.2.2 _ (List.mem_cons_of_mem _ wd_max)) (Nat.le_of_ble_eq_true rfl) (Nat.le_of_ble_eq_true rfl) (Nat.zero_le _) (Nat.zero_le _) dX4_takeAllOf_65 ?_
    obtain ⟨S_68, eS_68, hf⟩ := lt_some hf
    refine g_puti (S1 := S_68) F hK hP wC_D hS inA4 tyX4 tyX4_ok nmX4 (oS z) (wC_S hz) rfl 5 (by decide) wd_149 rfl (by decide +kernel) (Nat.le_of_ble_eq_true rfl) (by rw [eS_68]; exact wC_sS hz) dX4_takeAllOf_68 (fun H locs hP hS => ?_)
    refine lv_aload_n hx hb dX4_takeAllOf_71 rfl (lv_at hl 0 rfl) ?_
    refine g_get F hK hP inA4 (oS z) (wC_S hz) rfl 1 (by decide) wd_144 (v := .ref (b + (oL z))) rfl dX4_takeAllOf_72 ?_
    obtain ⟨S_75, q75, hf⟩ := cl_some hf
    refine g_callv F hK hP hS [] (c_X0_layAnew l D cI cO b z hz S_68 S_75 q75) wd_465 wd_466 wd_467 wd_7 wd_468 (wC_L hz) rfl hd_X0_layAnew rfl rfl ⟨Nat.le_of_ble_eq_true rfl, Nat.le_of_ble_eq_true rfl⟩ rfl hl (rest := []) rfl (Nat.le_of_ble_eq_true rfl) dX4_takeAllOf_75 ⟨Nat.le_of_ble_eq_true rfl, Nat.le_of_ble_eq_true rfl⟩ (fun H locs hP hS => ?_)
    refine lv_aload_n hx hb dX4_takeAllOf_78 rfl (lv_at hl 0 rfl) ?_
    refine g_get F hK hP inA4 (oS z) (wC_S hz) rfl 3 (by decide) wd_147 (v := .ref (b + (oS z + 1))) rfl dX4_takeAllOf_79 ?_
    obtain ⟨v82, q82, hf⟩ := cl_some hf
    refine g_calli F hK hP hS [] (c_X2_size l D cI cO b (oS z + 1) (nKS _ hz).1 S_75 v82 q82) wd_418 wd_203 wd_204 wd_3 wd_205 (wC_N (nKS _ hz).1) rfl hd_X2_size rfl rfl ⟨Nat.le_of_ble_eq_true rfl, Nat.le_of_ble_eq_true rfl⟩ rfl hl (rest := []) rfl (Nat.le_of_ble_eq_true rfl) dX4_takeAllOf_82 ⟨Nat.le_of_ble_eq_true rfl, Nat.le_of_ble_eq_true rfl⟩ (fun H locs hP hS => ?_)
    refine lv_iload_n hx hb dX4_takeAllOf_85 rfl (lv_at hl 2 rfl) ?_
    refine lv_isub hx hb dX4_takeAllOf_86 ?_
    exact g_iret F hr hlocks hQ hK hP hS (Prod.mk.inj (Option.some.inj hf)).1 (Prod.mk.inj (Option.some.inj hf)).2 dX4_takeAllOf_87
  · replace hf := ite_f q hf
    refine lv_aload_n hx hb dX4_takeAllOf_21 rfl (lv_at hl 1 rfl) ?_
    refine g_get F hK hP inA4 (oS z1) (wC_S hz1) rfl 3 (by decide) wd_147 (v := .ref (b + (oS z1 + 1))) rfl dX4_takeAllOf_22 ?_
    refine lv_iload_n hx hb dX4_takeAllOf_25 rfl (lv_at hl 3 rfl) ?_
    obtain ⟨v26, q26, hf⟩ := cl_some hf
    refine g_calli F hK hP hS [.int x3_10] (c_X2_at l D cI cO b (oS z1 + 1) (nKS _ hz1).1 S_10 x3_10 v26 q26) wd_599 wd_232 wd_233 wd_3 wd_234 (wC_N (nKS _ hz1).1) rfl hd_X2_at rfl rfl ⟨Nat.le_of_ble_eq_true rfl, Nat.le_of_ble_eq_true rfl⟩ rfl hl (rest := []) rfl (Nat.le_of_ble_eq_true rfl) dX4_takeAllOf_26 ⟨Nat.le_of_ble_eq_true rfl, Nat.le_of_ble_eq_true rfl⟩ (fun H locs hP hS => ?_)
    refine lv_istore (lv' := [(4, .int v26), (0, .ref (b + (oS z))), (1, .ref (b + (oS z1))), (2, .int v4), (3, .int x3_10)]) hx hb dX4_takeAllOf_29 hl (by decide) rfl (fun ls hl => ?_)
    refine lv_aload_n hx hb dX4_takeAllOf_31 rfl (lv_at hl 1 rfl) ?_
    refine g_get F hK hP inA4 (oS z) (wC_S hz) rfl 4 (by decide) wd_148 (v := .ref (b + (oS z + 3))) rfl dX4_takeAllOf_32 ?_
    refine lv_iload hx hb dX4_takeAllOf_35 (lv_at hl 0 rfl) ?_
    obtain ⟨v37, q37, hf⟩ := cl_some hf
    refine g_calli F hK hP hS [.int v26] (c_X2_at l D cI cO b (oS z + 3) (nKS _ hz).2 S_10 v26 v37 q37) wd_599 wd_232 wd_233 wd_3 wd_234 (wC_N (nKS _ hz).2) rfl hd_X2_at rfl rfl ⟨Nat.le_of_ble_eq_true rfl, Nat.le_of_ble_eq_true rfl⟩ rfl hl (rest := []) rfl (Nat.le_of_ble_eq_true rfl) dX4_takeAllOf_37 ⟨Nat.le_of_ble_eq_true rfl, Nat.le_of_ble_eq_true rfl⟩ (fun H locs hP hS => ?_)
    refine lv_iconst (v := -1) hx hb dX4_takeAllOf_40 (by decide) ?_
    obtain ⟨J50, eJ50, hf⟩ := jn_some hf
    have kJ50 : ∀ (S_50 : St) (H : Heap) (locs : List Loc) (ls : Array Slot), J50 S_50 = some (r, S1) → va_P D vwCl ((wC cI cO b) S_50) H → va_S (AC b) s.heap H locs → lv_has ls 5 [(0, .ref (b + (oS z))), (1, .ref (b + (oS z1))), (2, .int v4), (3, .int x3_10)] → W p l e rm_X4_takeAllOf s m args below meth c H locs 0 0 Q (F0 m 50 ls []) := by
      intro S_50 H locs ls hf hP hS hl
      rw [eJ50] at hf
      obtain ⟨x3_50, ex3_50, hf⟩ := lt_some hf
      refine lv_iinc (v := x3_50) (lv' := [(3, .int x3_50), (0, .ref (b + (oS z))), (1, .ref (b + (oS z1))), (2, .int v4)]) hx hb dX4_takeAllOf_50 hl (k := 3) rfl (by rw [ex3_50]; rfl) (by decide) rfl (fun ls hl => ?_)
      refine lv_goto (tgt := 10) hx hb dX4_takeAllOf_53 (by decide) ?_
      exact ih10 _ _ hf _ _ _ hP hS (lv_sub hl [1, 2, 3, 0] rfl)
    clear eJ50
    refine lv_icmp_ne (tgt := 50) hx hb dX4_takeAllOf_41 (by decide) (fun q => ?_) (fun q => ?_)
    · replace hf := ite_t q hf
      exact kJ50 _ _ _ _ hf hP hS (lv_sub hl [1, 2, 3, 4] rfl)
    · replace hf := ite_f (fun h => h q) hf
      refine lv_aload_n hx hb dX4_takeAllOf_44 rfl (lv_at hl 1 rfl) ?_
      refine lv_iload hx hb dX4_takeAllOf_45 (lv_at hl 0 rfl) ?_
      obtain ⟨S_47, q47, hf⟩ := cl_some hf
      refine g_callv F hK hP hS [.int v26] (c_X4_learn l D cI cO b z hz S_10 v26 S_47 q47) wd_414 wd_416 wp_6 wd_5 wd_417 (wC_S hz) rfl hd_X4_learn rfl rfl ⟨Nat.le_of_ble_eq_true rfl, Nat.le_of_ble_eq_true rfl⟩ rfl hl (rest := []) rfl (Nat.le_of_ble_eq_true rfl) dX4_takeAllOf_47 ⟨Nat.le_of_ble_eq_true rfl, Nat.le_of_ble_eq_true rfl⟩ (fun H locs hP hS => ?_)
      exact kJ50 _ _ _ _ hf hP hS (lv_sub hl [1, 2, 3, 4] rfl)
abbrev rm_X4_deedCount : Room := { frames := 1, cells := 0, slots := 0, locals := 20 }
theorem hd_X4_deedCount : yX4_deedCount.cls = RX4 ∧ yX4_deedCount.cls ≠ "java/lang/invoke/MethodHandle" ∧ yX4_deedCount.cls ≠ "java/lang/invoke/VarHandle" ∧ (parseMethodDescriptor yX4_deedCount.desc).map (fun d => d.parameters.length) = some 0 := by decide +kernel
set_option maxRecDepth 100000 in
set_option maxHeartbeats 4000000 in
theorem c_X4_deedCount (l : Launch) (D : va_G) (cI cO : ClassId) (b : Nat) (z : Nat) (hz : z < 4) (S : St) (r : Int32) (hf : f_X4_deedCount S z = some r) : Met l yX4_deedCount (Cond.code yX4_deedCount cX4_deedCount 1 (some .int) :: wsAll) rm_X4_deedCount (PX D (wC cI cO b) (tyC cI cO) S [.ref (b + (oS z))]) (Qi D (wC cI cO b) (tyC cI cO) (AC b) r S) 0 0 (AC b) := by
  unfold f_X4_deedCount at hf
  refine g_met RX4 (by decide +kernel) (Nat.le_of_ble_eq_true rfl) rfl ?_
  intro p e s m args below meth c ls Q F hr hlocks hK hP hl hQ
  have hx := F.1
  have hb := F.2.1
  have hS : va_S (AC b) s.heap s.heap [] := va_S.rf
  have hl : lv_has ls 1 [(0, .ref (b + (oS z)))] := hl
  refine lv_aload_n hx hb dX4_deedCount_0 rfl (lv_at hl 0 rfl) ?_
  refine g_get F hK hP inA4 (oS z) (wC_S hz) rfl 3 (by decide) wd_147 (v := .ref (b + (oS z + 1))) rfl dX4_deedCount_1 ?_
  obtain ⟨v4, q4, hf⟩ := cl_some hf
  refine g_calli F hK hP hS [] (c_X2_size l D cI cO b (oS z + 1) (nKS _ hz).1 S v4 q4) wd_418 wd_203 wd_204 wd_3 wd_205 (wC_N (nKS _ hz).1) rfl hd_X2_size rfl rfl ⟨Nat.le_of_ble_eq_true rfl, Nat.le_of_ble_eq_true rfl⟩ rfl hl (rest := []) rfl (Nat.le_of_ble_eq_true rfl) dX4_deedCount_4 ⟨Nat.le_of_ble_eq_true rfl, Nat.le_of_ble_eq_true rfl⟩ (fun H locs hP hS => ?_)
  exact g_iret F hr hlocks hQ hK hP hS (Option.some.inj hf) rfl dX4_deedCount_7
abbrev rm_X5_knowsLine : Room := { frames := 1, cells := 0, slots := 0, locals := 21 }
theorem hd_X5_knowsLine : yX5_knowsLine.cls = RX5 ∧ yX5_knowsLine.cls ≠ "java/lang/invoke/MethodHandle" ∧ yX5_knowsLine.cls ≠ "java/lang/invoke/VarHandle" ∧ (parseMethodDescriptor yX5_knowsLine.desc).map (fun d => d.parameters.length) = some 1 := by decide +kernel
set_option maxRecDepth 100000 in
set_option maxHeartbeats 4000000 in
theorem c_X5_knowsLine (l : Launch) (D : va_G) (cI cO : ClassId) (b : Nat) (z : Nat) (hz : z < 4) (S : St) (x1 : Int32) (r : Int32) (hf : f_X5_knowsLine S z x1 = some r) : Met l yX5_knowsLine (Cond.code yX5_knowsLine cX5_knowsLine 2 (some .boolean) :: wsAll) rm_X5_knowsLine (PX D (wC cI cO b) (tyC cI cO) S [.ref (b + (oT z)), .int x1]) (Qi D (wC cI cO b) (tyC cI cO) (AC b) r S) 0 0 (AC b) := by
  unfold f_X5_knowsLine at hf
  refine g_met RX5 (by decide +kernel) (Nat.le_of_ble_eq_true rfl) rfl ?_
  intro p e s m args below meth c ls Q F hr hlocks hK hP hl hQ
  have hx := F.1
  have hb := F.2.1
  have hS : va_S (AC b) s.heap s.heap [] := va_S.rf
  have hl : lv_has ls 2 [(0, .ref (b + (oT z))), (1, .int x1)] := hl
  refine lv_aload_n hx hb dX5_knowsLine_0 rfl (lv_at hl 0 rfl) ?_
  refine g_get F hK hP inA5 (oT z) (wC_T hz) rfl 4 (by decide) wd_97 (v := .ref (b + (oT z + 7))) rfl dX5_knowsLine_1 ?_
  refine lv_iload_n hx hb dX5_knowsLine_4 rfl (lv_at hl 1 rfl) ?_
  obtain ⟨v5, q5, hf⟩ := cl_some hf
  refine g_calli F hK hP hS [.int x1] (c_X2_at l D cI cO b (oT z + 7) (nKT _ hz).2.2.2.1 S x1 v5 q5) wd_342 wd_232 wd_233 wd_3 wd_234 (wC_N (nKT _ hz).2.2.2.1) rfl hd_X2_at rfl rfl ⟨Nat.le_of_ble_eq_true rfl, Nat.le_of_ble_eq_true rfl⟩ rfl hl (rest := []) rfl (Nat.le_of_ble_eq_true rfl) dX5_knowsLine_5 ⟨Nat.le_of_ble_eq_true rfl, Nat.le_of_ble_eq_true rfl⟩ (fun H locs hP hS => ?_)
  refine lv_iconst (v := -1) hx hb dX5_knowsLine_8 (by decide) ?_
  refine lv_icmp_eq (tgt := 16) hx hb dX5_knowsLine_9 (by decide) (fun q => ?_) (fun q => ?_)
  · replace hf := ite_t q hf
    refine lv_iconst (v := 0) hx hb dX5_knowsLine_16 (by decide) ?_
    exact g_zret F hr hlocks hQ hK hP hS rfl (Option.some.inj hf) rfl dX5_knowsLine_17
  · replace hf := ite_f q hf
    refine lv_iconst (v := 1) hx hb dX5_knowsLine_12 (by decide) ?_
    refine lv_goto (tgt := 17) hx hb dX5_knowsLine_13 (by decide) ?_
    exact g_zret F hr hlocks hQ hK hP hS rfl (Option.some.inj hf) rfl dX5_knowsLine_17
abbrev rm_X5_placeByStamp : Room := { frames := 2, cells := 0, slots := 0, locals := 42 }
theorem hd_X5_placeByStamp : yX5_placeByStamp.cls = RX5 ∧ yX5_placeByStamp.cls ≠ "java/lang/invoke/MethodHandle" ∧ yX5_placeByStamp.cls ≠ "java/lang/invoke/VarHandle" ∧ (parseMethodDescriptor yX5_placeByStamp.desc).map (fun d => d.parameters.length) = some 1 := by decide +kernel
set_option maxRecDepth 100000 in
set_option maxHeartbeats 4000000 in
theorem c_X5_placeByStamp (l : Launch) (D : va_G) (cI cO : ClassId) (b : Nat) (z : Nat) (hz : z < 4) (S : St) (x1 : Int32) (r : Int32) (hf : f_X5_placeByStamp S z x1 = some r) : Met l yX5_placeByStamp (Cond.code yX5_placeByStamp cX5_placeByStamp 3 (some .int) :: wsAll) rm_X5_placeByStamp (PX D (wC cI cO b) (tyC cI cO) S [.ref (b + (oT z)), .int x1]) (Qi D (wC cI cO b) (tyC cI cO) (AC b) r S) 0 0 (AC b) := by
  unfold f_X5_placeByStamp at hf
  refine g_met RX5 (by decide +kernel) (Nat.le_of_ble_eq_true rfl) rfl ?_
  intro p e s m args below meth c ls Q F hr hlocks hK hP hl hQ
  have hx := F.1
  have hb := F.2.1
  have hS : va_S (AC b) s.heap s.heap [] := va_S.rf
  have hl : lv_has ls 3 [(0, .ref (b + (oT z))), (1, .int x1)] := hl
  refine lv_aload_n hx hb dX5_placeByStamp_0 rfl (lv_at hl 0 rfl) ?_
  refine g_get F hK hP inA5 (oT z) (wC_T hz) rfl 3 (by decide) wd_96 (v := .ref (b + (oT z + 5))) rfl dX5_placeByStamp_1 ?_
  obtain ⟨v4, q4, hf⟩ := cl_some hf
  refine g_calli F hK hP hS [] (c_X2_size l D cI cO b (oT z + 5) (nKT _ hz).2.2.1 S v4 q4) wd_450 wd_203 wd_204 wd_3 wd_205 (wC_N (nKT _ hz).2.2.1) rfl hd_X2_size rfl rfl ⟨Nat.le_of_ble_eq_true rfl, Nat.le_of_ble_eq_true rfl⟩ rfl hl (rest := []) rfl (Nat.le_of_ble_eq_true rfl) dX5_placeByStamp_4 ⟨Nat.le_of_ble_eq_true rfl, Nat.le_of_ble_eq_true rfl⟩ (fun H locs hP hS => ?_)
  refine lv_istore_n (lv' := [(2, .int v4), (0, .ref (b + (oT z))), (1, .int x1)]) hx hb dX5_placeByStamp_7 rfl hl (by decide) rfl (fun ls hl => ?_)
  refine Lp1_ind (P := fun (x2_8 : Int32) => ∀ (H : Heap) (locs : List Loc) (ls : Array Slot), va_P D vwCl ((wC cI cO b) S) H → va_S (AC b) s.heap H locs → lv_has ls 3 [(0, .ref (b + (oT z))), (1, .int x1), (2, .int x2_8)] → W p l e rm_X5_placeByStamp s m args below meth c H locs 0 0 Q (F0 m 8 ls [])) ?_ _ _ hf _ _ _ hP hS (lv_sub hl [1, 2, 0] rfl)
  clear hf hP hS hl
  intro nx8 x2_8 ih8 hf H locs ls hP hS hl
  refine lv_iload_n hx hb dX5_placeByStamp_8 rfl (lv_at hl 2 rfl) ?_
  refine lv_if_le (tgt := 39) hx hb dX5_placeByStamp_9 (by decide) (fun q => ?_) (fun q => ?_)
  · replace hf := ite_t q hf
    refine lv_iload_n hx hb dX5_placeByStamp_39 rfl (lv_at hl 2 rfl) ?_
    exact g_iret F hr hlocks hQ hK hP hS (Option.some.inj hf) rfl dX5_placeByStamp_40
  · replace hf := ite_f q hf
    refine lv_aload_n hx hb dX5_placeByStamp_12 rfl (lv_at hl 0 rfl) ?_
    refine g_get F hK hP inA5 (oT z) (wC_T hz) rfl 0 (by decide) wd_93 (v := .ref (b + 1)) rfl dX5_placeByStamp_13 ?_
    refine lv_aload_n hx hb dX5_placeByStamp_16 rfl (lv_at hl 0 rfl) ?_
    refine g_get F hK hP inA5 (oT z) (wC_T hz) rfl 3 (by decide) wd_96 (v := .ref (b + (oT z + 5))) rfl dX5_placeByStamp_17 ?_
    refine lv_iload_n hx hb dX5_placeByStamp_20 rfl (lv_at hl 2 rfl) ?_
    refine lv_iconst (v := 1) hx hb dX5_placeByStamp_21 (by decide) ?_
    refine lv_isub hx hb dX5_placeByStamp_22 ?_
    obtain ⟨v23, q23, hf⟩ := cl_some hf
    refine g_calli F hK hP hS [.int (x2_8 - (1 : Int32))] (c_X2_at l D cI cO b (oT z + 5) (nKT _ hz).2.2.1 S (x2_8 - (1 : Int32)) v23 q23) wd_342 wd_232 wd_233 wd_3 wd_234 (wC_N (nKT _ hz).2.2.1) rfl hd_X2_at rfl rfl ⟨Nat.le_of_ble_eq_true rfl, Nat.le_of_ble_eq_true rfl⟩ rfl hl (rest := [.ref (b + 1)]) rfl (Nat.le_of_ble_eq_true rfl) dX5_placeByStamp_23 ⟨Nat.le_of_ble_eq_true rfl, Nat.le_of_ble_eq_true rfl⟩ (fun H locs hP hS => ?_)
    obtain ⟨v26, q26, hf⟩ := cl_some hf
    refine g_calli F hK hP hS [.int v23] (c_X1_stampOfLine l D cI cO b S v23 v26 q26) wd_438 wd_439 wd_440 wd_2 wd_441 wC_G rfl hd_X1_stampOfLine rfl rfl ⟨Nat.le_of_ble_eq_true rfl, Nat.le_of_ble_eq_true rfl⟩ rfl hl (rest := []) rfl (Nat.le_of_ble_eq_true rfl) dX5_placeByStamp_26 ⟨Nat.le_of_ble_eq_true rfl, Nat.le_of_ble_eq_true rfl⟩ (fun H locs hP hS => ?_)
    refine lv_iload_n hx hb dX5_placeByStamp_29 rfl (lv_at hl 1 rfl) ?_
    refine lv_icmp_le (tgt := 39) hx hb dX5_placeByStamp_30 (by decide) (fun q => ?_) (fun q => ?_)
    · replace hf := ite_t q hf
      refine lv_iload_n hx hb dX5_placeByStamp_39 rfl (lv_at hl 2 rfl) ?_
      exact g_iret F hr hlocks hQ hK hP hS (Option.some.inj hf) rfl dX5_placeByStamp_40
    · replace hf := ite_f q hf
      obtain ⟨x2_33, ex2_33, hf⟩ := lt_some hf
      refine lv_iinc (v := x2_33) (lv' := [(2, .int x2_33), (0, .ref (b + (oT z))), (1, .int x1)]) hx hb dX5_placeByStamp_33 hl (k := 2) rfl (by rw [ex2_33]; rfl) (by decide) rfl (fun ls hl => ?_)
      refine lv_goto (tgt := 8) hx hb dX5_placeByStamp_36 (by decide) ?_
      exact ih8 _ hf _ _ _ hP hS (lv_sub hl [1, 2, 0] rfl)
abbrev rm_X5_sortByStamps : Room := { frames := 3, cells := 0, slots := 0, locals := 64 }
theorem hd_X5_sortByStamps : yX5_sortByStamps.cls = RX5 ∧ yX5_sortByStamps.cls ≠ "java/lang/invoke/MethodHandle" ∧ yX5_sortByStamps.cls ≠ "java/lang/invoke/VarHandle" ∧ (parseMethodDescriptor yX5_sortByStamps.desc).map (fun d => d.parameters.length) = some 0 := by decide +kernel
set_option maxRecDepth 100000 in
set_option maxHeartbeats 4000000 in
theorem c_X5_sortByStamps (l : Launch) (D : va_G) (cI cO : ClassId) (b : Nat) (z : Nat) (hz : z < 4) (S : St) (S1 : St) (hf : f_X5_sortByStamps S z = some S1) : Met l yX5_sortByStamps (Cond.code yX5_sortByStamps cX5_sortByStamps 2 none :: wsAll) rm_X5_sortByStamps (PX D (wC cI cO b) (tyC cI cO) S [.ref (b + (oT z))]) (Qv D (wC cI cO b) (tyC cI cO) (AC b) S1) 0 0 (AC b) := by
  unfold f_X5_sortByStamps at hf
  refine g_met RX5 (by decide +kernel) (Nat.le_of_ble_eq_true rfl) rfl ?_
  intro p e s m args below meth c ls Q F hr hlocks hK hP hl hQ
  have hx := F.1
  have hb := F.2.1
  have hS : va_S (AC b) s.heap s.heap [] := va_S.rf
  have hl : lv_has ls 2 [(0, .ref (b + (oT z)))] := hl
  refine lv_aload_n hx hb dX5_sortByStamps_0 rfl (lv_at hl 0 rfl) ?_
  refine g_get F hK hP inA5 (oT z) (wC_T hz) rfl 3 (by decide) wd_96 (v := .ref (b + (oT z + 5))) rfl dX5_sortByStamps_1 ?_
  obtain ⟨S_4, q4, hf⟩ := cl_some hf
  refine g_callv F hK hP hS [] (c_X2_clear l D cI cO b (oT z + 5) (nKT _ hz).2.2.1 S S_4 q4) wd_690 wd_474 wd_475 wd_3 wd_476 (wC_N (nKT _ hz).2.2.1) rfl hd_X2_clear rfl rfl ⟨Nat.le_of_ble_eq_true rfl, Nat.le_of_ble_eq_true rfl⟩ rfl hl (rest := []) rfl (Nat.le_of_ble_eq_true rfl) dX5_sortByStamps_4 ⟨Nat.le_of_ble_eq_true rfl, Nat.le_of_ble_eq_true rfl⟩ (fun H locs hP hS => ?_)
  refine lv_iconst (v := 0) hx hb dX5_sortByStamps_7 (by decide) ?_
  refine lv_istore_n (lv' := [(1, .int (0 : Int32)), (0, .ref (b + (oT z)))]) hx hb dX5_sortByStamps_8 rfl hl (by decide) rfl (fun ls hl => ?_)
  refine Lp2_ind (P := fun (x1_9 : Int32) (S_9 : St) => ∀ (H : Heap) (locs : List Loc) (ls : Array Slot), va_P D vwCl ((wC cI cO b) S_9) H → va_S (AC b) s.heap H locs → lv_has ls 2 [(0, .ref (b + (oT z))), (1, .int x1_9)] → W p l e rm_X5_sortByStamps s m args below meth c H locs 0 0 Q (F0 m 9 ls [])) ?_ _ _ _ hf _ _ _ hP hS (lv_sub hl [1, 0] rfl)
  clear hf hP hS hl
  intro nx9 x1_9 S_9 ih9 hf H locs ls hP hS hl
  refine lv_iload_n hx hb dX5_sortByStamps_9 rfl (lv_at hl 1 rfl) ?_
  refine lv_aload_n hx hb dX5_sortByStamps_10 rfl (lv_at hl 0 rfl) ?_
  refine g_get F hK hP inA5 (oT z) (wC_T hz) rfl 0 (by decide) wd_93 (v := .ref (b + 1)) rfl dX5_sortByStamps_11 ?_
  obtain ⟨v14, q14, hf⟩ := cl_some hf
  refine g_calli F hK hP hS [] (c_X1_lineCount l D cI cO b S_9 v14 q14) wd_691 wd_692 wd_693 wd_2 wd_694 wC_G rfl hd_X1_lineCount rfl rfl ⟨Nat.le_of_ble_eq_true rfl, Nat.le_of_ble_eq_true rfl⟩ rfl hl (rest := [.int x1_9]) rfl (Nat.le_of_ble_eq_true rfl) dX5_sortByStamps_14 ⟨Nat.le_of_ble_eq_true rfl, Nat.le_of_ble_eq_true rfl⟩ (fun H locs hP hS => ?_)
  refine lv_icmp_ge (tgt := 54) hx hb dX5_sortByStamps_17 (by decide) (fun q => ?_) (fun q => ?_)
  · replace hf := ite_t q hf
    exact g_vret F hr hlocks hQ hK hP hS (Option.some.inj hf) dX5_sortByStamps_54
  · replace hf := ite_f q hf
    refine lv_aload_n hx hb dX5_sortByStamps_20 rfl (lv_at hl 0 rfl) ?_
    refine lv_iload_n hx hb dX5_sortByStamps_21 rfl (lv_at hl 1 rfl) ?_
    obtain ⟨v22, q22, hf⟩ := cl_some hf
    refine g_calli F hK hP hS [.int x1_9] (c_X5_knowsLine l D cI cO b z hz S_9 x1_9 v22 q22) wd_695 wd_339 wd_340 wd_6 wd_341 (wC_T hz) rfl hd_X5_knowsLine rfl rfl ⟨Nat.le_of_ble_eq_true rfl, Nat.le_of_ble_eq_true rfl⟩ rfl hl (rest := []) rfl (Nat.le_of_ble_eq_true rfl) dX5_sortByStamps_22 ⟨Nat.le_of_ble_eq_true rfl, Nat.le_of_ble_eq_true rfl⟩ (fun H locs hP hS => ?_)
    obtain ⟨J48, eJ48, hf⟩ := jn_some hf
    have kJ48 : ∀ (S_48 : St) (H : Heap) (locs : List Loc) (ls : Array Slot), J48 S_48 = some S1 → va_P D vwCl ((wC cI cO b) S_48) H → va_S (AC b) s.heap H locs → lv_has ls 2 [(0, .ref (b + (oT z))), (1, .int x1_9)] → W p l e rm_X5_sortByStamps s m args below meth c H locs 0 0 Q (F0 m 48 ls []) := by
      intro S_48 H locs ls hf hP hS hl
      rw [eJ48] at hf
      obtain ⟨x1_48, ex1_48, hf⟩ := lt_some hf
      refine lv_iinc (v := x1_48) (lv' := [(1, .int x1_48), (0, .ref (b + (oT z)))]) hx hb dX5_sortByStamps_48 hl (k := 1) rfl (by rw [ex1_48]; rfl) (by decide) rfl (fun ls hl => ?_)
      refine lv_goto (tgt := 9) hx hb dX5_sortByStamps_51 (by decide) ?_
      exact ih9 _ _ hf _ _ _ hP hS (lv_sub hl [1, 0] rfl)
    clear eJ48
    refine lv_if_eq (tgt := 48) hx hb dX5_sortByStamps_25 (by decide) (fun q => ?_) (fun q => ?_)
    · replace hf := ite_t q hf
      exact kJ48 _ _ _ _ hf hP hS (lv_sub hl [0, 1] rfl)
    · replace hf := ite_f q hf
      refine lv_aload_n hx hb dX5_sortByStamps_28 rfl (lv_at hl 0 rfl) ?_
      refine g_get F hK hP inA5 (oT z) (wC_T hz) rfl 3 (by decide) wd_96 (v := .ref (b + (oT z + 5))) rfl dX5_sortByStamps_29 ?_
      refine lv_aload_n hx hb dX5_sortByStamps_32 rfl (lv_at hl 0 rfl) ?_
      refine lv_aload_n hx hb dX5_sortByStamps_33 rfl (lv_at hl 0 rfl) ?_
      refine g_get F hK hP inA5 (oT z) (wC_T hz) rfl 0 (by decide) wd_93 (v := .ref (b + 1)) rfl dX5_sortByStamps_34 ?_
      refine lv_iload_n hx hb dX5_sortByStamps_37 rfl (lv_at hl 1 rfl) ?_
      obtain ⟨v38, q38, hf⟩ := cl_some hf
      refine g_calli F hK hP hS [.int x1_9] (c_X1_stampOfLine l D cI cO b S_9 x1_9 v38 q38) wd_438 wd_439 wd_440 wd_2 wd_441 wC_G rfl hd_X1_stampOfLine rfl rfl ⟨Nat.le_of_ble_eq_true rfl, Nat.le_of_ble_eq_true rfl⟩ rfl hl (rest := [.ref (b + (oT z)), .ref (b + (oT z + 5))]) rfl (Nat.le_of_ble_eq_true rfl) dX5_sortByStamps_38 ⟨Nat.le_of_ble_eq_true rfl, Nat.le_of_ble_eq_true rfl⟩ (fun H locs hP hS => ?_)
      obtain ⟨v41, q41, hf⟩ := cl_some hf
      refine g_calli F hK hP hS [.int v38] (c_X5_placeByStamp l D cI cO b z hz S_9 v38 v41 q41) wd_696 wd_698 wp_20 wd_6 wd_699 (wC_T hz) rfl hd_X5_placeByStamp rfl rfl ⟨Nat.le_of_ble_eq_true rfl, Nat.le_of_ble_eq_true rfl⟩ rfl hl (rest := [.ref (b + (oT z + 5))]) rfl (Nat.le_of_ble_eq_true rfl) dX5_sortByStamps_41 ⟨Nat.le_of_ble_eq_true rfl, Nat.le_of_ble_eq_true rfl⟩ (fun H locs hP hS => ?_)
      refine lv_iload_n hx hb dX5_sortByStamps_44 rfl (lv_at hl 1 rfl) ?_
      obtain ⟨S_45, q45, hf⟩ := cl_some hf
      refine g_callv F hK hP hS [.int v41, .int x1_9] (c_X2_putBetween l D cI cO b (oT z + 5) (nKT _ hz).2.2.1 S_9 v41 x1_9 S_45 q45) wd_451 wd_398 wd_399 wd_3 wd_400 (wC_N (nKT _ hz).2.2.1) rfl hd_X2_putBetween rfl rfl ⟨Nat.le_of_ble_eq_true rfl, Nat.le_of_ble_eq_true rfl⟩ rfl hl (rest := []) rfl (Nat.le_of_ble_eq_true rfl) dX5_sortByStamps_45 ⟨Nat.le_of_ble_eq_true rfl, Nat.le_of_ble_eq_true rfl⟩ (fun H locs hP hS => ?_)
      exact kJ48 _ _ _ _ hf hP hS (lv_sub hl [0, 1] rfl)
abbrev rm_X5_putAllAnew : Room := { frames := 4, cells := 0, slots := 0, locals := 85 }
theorem hd_X5_putAllAnew : yX5_putAllAnew.cls = RX5 ∧ yX5_putAllAnew.cls ≠ "java/lang/invoke/MethodHandle" ∧ yX5_putAllAnew.cls ≠ "java/lang/invoke/VarHandle" ∧ (parseMethodDescriptor yX5_putAllAnew.desc).map (fun d => d.parameters.length) = some 0 := by decide +kernel
set_option maxRecDepth 100000 in
set_option maxHeartbeats 4000000 in
theorem c_X5_putAllAnew (l : Launch) (D : va_G) (cI cO : ClassId) (b : Nat) (z : Nat) (hz : z < 4) (S : St) (S1 : St) (hf : f_X5_putAllAnew S z = some S1) : Met l yX5_putAllAnew (Cond.code yX5_putAllAnew cX5_putAllAnew 3 none :: wsAll) rm_X5_putAllAnew (PX D (wC cI cO b) (tyC cI cO) S [.ref (b + (oT z))]) (Qv D (wC cI cO b) (tyC cI cO) (AC b) S1) 0 0 (AC b) := by
  unfold f_X5_putAllAnew at hf
  refine g_met RX5 (by decide +kernel) (Nat.le_of_ble_eq_true rfl) rfl ?_
  intro p e s m args below meth c ls Q F hr hlocks hK hP hl hQ
  have hx := F.1
  have hb := F.2.1
  have hS : va_S (AC b) s.heap s.heap [] := va_S.rf
  have hl : lv_has ls 3 [(0, .ref (b + (oT z)))] := hl
  refine lv_aload_n hx hb dX5_putAllAnew_0 rfl (lv_at hl 0 rfl) ?_
  obtain ⟨S_1, q1, hf⟩ := cl_some hf
  refine g_callv F hK hP hS [] (c_X5_sortByStamps l D cI cO b z hz S S_1 q1) wd_686 wd_688 wp_19 wd_6 wd_689 (wC_T hz) rfl hd_X5_sortByStamps rfl rfl ⟨Nat.le_of_ble_eq_true rfl, Nat.le_of_ble_eq_true rfl⟩ rfl hl (rest := []) rfl (Nat.le_of_ble_eq_true rfl) dX5_putAllAnew_1 ⟨Nat.le_of_ble_eq_true rfl, Nat.le_of_ble_eq_true rfl⟩ (fun H locs hP hS => ?_)
  refine lv_aload_n hx hb dX5_putAllAnew_4 rfl (lv_at hl 0 rfl) ?_
  refine g_get F hK hP inA5 (oT z) (wC_T hz) rfl 2 (by decide) wd_95 (v := .ref (b + (oT z + 3))) rfl dX5_putAllAnew_5 ?_
  obtain ⟨S_8, q8, hf⟩ := cl_some hf
  refine g_callv F hK hP hS [] (c_X2_clear l D cI cO b (oT z + 3) (nKT _ hz).2.1 S_1 S_8 q8) wd_690 wd_474 wd_475 wd_3 wd_476 (wC_N (nKT _ hz).2.1) rfl hd_X2_clear rfl rfl ⟨Nat.le_of_ble_eq_true rfl, Nat.le_of_ble_eq_true rfl⟩ rfl hl (rest := []) rfl (Nat.le_of_ble_eq_true rfl) dX5_putAllAnew_8 ⟨Nat.le_of_ble_eq_true rfl, Nat.le_of_ble_eq_true rfl⟩ (fun H locs hP hS => ?_)
  refine lv_iconst (v := 0) hx hb dX5_putAllAnew_11 (by decide) ?_
  refine lv_istore_n (lv' := [(1, .int (0 : Int32)), (0, .ref (b + (oT z)))]) hx hb dX5_putAllAnew_12 rfl hl (by decide) rfl (fun ls hl => ?_)
  refine Lp2_ind (P := fun (x1_13 : Int32) (S_13 : St) => ∀ (H : Heap) (locs : List Loc) (ls : Array Slot), va_P D vwCl ((wC cI cO b) S_13) H → va_S (AC b) s.heap H locs → lv_has ls 3 [(0, .ref (b + (oT z))), (1, .int x1_13)] → W p l e rm_X5_putAllAnew s m args below meth c H locs 0 0 Q (F0 m 13 ls [])) ?_ _ _ _ hf _ _ _ hP hS (lv_sub hl [1, 0] rfl)
  clear hf hP hS hl
  intro nx13 x1_13 S_13 ih13 hf H locs ls hP hS hl
  refine lv_iload_n hx hb dX5_putAllAnew_13 rfl (lv_at hl 1 rfl) ?_
  refine lv_aload_n hx hb dX5_putAllAnew_14 rfl (lv_at hl 0 rfl) ?_
  refine g_get F hK hP inA5 (oT z) (wC_T hz) rfl 3 (by decide) wd_96 (v := .ref (b + (oT z + 5))) rfl dX5_putAllAnew_15 ?_
  obtain ⟨v18, q18, hf⟩ := cl_some hf
  refine g_calli F hK hP hS [] (c_X2_size l D cI cO b (oT z + 5) (nKT _ hz).2.2.1 S_13 v18 q18) wd_450 wd_203 wd_204 wd_3 wd_205 (wC_N (nKT _ hz).2.2.1) rfl hd_X2_size rfl rfl ⟨Nat.le_of_ble_eq_true rfl, Nat.le_of_ble_eq_true rfl⟩ rfl hl (rest := [.int x1_13]) rfl (Nat.le_of_ble_eq_true rfl) dX5_putAllAnew_18 ⟨Nat.le_of_ble_eq_true rfl, Nat.le_of_ble_eq_true rfl⟩ (fun H locs hP hS => ?_)
  refine lv_icmp_ge (tgt := 64) hx hb dX5_putAllAnew_21 (by decide) (fun q => ?_) (fun q => ?_)
  · replace hf := ite_t q hf
    exact g_vret F hr hlocks hQ hK hP hS (Option.some.inj hf) dX5_putAllAnew_64
  · replace hf := ite_f q hf
    refine lv_aload_n hx hb dX5_putAllAnew_24 rfl (lv_at hl 0 rfl) ?_
    refine g_get F hK hP inA5 (oT z) (wC_T hz) rfl 3 (by decide) wd_96 (v := .ref (b + (oT z + 5))) rfl dX5_putAllAnew_25 ?_
    refine lv_iload_n hx hb dX5_putAllAnew_28 rfl (lv_at hl 1 rfl) ?_
    obtain ⟨v29, q29, hf⟩ := cl_some hf
    refine g_calli F hK hP hS [.int x1_13] (c_X2_at l D cI cO b (oT z + 5) (nKT _ hz).2.2.1 S_13 x1_13 v29 q29) wd_342 wd_232 wd_233 wd_3 wd_234 (wC_N (nKT _ hz).2.2.1) rfl hd_X2_at rfl rfl ⟨Nat.le_of_ble_eq_true rfl, Nat.le_of_ble_eq_true rfl⟩ rfl hl (rest := []) rfl (Nat.le_of_ble_eq_true rfl) dX5_putAllAnew_29 ⟨Nat.le_of_ble_eq_true rfl, Nat.le_of_ble_eq_true rfl⟩ (fun H locs hP hS => ?_)
    refine lv_istore_n (lv' := [(2, .int v29), (0, .ref (b + (oT z))), (1, .int x1_13)]) hx hb dX5_putAllAnew_32 rfl hl (by decide) rfl (fun ls hl => ?_)
    refine lv_aload_n hx hb dX5_putAllAnew_33 rfl (lv_at hl 1 rfl) ?_
    refine g_get F hK hP inA5 (oT z) (wC_T hz) rfl 2 (by decide) wd_95 (v := .ref (b + (oT z + 3))) rfl dX5_putAllAnew_34 ?_
    refine lv_aload_n hx hb dX5_putAllAnew_37 rfl (lv_at hl 1 rfl) ?_
    refine g_get F hK hP inA5 (oT z) (wC_T hz) rfl 2 (by decide) wd_95 (v := .ref (b + (oT z + 3))) rfl dX5_putAllAnew_38 ?_
    refine lv_aload_n hx hb dX5_putAllAnew_41 rfl (lv_at hl 1 rfl) ?_
    refine g_get F hK hP inA5 (oT z) (wC_T hz) rfl 0 (by decide) wd_93 (v := .ref (b + 1)) rfl dX5_putAllAnew_42 ?_
    refine lv_iload_n hx hb dX5_putAllAnew_45 rfl (lv_at hl 0 rfl) ?_
    obtain ⟨v46, q46, hf⟩ := cl_some hf
    refine g_calli F hK hP hS [.int v29] (c_X1_behindOf l D cI cO b S_13 v29 v46 q46) wd_442 wd_443 wd_444 wd_2 wd_445 wC_G rfl hd_X1_behindOf rfl rfl ⟨Nat.le_of_ble_eq_true rfl, Nat.le_of_ble_eq_true rfl⟩ rfl hl (rest := [.ref (b + (oT z + 3)), .ref (b + (oT z + 3))]) rfl (Nat.le_of_ble_eq_true rfl) dX5_putAllAnew_46 ⟨Nat.le_of_ble_eq_true rfl, Nat.le_of_ble_eq_true rfl⟩ (fun H locs hP hS => ?_)
    obtain ⟨v49, q49, hf⟩ := cl_some hf
    refine g_calli F hK hP hS [.int v46] (c_X2_placeOf l D cI cO b (oT z + 3) (nKT _ hz).2.1 S_13 v46 v49 q49) wd_446 wd_447 wd_448 wd_3 wd_449 (wC_N (nKT _ hz).2.1) rfl hd_X2_placeOf rfl rfl ⟨Nat.le_of_ble_eq_true rfl, Nat.le_of_ble_eq_true rfl⟩ rfl hl (rest := [.ref (b + (oT z + 3))]) rfl (Nat.le_of_ble_eq_true rfl) dX5_putAllAnew_49 ⟨Nat.le_of_ble_eq_true rfl, Nat.le_of_ble_eq_true rfl⟩ (fun H locs hP hS => ?_)
    refine lv_iconst (v := 1) hx hb dX5_putAllAnew_52 (by decide) ?_
    refine lv_iadd hx hb dX5_putAllAnew_53 ?_
    refine lv_iload_n hx hb dX5_putAllAnew_54 rfl (lv_at hl 0 rfl) ?_
    obtain ⟨S_55, q55, hf⟩ := cl_some hf
    refine g_callv F hK hP hS [.int (v49 + (1 : Int32)), .int v29] (c_X2_putBetween l D cI cO b (oT z + 3) (nKT _ hz).2.1 S_13 (v49 + (1 : Int32)) v29 S_55 q55) wd_451 wd_398 wd_399 wd_3 wd_400 (wC_N (nKT _ hz).2.1) rfl hd_X2_putBetween rfl rfl ⟨Nat.le_of_ble_eq_true rfl, Nat.le_of_ble_eq_true rfl⟩ rfl hl (rest := []) rfl (Nat.le_of_ble_eq_true rfl) dX5_putAllAnew_55 ⟨Nat.le_of_ble_eq_true rfl, Nat.le_of_ble_eq_true rfl⟩ (fun H locs hP hS => ?_)
    obtain ⟨x1_58, ex1_58, hf⟩ := lt_some hf
    refine lv_iinc (v := x1_58) (lv' := [(1, .int x1_58), (2, .int v29), (0, .ref (b + (oT z)))]) hx hb dX5_putAllAnew_58 hl (k := 2) rfl (by rw [ex1_58]; rfl) (by decide) rfl (fun ls hl => ?_)
    refine lv_goto (tgt := 13) hx hb dX5_putAllAnew_61 (by decide) ?_
    exact ih13 _ _ hf _ _ _ hP hS (lv_sub hl [2, 0] rfl)
abbrev rm_X5_findAnew : Room := { frames := 5, cells := 0, slots := 0, locals := 107 }
theorem hd_X5_findAnew : yX5_findAnew.cls = RX5 ∧ yX5_findAnew.cls ≠ "java/lang/invoke/MethodHandle" ∧ yX5_findAnew.cls ≠ "java/lang/invoke/VarHandle" ∧ (parseMethodDescriptor yX5_findAnew.desc).map (fun d => d.parameters.length) = some 1 := by decide +kernel
set_option maxRecDepth 100000 in
set_option maxHeartbeats 4000000 in
theorem c_X5_findAnew (l : Launch) (D : va_G) (cI cO : ClassId) (b : Nat) (z : Nat) (hz : z < 4) (S : St) (x1 : Int32) (r : Int32) (S1 : St) (hf : f_X5_findAnew S z x1 = some (r, S1)) : Met l yX5_findAnew (Cond.code yX5_findAnew cX5_findAnew 5 (some .int) :: wsAll) rm_X5_findAnew (PX D (wC cI cO b) (tyC cI cO) S [.ref (b + (oT z)), .int x1]) (Qi D (wC cI cO b) (tyC cI cO) (AC b) r S1) 0 0 (AC b) := by
  unfold f_X5_findAnew at hf
  refine g_met RX5 (by decide +kernel) (Nat.le_of_ble_eq_true rfl) rfl ?_
  intro p e s m args below meth c ls Q F hr hlocks hK hP hl hQ
  have hx := F.1
  have hb := F.2.1
  have hS : va_S (AC b) s.heap s.heap [] := va_S.rf
  have hl : lv_has ls 5 [(0, .ref (b + (oT z))), (1, .int x1)] := hl
  refine lv_aload_n hx hb dX5_findAnew_0 rfl (lv_at hl 0 rfl) ?_
  obtain ⟨S_1, q1, hf⟩ := cl_some hf
  refine g_callv F hK hP hS [] (c_X5_putAllAnew l D cI cO b z hz S S_1 q1) wd_682 wd_684 wp_18 wd_6 wd_685 (wC_T hz) rfl hd_X5_putAllAnew rfl rfl ⟨Nat.le_of_ble_eq_true rfl, Nat.le_of_ble_eq_true rfl⟩ rfl hl (rest := []) rfl (Nat.le_of_ble_eq_true rfl) dX5_findAnew_1 ⟨Nat.le_of_ble_eq_true rfl, Nat.le_of_ble_eq_true rfl⟩ (fun H locs hP hS => ?_)
  refine lv_iconst (v := 0) hx hb dX5_findAnew_4 (by decide) ?_
  refine lv_istore_n (lv' := [(2, .int (0 : Int32)), (0, .ref (b + (oT z))), (1, .int x1)]) hx hb dX5_findAnew_5 rfl hl (by decide) rfl (fun ls hl => ?_)
  refine lv_iconst (v := 0) hx hb dX5_findAnew_6 (by decide) ?_
  refine lv_istore_n (lv' := [(3, .int (0 : Int32)), (2, .int (0 : Int32)), (0, .ref (b + (oT z))), (1, .int x1)]) hx hb dX5_findAnew_7 rfl hl (by decide) rfl (fun ls hl => ?_)
  refine Lp2_ind (P := fun (x2_8 : Int32) (x3_8 : Int32) => ∀ (H : Heap) (locs : List Loc) (ls : Array Slot), va_P D vwCl ((wC cI cO b) S_1) H → va_S (AC b) s.heap H locs → lv_has ls 5 [(0, .ref (b + (oT z))), (1, .int x1), (2, .int x2_8), (3, .int x3_8)] → W p l e rm_X5_findAnew s m args below meth c H locs 0 0 Q (F0 m 8 ls [])) ?_ _ _ _ hf _ _ _ hP hS (lv_sub hl [2, 3, 1, 0] rfl)
  clear hf hP hS hl
  intro nx8 x2_8 x3_8 ih8 hf H locs ls hP hS hl
  refine lv_iload_n hx hb dX5_findAnew_8 rfl (lv_at hl 3 rfl) ?_
  refine lv_aload_n hx hb dX5_findAnew_9 rfl (lv_at hl 0 rfl) ?_
  refine g_get F hK hP inA5 (oT z) (wC_T hz) rfl 2 (by decide) wd_95 (v := .ref (b + (oT z + 3))) rfl dX5_findAnew_10 ?_
  obtain ⟨v13, q13, hf⟩ := cl_some hf
  refine g_calli F hK hP hS [] (c_X2_size l D cI cO b (oT z + 3) (nKT _ hz).2.1 S_1 v13 q13) wd_450 wd_203 wd_204 wd_3 wd_205 (wC_N (nKT _ hz).2.1) rfl hd_X2_size rfl rfl ⟨Nat.le_of_ble_eq_true rfl, Nat.le_of_ble_eq_true rfl⟩ rfl hl (rest := [.int x3_8]) rfl (Nat.le_of_ble_eq_true rfl) dX5_findAnew_13 ⟨Nat.le_of_ble_eq_true rfl, Nat.le_of_ble_eq_true rfl⟩ (fun H locs hP hS => ?_)
  refine lv_icmp_ge (tgt := 55) hx hb dX5_findAnew_16 (by decide) (fun q => ?_) (fun q => ?_)
  · replace hf := ite_t q hf
    refine lv_iconst (v := -1) hx hb dX5_findAnew_55 (by decide) ?_
    exact g_iret F hr hlocks hQ hK hP hS (Prod.mk.inj (Option.some.inj hf)).1 (Prod.mk.inj (Option.some.inj hf)).2 dX5_findAnew_56
  · replace hf := ite_f q hf
    refine lv_aload_n hx hb dX5_findAnew_19 rfl (lv_at hl 0 rfl) ?_
    refine g_get F hK hP inA5 (oT z) (wC_T hz) rfl 2 (by decide) wd_95 (v := .ref (b + (oT z + 3))) rfl dX5_findAnew_20 ?_
    refine lv_iload_n hx hb dX5_findAnew_23 rfl (lv_at hl 3 rfl) ?_
    obtain ⟨v24, q24, hf⟩ := cl_some hf
    refine g_calli F hK hP hS [.int x3_8] (c_X2_at l D cI cO b (oT z + 3) (nKT _ hz).2.1 S_1 x3_8 v24 q24) wd_342 wd_232 wd_233 wd_3 wd_234 (wC_N (nKT _ hz).2.1) rfl hd_X2_at rfl rfl ⟨Nat.le_of_ble_eq_true rfl, Nat.le_of_ble_eq_true rfl⟩ rfl hl (rest := []) rfl (Nat.le_of_ble_eq_true rfl) dX5_findAnew_24 ⟨Nat.le_of_ble_eq_true rfl, Nat.le_of_ble_eq_true rfl⟩ (fun H locs hP hS => ?_)
    refine lv_istore (lv' := [(4, .int v24), (0, .ref (b + (oT z))), (1, .int x1), (2, .int x2_8), (3, .int x3_8)]) hx hb dX5_findAnew_27 hl (by decide) rfl (fun ls hl => ?_)
    refine lv_aload_n hx hb dX5_findAnew_29 rfl (lv_at hl 1 rfl) ?_
    refine lv_iload hx hb dX5_findAnew_30 (lv_at hl 0 rfl) ?_
    obtain ⟨v32, q32, hf⟩ := cl_some hf
    refine g_calli F hK hP hS [.int v24] (c_X5_hasThere l D cI cO b z hz S_1 v24 v32 q32) wd_511 wd_486 wd_487 wd_6 wd_488 (wC_T hz) rfl hd_X5_hasThere rfl rfl ⟨Nat.le_of_ble_eq_true rfl, Nat.le_of_ble_eq_true rfl⟩ rfl hl (rest := []) rfl (Nat.le_of_ble_eq_true rfl) dX5_findAnew_32 ⟨Nat.le_of_ble_eq_true rfl, Nat.le_of_ble_eq_true rfl⟩ (fun H locs hP hS => ?_)
    obtain ⟨J49, eJ49, hf⟩ := jn_some hf
    have kJ49 : ∀ (x2_49 : Int32) (H : Heap) (locs : List Loc) (ls : Array Slot), J49 x2_49 = some (r, S1) → va_P D vwCl ((wC cI cO b) S_1) H → va_S (AC b) s.heap H locs → lv_has ls 5 [(0, .ref (b + (oT z))), (1, .int x1), (2, .int x2_49), (3, .int x3_8)] → W p l e rm_X5_findAnew s m args below meth c H locs 0 0 Q (F0 m 49 ls []) := by
      intro x2_49 H locs ls hf hP hS hl
      rw [eJ49] at hf
      obtain ⟨x3_49, ex3_49, hf⟩ := lt_some hf
      refine lv_iinc (v := x3_49) (lv' := [(3, .int x3_49), (0, .ref (b + (oT z))), (1, .int x1), (2, .int x2_49)]) hx hb dX5_findAnew_49 hl (k := 3) rfl (by rw [ex3_49]; rfl) (by decide) rfl (fun ls hl => ?_)
      refine lv_goto (tgt := 8) hx hb dX5_findAnew_52 (by decide) ?_
      exact ih8 _ _ hf _ _ _ hP hS (lv_sub hl [1, 2, 3, 0] rfl)
    clear eJ49
    refine lv_if_eq (tgt := 49) hx hb dX5_findAnew_35 (by decide) (fun q => ?_) (fun q => ?_)
    · replace hf := ite_t q hf
      exact kJ49 _ _ _ _ hf hP hS (lv_sub hl [1, 2, 3, 4] rfl)
    · replace hf := ite_f q hf
      refine lv_iload_n hx hb dX5_findAnew_38 rfl (lv_at hl 3 rfl) ?_
      refine lv_iload_n hx hb dX5_findAnew_39 rfl (lv_at hl 2 rfl) ?_
      refine lv_icmp_ne (tgt := 46) hx hb dX5_findAnew_40 (by decide) (fun q => ?_) (fun q => ?_)
      · replace hf := ite_t q hf
        obtain ⟨x2_46, ex2_46, hf⟩ := lt_some hf
        refine lv_iinc (v := x2_46) (lv' := [(2, .int x2_46), (4, .int v24), (0, .ref (b + (oT z))), (1, .int x1), (3, .int x3_8)]) hx hb dX5_findAnew_46 hl (k := 3) rfl (by rw [ex2_46]; rfl) (by decide) rfl (fun ls hl => ?_)
        exact kJ49 _ _ _ _ hf hP hS (lv_sub hl [2, 3, 0, 4] rfl)
      · replace hf := ite_f (fun h => h q) hf
        refine lv_iload hx hb dX5_findAnew_43 (lv_at hl 0 rfl) ?_
        exact g_iret F hr hlocks hQ hK hP hS (Prod.mk.inj (Option.some.inj hf)).1 (Prod.mk.inj (Option.some.inj hf)).2 dX5_findAnew_45
