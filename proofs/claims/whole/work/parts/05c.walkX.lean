/-! contracts of the class's face -/
abbrev rm_X6_siteOf : Room := { frames := 6, cells := 1, slots := 6, locals := 86 }
theorem hd_X6_siteOf : yX6_siteOf.cls = RX6 ∧ yX6_siteOf.cls ≠ "java/lang/invoke/MethodHandle" ∧ yX6_siteOf.cls ≠ "java/lang/invoke/VarHandle" ∧ (parseMethodDescriptor yX6_siteOf.desc).map (fun d => d.parameters.length) = some 1 := by decide +kernel
set_option maxRecDepth 100000 in
set_option maxHeartbeats 4000000 in
theorem c_X6_siteOf (l : Launch) (hfl : l.stackTraces = false) (D : va_G) (cI cO : ClassId) (b : Nat) (S : St) (x1 : Int32) (r : Nat ⊕ Nat) (hf : f_X6_siteOf S x1 = some r) : vx_Met l yX6_siteOf (Cond.code yX6_siteOf cX6_siteOf 2 (some (.object "Mergeparlour$Site")) :: wsAll) rm_X6_siteOf (PXt D (wC cI cO b) (tyC cI cO) (AC b) S [.ref (b + 0), .int x1]) (Qtr D (wC cI cO b) (tyC cI cO) (AC b) b r S) (Qtx D (wC cI cO b) (tyC cI cO) (AC b) (thr r) S) 1 6 (AC b) := by
  unfold f_X6_siteOf at hf
  refine t_met RX6 (by decide +kernel) (Nat.le_of_ble_eq_true rfl) rfl ?_
  intro p e s m args below meth c ls Q F hr hlocks hnt hX hK hP hl hQ
  have hx := F.1
  have hb := F.2.1
  have hS : va_S (AC b) s.heap s.heap [] := va_S.rf
  have hl : lv_has ls 2 [(0, .ref (b + 0)), (1, .int x1)] := hl
  refine lv_iload_n hx hb dX6_siteOf_0 rfl (lv_at hl 1 rfl) ?_
  obtain ⟨J13, eJ13, hf⟩ := jn_some hf
  have kJ13 : ∀ (H : Heap) (locs : List Loc) (ls : Array Slot), J13 = some r → va_P D vwCl ((wC cI cO b) S) H → va_S (AC b) s.heap H locs → lv_has ls 2 [] → W p l e rm_X6_siteOf s m args below meth c H locs 0 0 Q (F0 m 13 ls []) := by
    intro  H locs ls hf hP hS hl
    rw [eJ13] at hf
    exact t_throw (e9 := 1) (cls := "java/lang/IndexOutOfBoundsException") (text := "no such site") F hfl hX hlocks hnt hQ hK hP hS rfl rfl (th_p hf) rfl (by decide +kernel) wd_265 wd_13 (fun h1 h2 => at_1 h1 h2) hl dX6_siteOf_13 dX6_siteOf_16 dX6_siteOf_17 dX6_siteOf_19 dX6_siteOf_22 (Nat.le_of_ble_eq_true rfl) (Nat.le_of_ble_eq_true rfl) (Nat.le_of_ble_eq_true rfl) (Nat.le_of_ble_eq_true rfl) ⟨Nat.le_of_ble_eq_true rfl, Nat.le_of_ble_eq_true rfl⟩
  clear eJ13
  refine lv_if_lt (tgt := 13) hx hb dX6_siteOf_1 (by decide) (fun q => ?_) (fun q => ?_)
  · replace hf := ite_t q hf
    exact kJ13 _ _ _ hf hP hS (lv_sub hl [] rfl)
  · replace hf := ite_f q hf
    refine lv_iload_n hx hb dX6_siteOf_4 rfl (lv_at hl 1 rfl) ?_
    refine lv_aload_n hx hb dX6_siteOf_5 rfl (lv_at hl 0 rfl) ?_
    refine g_get F hK hP inA6 0 wC_M rfl 1 (by decide) wd_185 (v := .ref (b + 20)) rfl dX6_siteOf_6 ?_
    refine va_alen hx hb hK hP 20 1 wC_AA rfl (v := (4 : Int32)) rfl dX6_siteOf_9 ?_
    refine lv_icmp_lt (tgt := 23) hx hb dX6_siteOf_10 (by decide) (fun q => ?_) (fun q => ?_)
    · replace hf := ite_t q hf
      refine lv_aload_n hx hb dX6_siteOf_23 rfl (lv_at hl 0 rfl) ?_
      refine g_get F hK hP inA6 0 wC_M rfl 1 (by decide) wd_185 (v := .ref (b + 20)) rfl dX6_siteOf_24 ?_
      refine lv_iload_n hx hb dX6_siteOf_27 rfl (lv_at hl 1 rfl) ?_
      obtain ⟨hi28, hf⟩ := ck_some hf
      refine g_aald hx hb hK hP hi28 dX6_siteOf_28 ?_
      exact t_rret F hr hlocks hQ ⟨Nat.le_of_ble_eq_true rfl, Nat.le_of_ble_eq_true rfl⟩ hK hP hS (Option.some.inj hf) rfl dX6_siteOf_29
    · replace hf := ite_f q hf
      exact kJ13 _ _ _ hf hP hS (lv_sub hl [] rfl)
abbrev rm_X6_checkLineIsKnown : Room := { frames := 6, cells := 1, slots := 6, locals := 86 }
theorem hd_X6_checkLineIsKnown : yX6_checkLineIsKnown.cls = RX6 ∧ yX6_checkLineIsKnown.cls ≠ "java/lang/invoke/MethodHandle" ∧ yX6_checkLineIsKnown.cls ≠ "java/lang/invoke/VarHandle" ∧ (parseMethodDescriptor yX6_checkLineIsKnown.desc).map (fun d => d.parameters.length) = some 2 := by decide +kernel
set_option maxRecDepth 100000 in
set_option maxHeartbeats 4000000 in
theorem c_X6_checkLineIsKnown (l : Launch) (hfl : l.stackTraces = false) (D : va_G) (cI cO : ClassId) (b : Nat) (S : St) (z1 : Nat) (x2 : Int32) (hz1 : z1 < 4) (r : Nat ⊕ Unit) (hf : f_X6_checkLineIsKnown S z1 x2 = some r) : vx_Met l yX6_checkLineIsKnown (Cond.code yX6_checkLineIsKnown cX6_checkLineIsKnown 3 none :: wsAll) rm_X6_checkLineIsKnown (PXt D (wC cI cO b) (tyC cI cO) (AC b) S [.ref (b + 0), .ref (b + (oS z1)), .int x2]) (Qtv D (wC cI cO b) (tyC cI cO) (AC b) r S) (Qtx D (wC cI cO b) (tyC cI cO) (AC b) (thr r) S) 1 6 (AC b) := by
  unfold f_X6_checkLineIsKnown at hf
  refine t_met RX6 (by decide +kernel) (Nat.le_of_ble_eq_true rfl) rfl ?_
  intro p e s m args below meth c ls Q F hr hlocks hnt hX hK hP hl hQ
  have hx := F.1
  have hb := F.2.1
  have hS : va_S (AC b) s.heap s.heap [] := va_S.rf
  have hl : lv_has ls 3 [(0, .ref (b + 0)), (1, .ref (b + (oS z1))), (2, .int x2)] := hl
  refine lv_aload_n hx hb dX6_checkLineIsKnown_0 rfl (lv_at hl 1 rfl) ?_
  refine g_get F hK hP inA4 (oS z1) (wC_S hz1) rfl 0 (by decide) wd_143 (v := .ref (b + (oT z1))) rfl dX6_checkLineIsKnown_1 ?_
  refine lv_iload_n hx hb dX6_checkLineIsKnown_4 rfl (lv_at hl 2 rfl) ?_
  obtain ⟨v5, q5, hf⟩ := cl_some hf
  refine g_calli F hK hP hS [.int x2] (c_X5_knowsLine l D cI cO b z1 hz1 S x2 v5 q5) wd_338 wd_339 wd_340 wd_6 wd_341 (wC_T hz1) rfl hd_X5_knowsLine rfl rfl ⟨Nat.le_of_ble_eq_true rfl, Nat.le_of_ble_eq_true rfl⟩ rfl hl (rest := []) rfl (Nat.le_of_ble_eq_true rfl) dX6_checkLineIsKnown_5 ⟨Nat.le_of_ble_eq_true rfl, Nat.le_of_ble_eq_true rfl⟩ (fun H locs hP hS => ?_)
  refine lv_if_ne (tgt := 21) hx hb dX6_checkLineIsKnown_8 (by decide) (fun q => ?_) (fun q => ?_)
  · replace hf := ite_t q hf
    exact t_vret F hr hlocks hQ ⟨Nat.le_of_ble_eq_true rfl, Nat.le_of_ble_eq_true rfl⟩ hK hP hS (Option.some.inj hf) rfl dX6_checkLineIsKnown_21
  · replace hf := ite_f (fun h => h q) hf
    exact t_throw (e9 := 1) (cls := "java/lang/IndexOutOfBoundsException") (text := "no such line") F hfl hX hlocks hnt hQ hK hP hS rfl rfl (th_p hf) rfl (by decide +kernel) wd_265 wd_13 (fun h1 h2 => at_1 h1 h2) hl dX6_checkLineIsKnown_11 dX6_checkLineIsKnown_14 dX6_checkLineIsKnown_15 dX6_checkLineIsKnown_17 dX6_checkLineIsKnown_20 (Nat.le_of_ble_eq_true rfl) (Nat.le_of_ble_eq_true rfl) (Nat.le_of_ble_eq_true rfl) (Nat.le_of_ble_eq_true rfl) ⟨Nat.le_of_ble_eq_true rfl, Nat.le_of_ble_eq_true rfl⟩
abbrev rm_X6_checkRoomForDeed : Room := { frames := 6, cells := 1, slots := 6, locals := 86 }
theorem hd_X6_checkRoomForDeed : yX6_checkRoomForDeed.cls = RX6 ∧ yX6_checkRoomForDeed.cls ≠ "java/lang/invoke/MethodHandle" ∧ yX6_checkRoomForDeed.cls ≠ "java/lang/invoke/VarHandle" ∧ (parseMethodDescriptor yX6_checkRoomForDeed.desc).map (fun d => d.parameters.length) = some 0 := by decide +kernel
set_option maxRecDepth 100000 in
set_option maxHeartbeats 4000000 in
theorem c_X6_checkRoomForDeed (l : Launch) (hfl : l.stackTraces = false) (D : va_G) (cI cO : ClassId) (b : Nat) (S : St) (r : Nat ⊕ Unit) (hf : f_X6_checkRoomForDeed S = some r) : vx_Met l yX6_checkRoomForDeed (Cond.code yX6_checkRoomForDeed cX6_checkRoomForDeed 1 none :: wsAll) rm_X6_checkRoomForDeed (PXt D (wC cI cO b) (tyC cI cO) (AC b) S [.ref (b + 0)]) (Qtv D (wC cI cO b) (tyC cI cO) (AC b) r S) (Qtx D (wC cI cO b) (tyC cI cO) (AC b) (thr r) S) 1 6 (AC b) := by
  unfold f_X6_checkRoomForDeed at hf
  refine t_met RX6 (by decide +kernel) (Nat.le_of_ble_eq_true rfl) rfl ?_
  intro p e s m args below meth c ls Q F hr hlocks hnt hX hK hP hl hQ
  have hx := F.1
  have hb := F.2.1
  have hS : va_S (AC b) s.heap s.heap [] := va_S.rf
  have hl : lv_has ls 1 [(0, .ref (b + 0))] := hl
  refine lv_aload_n hx hb dX6_checkRoomForDeed_0 rfl (lv_at hl 0 rfl) ?_
  refine g_get F hK hP inA6 0 wC_M rfl 0 (by decide) wd_184 (v := .ref (b + 1)) rfl dX6_checkRoomForDeed_1 ?_
  obtain ⟨v4, q4, hf⟩ := cl_some hf
  refine g_calli F hK hP hS [] (c_X1_deedCount l D cI cO b S v4 q4) wd_364 wd_365 wd_366 wd_2 wd_367 wC_G rfl hd_X1_deedCount rfl rfl ⟨Nat.le_of_ble_eq_true rfl, Nat.le_of_ble_eq_true rfl⟩ rfl hl (rest := []) rfl (Nat.le_of_ble_eq_true rfl) dX6_checkRoomForDeed_4 ⟨Nat.le_of_ble_eq_true rfl, Nat.le_of_ble_eq_true rfl⟩ (fun H locs hP hS => ?_)
  refine lv_bipush (v := 90) hx hb dX6_checkRoomForDeed_7 (by decide) ?_
  refine lv_icmp_lt (tgt := 22) hx hb dX6_checkRoomForDeed_9 (by decide) (fun q => ?_) (fun q => ?_)
  · replace hf := ite_t q hf
    exact t_vret F hr hlocks hQ ⟨Nat.le_of_ble_eq_true rfl, Nat.le_of_ble_eq_true rfl⟩ hK hP hS (Option.some.inj hf) rfl dX6_checkRoomForDeed_22
  · replace hf := ite_f q hf
    exact t_throw (e9 := 3) (cls := "java/lang/IllegalStateException") (text := "no more deeds") F hfl hX hlocks hnt hQ hK hP hS rfl rfl (th_p hf) rfl (by decide +kernel) wd_369 wd_15 (fun h1 h2 => at_3 h1 h2) hl dX6_checkRoomForDeed_12 dX6_checkRoomForDeed_15 dX6_checkRoomForDeed_16 dX6_checkRoomForDeed_18 dX6_checkRoomForDeed_21 (Nat.le_of_ble_eq_true rfl) (Nat.le_of_ble_eq_true rfl) (Nat.le_of_ble_eq_true rfl) (Nat.le_of_ble_eq_true rfl) ⟨Nat.le_of_ble_eq_true rfl, Nat.le_of_ble_eq_true rfl⟩
abbrev rm_X6_insert : Room := { frames := 7, cells := 4, slots := 24, locals := 132 }
theorem hd_X6_insert : yX6_insert.cls = RX6 ∧ yX6_insert.cls ≠ "java/lang/invoke/MethodHandle" ∧ yX6_insert.cls ≠ "java/lang/invoke/VarHandle" ∧ (parseMethodDescriptor yX6_insert.desc).map (fun d => d.parameters.length) = some 4 := by decide +kernel
set_option maxRecDepth 100000 in
set_option maxHeartbeats 4000000 in
theorem c_X6_insert (l : Launch) (hfl : l.stackTraces = false) (D : va_G) (cI cO : ClassId) (b : Nat) (S : St) (x1 : Int32) (x2 : Int32) (x3 : Int32) (x4 : Int32) (r : Nat ⊕ Int32) (S1 : St) (hf : f_X6_insert S x1 x2 x3 x4 = some (r, S1)) : vx_Met l yX6_insert (Cond.code yX6_insert cX6_insert 8 (some .int) :: wsAll) rm_X6_insert (PXt D (wC cI cO b) (tyC cI cO) (AC b) S [.ref (b + 0), .int x1, .int x2, .int x3, .int x4]) (Qti D (wC cI cO b) (tyC cI cO) (AC b) r S1) (Qtx D (wC cI cO b) (tyC cI cO) (AC b) (thr r) S1) 4 24 (AC b) := by
  unfold f_X6_insert at hf
  refine t_met RX6 (by decide +kernel) (Nat.le_of_ble_eq_true rfl) rfl ?_
  intro p e s m args below meth c ls Q F hr hlocks hnt hX hK hP hl hQ
  have hx := F.1
  have hb := F.2.1
  have hS : va_S (AC b) s.heap s.heap [] := va_S.rf
  have hl : lv_has ls 8 [(0, .ref (b + 0)), (1, .int x1), (2, .int x2), (3, .int x3), (4, .int x4)] := hl
  refine lv_aload_n hx hb dX6_insert_0 rfl (lv_at hl 0 rfl) ?_
  refine lv_iload_n hx hb dX6_insert_1 rfl (lv_at hl 1 rfl) ?_
  obtain ⟨r2, q2, hf⟩ := cx_some' hf
  refine t_callr F hX hlocks hnt hQ hK hP hS [.int x1] (c_X6_siteOf l hfl D cI cO b S x1 r2 q2) wd_261 wd_263 wp_2 wd_1 wd_264 wC_M rfl hd_X6_siteOf rfl rfl ⟨Nat.le_of_ble_eq_true rfl, Nat.le_of_ble_eq_true rfl⟩ rfl hl (rest := []) rfl (Nat.le_of_ble_eq_true rfl) dX6_insert_2 ⟨Nat.le_of_ble_eq_true rfl, Nat.le_of_ble_eq_true rfl⟩ ⟨Nat.le_of_ble_eq_true rfl, Nat.le_of_ble_eq_true rfl⟩ (fun e9 he9 => ⟨(th_i (el_l he9 hf)).1, (th_i (el_l he9 hf)).2⟩) (fun z2 hv H locs hP hS => ?_)
  have hz2 : z2 < 4 := siteOf_lt (by rw [q2, hv])
  replace hf := el_r hv hf
  refine lv_astore (lv' := [(5, .ref (b + (oS z2))), (0, .ref (b + 0)), (1, .int x1), (2, .int x2), (3, .int x3), (4, .int x4)]) hx hb dX6_insert_5 hl (by decide) rfl (fun ls hl => ?_)
  refine lv_iload_n hx hb dX6_insert_7 rfl (lv_at hl 3 rfl) ?_
  refine lv_iconst (v := -1) hx hb dX6_insert_8 (by decide) ?_
  obtain ⟨J19, eJ19, hf⟩ := jn_some hf
  have kJ19 : ∀ (H : Heap) (locs : List Loc) (ls : Array Slot), J19 = some (r, S1) → va_P D vwCl ((wC cI cO b) S) H → va_S (AC b) s.heap H locs → lv_has ls 8 [(0, .ref (b + 0)), (2, .int x2), (3, .int x3), (4, .int x4), (5, .ref (b + (oS z2)))] → W p l e rm_X6_insert s m args below meth c H locs 2 12 Q (F0 m 19 ls []) := by
    intro  H locs ls hf hP hS hl
    rw [eJ19] at hf
    refine lv_iload_n hx hb dX6_insert_19 rfl (lv_at hl 2 rfl) ?_
    obtain ⟨J29, eJ29, hf⟩ := jn_some hf
    have kJ29 : ∀ (H : Heap) (locs : List Loc) (ls : Array Slot), J29 = some (r, S1) → va_P D vwCl ((wC cI cO b) S) H → va_S (AC b) s.heap H locs → lv_has ls 8 [] → W p l e rm_X6_insert s m args below meth c H locs 2 12 Q (F0 m 29 ls []) := by
      intro  H locs ls hf hP hS hl
      rw [eJ29] at hf
      exact t_throw (e9 := 2) (cls := "java/lang/IllegalArgumentException") (text := "no such value") F hfl hX hlocks hnt hQ hK hP hS rfl rfl (th_i hf).1 (th_i hf).2 (by decide +kernel) wd_344 wd_14 (fun h1 h2 => at_2 h1 h2) hl dX6_insert_29 dX6_insert_32 dX6_insert_33 dX6_insert_35 dX6_insert_38 (Nat.le_of_ble_eq_true rfl) (Nat.le_of_ble_eq_true rfl) (Nat.le_of_ble_eq_true rfl) (Nat.le_of_ble_eq_true rfl) ⟨Nat.le_of_ble_eq_true rfl, Nat.le_of_ble_eq_true rfl⟩
    clear eJ29
    refine lv_if_lt (tgt := 29) hx hb dX6_insert_20 (by decide) (fun q => ?_) (fun q => ?_)
    · replace hf := ite_t q hf
      exact kJ29 _ _ _ hf hP hS (lv_sub hl [] rfl)
    · replace hf := ite_f q hf
      refine lv_iload_n hx hb dX6_insert_23 rfl (lv_at hl 2 rfl) ?_
      refine lv_bipush (v := 99) hx hb dX6_insert_24 (by decide) ?_
      refine lv_icmp_le (tgt := 39) hx hb dX6_insert_26 (by decide) (fun q => ?_) (fun q => ?_)
      · replace hf := ite_t q hf
        refine lv_aload_n hx hb dX6_insert_39 rfl (lv_at hl 0 rfl) ?_
        obtain ⟨r40, q40, hf⟩ := cx_some' hf
        refine t_callv F hX hlocks hnt hQ hK hP hS [] (c_X6_checkRoomForDeed l hfl D cI cO b S r40 q40) wd_360 wd_362 wp_5 wd_1 wd_363 wC_M rfl hd_X6_checkRoomForDeed rfl rfl ⟨Nat.le_of_ble_eq_true rfl, Nat.le_of_ble_eq_true rfl⟩ rfl hl (rest := []) rfl (Nat.le_of_ble_eq_true rfl) dX6_insert_40 ⟨Nat.le_of_ble_eq_true rfl, Nat.le_of_ble_eq_true rfl⟩ ⟨Nat.le_of_ble_eq_true rfl, Nat.le_of_ble_eq_true rfl⟩ (fun e9 he9 => ⟨(th_i (el_l he9 hf)).1, (th_i (el_l he9 hf)).2⟩) (fun hv H locs hP hS => ?_)
        replace hf := el_r hv hf
        refine lv_aload hx hb dX6_insert_43 (lv_at hl 4 rfl) ?_
        obtain ⟨v45, S_45, q45, hf⟩ := cl2_some hf
        refine g_calli F hK hP hS [] (c_X4_nextStamp l D cI cO b z2 hz2 S v45 S_45 q45) wd_385 wd_386 wd_387 wd_5 wd_388 (wC_S hz2) rfl hd_X4_nextStamp rfl rfl ⟨Nat.le_of_ble_eq_true rfl, Nat.le_of_ble_eq_true rfl⟩ rfl hl (rest := []) rfl (Nat.le_of_ble_eq_true rfl) dX6_insert_45 ⟨Nat.le_of_ble_eq_true rfl, Nat.le_of_ble_eq_true rfl⟩ (fun H locs hP hS => ?_)
        refine lv_istore (lv' := [(6, .int v45), (0, .ref (b + 0)), (2, .int x2), (3, .int x3), (4, .int x4), (5, .ref (b + (oS z2)))]) hx hb dX6_insert_48 hl (by decide) rfl (fun ls hl => ?_)
        refine lv_aload_n hx hb dX6_insert_50 rfl (lv_at hl 1 rfl) ?_
        refine g_get F hK hP inA6 0 wC_M rfl 0 (by decide) wd_184 (v := .ref (b + 1)) rfl dX6_insert_51 ?_
        refine lv_iload hx hb dX6_insert_54 (lv_at hl 0 rfl) ?_
        refine lv_iload_n hx hb dX6_insert_56 rfl (lv_at hl 2 rfl) ?_
        refine lv_iload_n hx hb dX6_insert_57 rfl (lv_at hl 3 rfl) ?_
        refine lv_iload hx hb dX6_insert_58 (lv_at hl 4 rfl) ?_
        obtain ⟨v60, S_60, q60, hf⟩ := cl2_some hf
        refine g_calli F hK hP hS [.int v45, .int x2, .int x3, .int x4] (c_X1_addLine l D cI cO b S_45 v45 x2 x3 x4 v60 S_60 q60) wd_389 wd_390 wd_391 wd_2 wd_392 wC_G rfl hd_X1_addLine rfl rfl ⟨Nat.le_of_ble_eq_true rfl, Nat.le_of_ble_eq_true rfl⟩ rfl hl (rest := []) rfl (Nat.le_of_ble_eq_true rfl) dX6_insert_60 ⟨Nat.le_of_ble_eq_true rfl, Nat.le_of_ble_eq_true rfl⟩ (fun H locs hP hS => ?_)
        refine lv_istore (lv' := [(7, .int v60), (6, .int v45), (0, .ref (b + 0)), (2, .int x2), (3, .int x3), (4, .int x4), (5, .ref (b + (oS z2)))]) hx hb dX6_insert_63 hl (by decide) rfl (fun ls hl => ?_)
        refine lv_aload hx hb dX6_insert_65 (lv_at hl 6 rfl) ?_
        refine lv_aload_n hx hb dX6_insert_67 rfl (lv_at hl 2 rfl) ?_
        refine g_get F hK hP inA6 0 wC_M rfl 0 (by decide) wd_184 (v := .ref (b + 1)) rfl dX6_insert_68 ?_
        refine lv_iconst (v := 0) hx hb dX6_insert_71 (by decide) ?_
        refine lv_iload hx hb dX6_insert_72 (lv_at hl 1 rfl) ?_
        refine lv_iload hx hb dX6_insert_74 (lv_at hl 0 rfl) ?_
        refine lv_iload_n hx hb dX6_insert_76 rfl (lv_at hl 3 rfl) ?_
        obtain ⟨v77, S_77, q77, hf⟩ := cl2_some hf
        refine g_calli F hK hP hS [.int (0 : Int32), .int v45, .int v60, .int x2] (c_X1_addDeed l D cI cO b S_60 (0 : Int32) v45 v60 x2 v77 S_77 q77) wd_406 wd_407 wd_408 wd_2 wd_409 wC_G rfl hd_X1_addDeed rfl rfl ⟨Nat.le_of_ble_eq_true rfl, Nat.le_of_ble_eq_true rfl⟩ rfl hl (rest := [.ref (b + (oS z2))]) rfl (Nat.le_of_ble_eq_true rfl) dX6_insert_77 ⟨Nat.le_of_ble_eq_true rfl, Nat.le_of_ble_eq_true rfl⟩ (fun H locs hP hS => ?_)
        obtain ⟨S_80, q80, hf⟩ := cl_some hf
        refine g_callv F hK hP hS [.int v77] (c_X4_take l D cI cO b z2 hz2 S_77 v77 S_80 q80) wd_410 wd_411 wd_412 wd_5 wd_413 (wC_S hz2) rfl hd_X4_take rfl rfl ⟨Nat.le_of_ble_eq_true rfl, Nat.le_of_ble_eq_true rfl⟩ rfl hl (rest := []) rfl (Nat.le_of_ble_eq_true rfl) dX6_insert_80 ⟨Nat.le_of_ble_eq_true rfl, Nat.le_of_ble_eq_true rfl⟩ (fun H locs hP hS => ?_)
        refine lv_iload hx hb dX6_insert_83 (lv_at hl 0 rfl) ?_
        exact t_iret F hr hlocks hQ ⟨Nat.le_of_ble_eq_true rfl, Nat.le_of_ble_eq_true rfl⟩ hK hP hS (Prod.mk.inj (Option.some.inj hf)).1 (Prod.mk.inj (Option.some.inj hf)).2 dX6_insert_85
      · replace hf := ite_f q hf
        exact kJ29 _ _ _ hf hP hS (lv_sub hl [] rfl)
  clear eJ19
  refine lv_icmp_eq (tgt := 19) hx hb dX6_insert_9 (by decide) (fun q => ?_) (fun q => ?_)
  · replace hf := ite_t q hf
    refine W.widen (k := 2) (n := 12) (Nat.le_of_ble_eq_true rfl) (Nat.le_of_ble_eq_true rfl) ?_
    exact kJ19 _ _ _ hf hP hS (lv_sub hl [1, 3, 4, 5, 0] rfl)
  · replace hf := ite_f q hf
    refine lv_aload_n hx hb dX6_insert_12 rfl (lv_at hl 1 rfl) ?_
    refine lv_aload hx hb dX6_insert_13 (lv_at hl 0 rfl) ?_
    refine lv_iload_n hx hb dX6_insert_15 rfl (lv_at hl 3 rfl) ?_
    obtain ⟨r16, q16, hf⟩ := cx_some' hf
    refine t_callv F hX hlocks hnt hQ hK hP hS [.ref (b + (oS z2)), .int x2] (c_X6_checkLineIsKnown l hfl D cI cO b S z2 x2 hz2 r16 q16) wd_334 wd_336 wp_4 wd_1 wd_337 wC_M rfl hd_X6_checkLineIsKnown rfl rfl ⟨Nat.le_of_ble_eq_true rfl, Nat.le_of_ble_eq_true rfl⟩ rfl hl (rest := []) rfl (Nat.le_of_ble_eq_true rfl) dX6_insert_16 ⟨Nat.le_of_ble_eq_true rfl, Nat.le_of_ble_eq_true rfl⟩ ⟨Nat.le_of_ble_eq_true rfl, Nat.le_of_ble_eq_true rfl⟩ (fun e9 he9 => ⟨(th_i (el_l he9 hf)).1, (th_i (el_l he9 hf)).2⟩) (fun hv H locs hP hS => ?_)
    replace hf := el_r hv hf
    exact kJ19 _ _ _ hf hP hS (lv_sub hl [1, 3, 4, 5, 0] rfl)
abbrev rm_X6_checkLineIsThere : Room := { frames := 6, cells := 1, slots := 6, locals := 86 }
theorem hd_X6_checkLineIsThere : yX6_checkLineIsThere.cls = RX6 ∧ yX6_checkLineIsThere.cls ≠ "java/lang/invoke/MethodHandle" ∧ yX6_checkLineIsThere.cls ≠ "java/lang/invoke/VarHandle" ∧ (parseMethodDescriptor yX6_checkLineIsThere.desc).map (fun d => d.parameters.length) = some 2 := by decide +kernel
set_option maxRecDepth 100000 in
set_option maxHeartbeats 4000000 in
theorem c_X6_checkLineIsThere (l : Launch) (hfl : l.stackTraces = false) (D : va_G) (cI cO : ClassId) (b : Nat) (S : St) (z1 : Nat) (x2 : Int32) (hz1 : z1 < 4) (r : Nat ⊕ Unit) (hf : f_X6_checkLineIsThere S z1 x2 = some r) : vx_Met l yX6_checkLineIsThere (Cond.code yX6_checkLineIsThere cX6_checkLineIsThere 3 none :: wsAll) rm_X6_checkLineIsThere (PXt D (wC cI cO b) (tyC cI cO) (AC b) S [.ref (b + 0), .ref (b + (oS z1)), .int x2]) (Qtv D (wC cI cO b) (tyC cI cO) (AC b) r S) (Qtx D (wC cI cO b) (tyC cI cO) (AC b) (thr r) S) 1 6 (AC b) := by
  unfold f_X6_checkLineIsThere at hf
  refine t_met RX6 (by decide +kernel) (Nat.le_of_ble_eq_true rfl) rfl ?_
  intro p e s m args below meth c ls Q F hr hlocks hnt hX hK hP hl hQ
  have hx := F.1
  have hb := F.2.1
  have hS : va_S (AC b) s.heap s.heap [] := va_S.rf
  have hl : lv_has ls 3 [(0, .ref (b + 0)), (1, .ref (b + (oS z1))), (2, .int x2)] := hl
  refine lv_aload_n hx hb dX6_checkLineIsThere_0 rfl (lv_at hl 1 rfl) ?_
  refine g_get F hK hP inA4 (oS z1) (wC_S hz1) rfl 0 (by decide) wd_143 (v := .ref (b + (oT z1))) rfl dX6_checkLineIsThere_1 ?_
  refine lv_iload_n hx hb dX6_checkLineIsThere_4 rfl (lv_at hl 2 rfl) ?_
  obtain ⟨v5, q5, hf⟩ := cl_some hf
  refine g_calli F hK hP hS [.int x2] (c_X5_hasThere l D cI cO b z1 hz1 S x2 v5 q5) wd_542 wd_486 wd_487 wd_6 wd_488 (wC_T hz1) rfl hd_X5_hasThere rfl rfl ⟨Nat.le_of_ble_eq_true rfl, Nat.le_of_ble_eq_true rfl⟩ rfl hl (rest := []) rfl (Nat.le_of_ble_eq_true rfl) dX6_checkLineIsThere_5 ⟨Nat.le_of_ble_eq_true rfl, Nat.le_of_ble_eq_true rfl⟩ (fun H locs hP hS => ?_)
  refine lv_if_ne (tgt := 21) hx hb dX6_checkLineIsThere_8 (by decide) (fun q => ?_) (fun q => ?_)
  · replace hf := ite_t q hf
    exact t_vret F hr hlocks hQ ⟨Nat.le_of_ble_eq_true rfl, Nat.le_of_ble_eq_true rfl⟩ hK hP hS (Option.some.inj hf) rfl dX6_checkLineIsThere_21
  · replace hf := ite_f (fun h => h q) hf
    exact t_throwX (e9 := 4) (cls := "java/util/NoSuchElementException") (text := "line is not there") F hfl hX hlocks hnt hQ hK hP hS nsee_0 nsee_1 nsee_2 nsee_5 rfl rfl (th_p hf) rfl (by decide +kernel) wd_543 wd_16 (fun h1 h2 => at_4 h1 h2) hl dX6_checkLineIsThere_11 dX6_checkLineIsThere_14 dX6_checkLineIsThere_15 dX6_checkLineIsThere_17 dX6_checkLineIsThere_20 (Nat.le_of_ble_eq_true rfl) (Nat.le_of_ble_eq_true rfl) (Nat.le_of_ble_eq_true rfl) (Nat.le_of_ble_eq_true rfl) ⟨Nat.le_of_ble_eq_true rfl, Nat.le_of_ble_eq_true rfl⟩
abbrev rm_X6_remove : Room := { frames := 7, cells := 4, slots := 24, locals := 132 }
theorem hd_X6_remove : yX6_remove.cls = RX6 ∧ yX6_remove.cls ≠ "java/lang/invoke/MethodHandle" ∧ yX6_remove.cls ≠ "java/lang/invoke/VarHandle" ∧ (parseMethodDescriptor yX6_remove.desc).map (fun d => d.parameters.length) = some 2 := by decide +kernel
set_option maxRecDepth 100000 in
set_option maxHeartbeats 4000000 in
theorem c_X6_remove (l : Launch) (hfl : l.stackTraces = false) (D : va_G) (cI cO : ClassId) (b : Nat) (S : St) (x1 : Int32) (x2 : Int32) (r : Nat ⊕ Int32) (S1 : St) (hf : f_X6_remove S x1 x2 = some (r, S1)) : vx_Met l yX6_remove (Cond.code yX6_remove cX6_remove 4 (some .int) :: wsAll) rm_X6_remove (PXt D (wC cI cO b) (tyC cI cO) (AC b) S [.ref (b + 0), .int x1, .int x2]) (Qti D (wC cI cO b) (tyC cI cO) (AC b) r S1) (Qtx D (wC cI cO b) (tyC cI cO) (AC b) (thr r) S1) 4 24 (AC b) := by
  unfold f_X6_remove at hf
  refine t_met RX6 (by decide +kernel) (Nat.le_of_ble_eq_true rfl) rfl ?_
  intro p e s m args below meth c ls Q F hr hlocks hnt hX hK hP hl hQ
  have hx := F.1
  have hb := F.2.1
  have hS : va_S (AC b) s.heap s.heap [] := va_S.rf
  have hl : lv_has ls 4 [(0, .ref (b + 0)), (1, .int x1), (2, .int x2)] := hl
  refine lv_aload_n hx hb dX6_remove_0 rfl (lv_at hl 0 rfl) ?_
  refine lv_iload_n hx hb dX6_remove_1 rfl (lv_at hl 1 rfl) ?_
  obtain ⟨r2, q2, hf⟩ := cx_some' hf
  refine t_callr F hX hlocks hnt hQ hK hP hS [.int x1] (c_X6_siteOf l hfl D cI cO b S x1 r2 q2) wd_261 wd_263 wp_2 wd_1 wd_264 wC_M rfl hd_X6_siteOf rfl rfl ⟨Nat.le_of_ble_eq_true rfl, Nat.le_of_ble_eq_true rfl⟩ rfl hl (rest := []) rfl (Nat.le_of_ble_eq_true rfl) dX6_remove_2 ⟨Nat.le_of_ble_eq_true rfl, Nat.le_of_ble_eq_true rfl⟩ ⟨Nat.le_of_ble_eq_true rfl, Nat.le_of_ble_eq_true rfl⟩ (fun e9 he9 => ⟨(th_i (el_l he9 hf)).1, (th_i (el_l he9 hf)).2⟩) (fun z2 hv H locs hP hS => ?_)
  have hz2 : z2 < 4 := siteOf_lt (by rw [q2, hv])
  replace hf := el_r hv hf
  refine lv_astore_n (lv' := [(3, .ref (b + (oS z2))), (0, .ref (b + 0)), (1, .int x1), (2, .int x2)]) hx hb dX6_remove_5 rfl hl (by decide) rfl (fun ls hl => ?_)
  refine lv_aload_n hx hb dX6_remove_6 rfl (lv_at hl 1 rfl) ?_
  refine lv_aload_n hx hb dX6_remove_7 rfl (lv_at hl 0 rfl) ?_
  refine lv_iload_n hx hb dX6_remove_8 rfl (lv_at hl 3 rfl) ?_
  obtain ⟨r9, q9, hf⟩ := cx_some' hf
  refine t_callv F hX hlocks hnt hQ hK hP hS [.ref (b + (oS z2)), .int x2] (c_X6_checkLineIsKnown l hfl D cI cO b S z2 x2 hz2 r9 q9) wd_334 wd_336 wp_4 wd_1 wd_337 wC_M rfl hd_X6_checkLineIsKnown rfl rfl ⟨Nat.le_of_ble_eq_true rfl, Nat.le_of_ble_eq_true rfl⟩ rfl hl (rest := []) rfl (Nat.le_of_ble_eq_true rfl) dX6_remove_9 ⟨Nat.le_of_ble_eq_true rfl, Nat.le_of_ble_eq_true rfl⟩ ⟨Nat.le_of_ble_eq_true rfl, Nat.le_of_ble_eq_true rfl⟩ (fun e9 he9 => ⟨(th_i (el_l he9 hf)).1, (th_i (el_l he9 hf)).2⟩) (fun hv H locs hP hS => ?_)
  replace hf := el_r hv hf
  refine lv_aload_n hx hb dX6_remove_12 rfl (lv_at hl 1 rfl) ?_
  refine lv_aload_n hx hb dX6_remove_13 rfl (lv_at hl 0 rfl) ?_
  refine lv_iload_n hx hb dX6_remove_14 rfl (lv_at hl 3 rfl) ?_
  obtain ⟨r15, q15, hf⟩ := cx_some' hf
  refine t_callv F hX hlocks hnt hQ hK hP hS [.ref (b + (oS z2)), .int x2] (c_X6_checkLineIsThere l hfl D cI cO b S z2 x2 hz2 r15 q15) wd_538 wd_540 wp_14 wd_1 wd_541 wC_M rfl hd_X6_checkLineIsThere rfl rfl ⟨Nat.le_of_ble_eq_true rfl, Nat.le_of_ble_eq_true rfl⟩ rfl hl (rest := []) rfl (Nat.le_of_ble_eq_true rfl) dX6_remove_15 ⟨Nat.le_of_ble_eq_true rfl, Nat.le_of_ble_eq_true rfl⟩ ⟨Nat.le_of_ble_eq_true rfl, Nat.le_of_ble_eq_true rfl⟩ (fun e9 he9 => ⟨(th_i (el_l he9 hf)).1, (th_i (el_l he9 hf)).2⟩) (fun hv H locs hP hS => ?_)
  replace hf := el_r hv hf
  refine lv_aload_n hx hb dX6_remove_18 rfl (lv_at hl 1 rfl) ?_
  obtain ⟨r19, q19, hf⟩ := cx_some' hf
  refine t_callv F hX hlocks hnt hQ hK hP hS [] (c_X6_checkRoomForDeed l hfl D cI cO b S r19 q19) wd_360 wd_362 wp_5 wd_1 wd_363 wC_M rfl hd_X6_checkRoomForDeed rfl rfl ⟨Nat.le_of_ble_eq_true rfl, Nat.le_of_ble_eq_true rfl⟩ rfl hl (rest := []) rfl (Nat.le_of_ble_eq_true rfl) dX6_remove_19 ⟨Nat.le_of_ble_eq_true rfl, Nat.le_of_ble_eq_true rfl⟩ ⟨Nat.le_of_ble_eq_true rfl, Nat.le_of_ble_eq_true rfl⟩ (fun e9 he9 => ⟨(th_i (el_l he9 hf)).1, (th_i (el_l he9 hf)).2⟩) (fun hv H locs hP hS => ?_)
  replace hf := el_r hv hf
  refine lv_aload_n hx hb dX6_remove_22 rfl (lv_at hl 0 rfl) ?_
  refine lv_aload_n hx hb dX6_remove_23 rfl (lv_at hl 1 rfl) ?_
  refine g_get F hK hP inA6 0 wC_M rfl 0 (by decide) wd_184 (v := .ref (b + 1)) rfl dX6_remove_24 ?_
  refine lv_iconst (v := 1) hx hb dX6_remove_27 (by decide) ?_
  refine lv_aload_n hx hb dX6_remove_28 rfl (lv_at hl 0 rfl) ?_
  obtain ⟨v29, S_29, q29, hf⟩ := cl2_some hf
  refine g_calli F hK hP hS [] (c_X4_nextStamp l D cI cO b z2 hz2 S v29 S_29 q29) wd_385 wd_386 wd_387 wd_5 wd_388 (wC_S hz2) rfl hd_X4_nextStamp rfl rfl ⟨Nat.le_of_ble_eq_true rfl, Nat.le_of_ble_eq_true rfl⟩ rfl hl (rest := [.int (1 : Int32), .ref (b + 1), .ref (b + (oS z2))]) rfl (Nat.le_of_ble_eq_true rfl) dX6_remove_29 ⟨Nat.le_of_ble_eq_true rfl, Nat.le_of_ble_eq_true rfl⟩ (fun H locs hP hS => ?_)
  refine lv_iload_n hx hb dX6_remove_32 rfl (lv_at hl 3 rfl) ?_
  refine lv_iconst (v := -1) hx hb dX6_remove_33 (by decide) ?_
  obtain ⟨v34, S_34, q34, hf⟩ := cl2_some hf
  refine g_calli F hK hP hS [.int (1 : Int32), .int v29, .int x2, .int (-1 : Int32)] (c_X1_addDeed l D cI cO b S_29 (1 : Int32) v29 x2 (-1 : Int32) v34 S_34 q34) wd_406 wd_407 wd_408 wd_2 wd_409 wC_G rfl hd_X1_addDeed rfl rfl ⟨Nat.le_of_ble_eq_true rfl, Nat.le_of_ble_eq_true rfl⟩ rfl hl (rest := [.ref (b + (oS z2))]) rfl (Nat.le_of_ble_eq_true rfl) dX6_remove_34 ⟨Nat.le_of_ble_eq_true rfl, Nat.le_of_ble_eq_true rfl⟩ (fun H locs hP hS => ?_)
  obtain ⟨S_37, q37, hf⟩ := cl_some hf
  refine g_callv F hK hP hS [.int v34] (c_X4_take l D cI cO b z2 hz2 S_34 v34 S_37 q37) wd_410 wd_411 wd_412 wd_5 wd_413 (wC_S hz2) rfl hd_X4_take rfl rfl ⟨Nat.le_of_ble_eq_true rfl, Nat.le_of_ble_eq_true rfl⟩ rfl hl (rest := []) rfl (Nat.le_of_ble_eq_true rfl) dX6_remove_37 ⟨Nat.le_of_ble_eq_true rfl, Nat.le_of_ble_eq_true rfl⟩ (fun H locs hP hS => ?_)
  refine lv_aload_n hx hb dX6_remove_40 rfl (lv_at hl 0 rfl) ?_
  refine g_get F hK hP inA4 (oS z2) (wC_S hz2) rfl 1 (by decide) wd_145 (v := .ref (b + (oL z2))) rfl dX6_remove_41 ?_
  obtain ⟨v44, q44, hf⟩ := cl_some hf
  refine g_calli F hK hP hS [] (c_X0_lineCount l D cI cO b z2 hz2 S_37 v44 q44) wd_559 wd_560 wd_561 wd_7 wd_562 (wC_L hz2) rfl hd_X0_lineCount rfl rfl ⟨Nat.le_of_ble_eq_true rfl, Nat.le_of_ble_eq_true rfl⟩ rfl hl (rest := []) rfl (Nat.le_of_ble_eq_true rfl) dX6_remove_44 ⟨Nat.le_of_ble_eq_true rfl, Nat.le_of_ble_eq_true rfl⟩ (fun H locs hP hS => ?_)
  exact t_iret F hr hlocks hQ ⟨Nat.le_of_ble_eq_true rfl, Nat.le_of_ble_eq_true rfl⟩ hK hP hS (Prod.mk.inj (Option.some.inj hf)).1 (Prod.mk.inj (Option.some.inj hf)).2 dX6_remove_47
abbrev rm_X6_note : Room := { frames := 7, cells := 5, slots := 30, locals := 132 }
theorem hd_X6_note : yX6_note.cls = RX6 ∧ yX6_note.cls ≠ "java/lang/invoke/MethodHandle" ∧ yX6_note.cls ≠ "java/lang/invoke/VarHandle" ∧ (parseMethodDescriptor yX6_note.desc).map (fun d => d.parameters.length) = some 3 := by decide +kernel
set_option maxRecDepth 100000 in
set_option maxHeartbeats 4000000 in
theorem c_X6_note (l : Launch) (hfl : l.stackTraces = false) (D : va_G) (cI cO : ClassId) (b : Nat) (S : St) (x1 : Int32) (x2 : Int32) (x3 : Int32) (r : Nat ⊕ Int32) (S1 : St) (hf : f_X6_note S x1 x2 x3 = some (r, S1)) : vx_Met l yX6_note (Cond.code yX6_note cX6_note 6 (some .int) :: wsAll) rm_X6_note (PXt D (wC cI cO b) (tyC cI cO) (AC b) S [.ref (b + 0), .int x1, .int x2, .int x3]) (Qti D (wC cI cO b) (tyC cI cO) (AC b) r S1) (Qtx D (wC cI cO b) (tyC cI cO) (AC b) (thr r) S1) 5 30 (AC b) := by
  unfold f_X6_note at hf
  refine t_met RX6 (by decide +kernel) (Nat.le_of_ble_eq_true rfl) rfl ?_
  intro p e s m args below meth c ls Q F hr hlocks hnt hX hK hP hl hQ
  have hx := F.1
  have hb := F.2.1
  have hS : va_S (AC b) s.heap s.heap [] := va_S.rf
  have hl : lv_has ls 6 [(0, .ref (b + 0)), (1, .int x1), (2, .int x2), (3, .int x3)] := hl
  refine lv_aload_n hx hb dX6_note_0 rfl (lv_at hl 0 rfl) ?_
  refine lv_iload_n hx hb dX6_note_1 rfl (lv_at hl 1 rfl) ?_
  obtain ⟨r2, q2, hf⟩ := cx_some' hf
  refine t_callr F hX hlocks hnt hQ hK hP hS [.int x1] (c_X6_siteOf l hfl D cI cO b S x1 r2 q2) wd_261 wd_263 wp_2 wd_1 wd_264 wC_M rfl hd_X6_siteOf rfl rfl ⟨Nat.le_of_ble_eq_true rfl, Nat.le_of_ble_eq_true rfl⟩ rfl hl (rest := []) rfl (Nat.le_of_ble_eq_true rfl) dX6_note_2 ⟨Nat.le_of_ble_eq_true rfl, Nat.le_of_ble_eq_true rfl⟩ ⟨Nat.le_of_ble_eq_true rfl, Nat.le_of_ble_eq_true rfl⟩ (fun e9 he9 => ⟨(th_i (el_l he9 hf)).1, (th_i (el_l he9 hf)).2⟩) (fun z2 hv H locs hP hS => ?_)
  have hz2 : z2 < 4 := siteOf_lt (by rw [q2, hv])
  replace hf := el_r hv hf
  refine lv_astore (lv' := [(4, .ref (b + (oS z2))), (0, .ref (b + 0)), (1, .int x1), (2, .int x2), (3, .int x3)]) hx hb dX6_note_5 hl (by decide) rfl (fun ls hl => ?_)
  refine lv_aload_n hx hb dX6_note_7 rfl (lv_at hl 1 rfl) ?_
  refine lv_aload hx hb dX6_note_8 (lv_at hl 0 rfl) ?_
  refine lv_iload_n hx hb dX6_note_10 rfl (lv_at hl 3 rfl) ?_
  obtain ⟨r11, q11, hf⟩ := cx_some' hf
  refine t_callv F hX hlocks hnt hQ hK hP hS [.ref (b + (oS z2)), .int x2] (c_X6_checkLineIsKnown l hfl D cI cO b S z2 x2 hz2 r11 q11) wd_334 wd_336 wp_4 wd_1 wd_337 wC_M rfl hd_X6_checkLineIsKnown rfl rfl ⟨Nat.le_of_ble_eq_true rfl, Nat.le_of_ble_eq_true rfl⟩ rfl hl (rest := []) rfl (Nat.le_of_ble_eq_true rfl) dX6_note_11 ⟨Nat.le_of_ble_eq_true rfl, Nat.le_of_ble_eq_true rfl⟩ ⟨Nat.le_of_ble_eq_true rfl, Nat.le_of_ble_eq_true rfl⟩ (fun e9 he9 => ⟨(th_i (el_l he9 hf)).1, (th_i (el_l he9 hf)).2⟩) (fun hv H locs hP hS => ?_)
  replace hf := el_r hv hf
  refine lv_iload_n hx hb dX6_note_14 rfl (lv_at hl 4 rfl) ?_
  refine lv_iconst (v := 1) hx hb dX6_note_15 (by decide) ?_
  obtain ⟨J24, eJ24, hf⟩ := jn_some hf
  have kJ24 : ∀ (H : Heap) (locs : List Loc) (ls : Array Slot), J24 = some (r, S1) → va_P D vwCl ((wC cI cO b) S) H → va_S (AC b) s.heap H locs → lv_has ls 6 [] → W p l e rm_X6_note s m args below meth c H locs 2 12 Q (F0 m 24 ls []) := by
    intro  H locs ls hf hP hS hl
    rw [eJ24] at hf
    exact t_throw (e9 := 2) (cls := "java/lang/IllegalArgumentException") (text := "no such number of rows") F hfl hX hlocks hnt hQ hK hP hS rfl rfl (th_i hf).1 (th_i hf).2 (by decide +kernel) wd_344 wd_14 (fun h1 h2 => at_2 h1 h2) hl dX6_note_24 dX6_note_27 dX6_note_28 dX6_note_30 dX6_note_33 (Nat.le_of_ble_eq_true rfl) (Nat.le_of_ble_eq_true rfl) (Nat.le_of_ble_eq_true rfl) (Nat.le_of_ble_eq_true rfl) ⟨Nat.le_of_ble_eq_true rfl, Nat.le_of_ble_eq_true rfl⟩
  clear eJ24
  refine lv_icmp_lt (tgt := 24) hx hb dX6_note_16 (by decide) (fun q => ?_) (fun q => ?_)
  · replace hf := ite_t q hf
    exact kJ24 _ _ _ hf hP hS (lv_sub hl [] rfl)
  · replace hf := ite_f q hf
    refine lv_iload_n hx hb dX6_note_19 rfl (lv_at hl 4 rfl) ?_
    refine lv_iconst (v := 3) hx hb dX6_note_20 (by decide) ?_
    refine lv_icmp_le (tgt := 34) hx hb dX6_note_21 (by decide) (fun q => ?_) (fun q => ?_)
    · replace hf := ite_t q hf
      refine lv_aload_n hx hb dX6_note_34 rfl (lv_at hl 1 rfl) ?_
      refine lv_aload hx hb dX6_note_35 (lv_at hl 0 rfl) ?_
      refine lv_iload_n hx hb dX6_note_37 rfl (lv_at hl 3 rfl) ?_
      obtain ⟨r38, q38, hf⟩ := cx_some' hf
      refine t_callv F hX hlocks hnt hQ hK hP hS [.ref (b + (oS z2)), .int x2] (c_X6_checkLineIsThere l hfl D cI cO b S z2 x2 hz2 r38 q38) wd_538 wd_540 wp_14 wd_1 wd_541 wC_M rfl hd_X6_checkLineIsThere rfl rfl ⟨Nat.le_of_ble_eq_true rfl, Nat.le_of_ble_eq_true rfl⟩ rfl hl (rest := []) rfl (Nat.le_of_ble_eq_true rfl) dX6_note_38 ⟨Nat.le_of_ble_eq_true rfl, Nat.le_of_ble_eq_true rfl⟩ ⟨Nat.le_of_ble_eq_true rfl, Nat.le_of_ble_eq_true rfl⟩ (fun e9 he9 => ⟨(th_i (el_l he9 hf)).1, (th_i (el_l he9 hf)).2⟩) (fun hv H locs hP hS => ?_)
      replace hf := el_r hv hf
      refine lv_aload_n hx hb dX6_note_41 rfl (lv_at hl 1 rfl) ?_
      obtain ⟨r42, q42, hf⟩ := cx_some' hf
      refine t_callv F hX hlocks hnt hQ hK hP hS [] (c_X6_checkRoomForDeed l hfl D cI cO b S r42 q42) wd_360 wd_362 wp_5 wd_1 wd_363 wC_M rfl hd_X6_checkRoomForDeed rfl rfl ⟨Nat.le_of_ble_eq_true rfl, Nat.le_of_ble_eq_true rfl⟩ rfl hl (rest := []) rfl (Nat.le_of_ble_eq_true rfl) dX6_note_42 ⟨Nat.le_of_ble_eq_true rfl, Nat.le_of_ble_eq_true rfl⟩ ⟨Nat.le_of_ble_eq_true rfl, Nat.le_of_ble_eq_true rfl⟩ (fun e9 he9 => ⟨(th_i (el_l he9 hf)).1, (th_i (el_l he9 hf)).2⟩) (fun hv H locs hP hS => ?_)
      replace hf := el_r hv hf
      refine lv_aload_n hx hb dX6_note_45 rfl (lv_at hl 1 rfl) ?_
      refine g_get F hK hP inA6 0 wC_M rfl 0 (by decide) wd_184 (v := .ref (b + 1)) rfl dX6_note_46 ?_
      refine lv_iload_n hx hb dX6_note_49 rfl (lv_at hl 4 rfl) ?_
      obtain ⟨v50, S_50, q50, hf⟩ := cl2_some hf
      refine g_calli F hK hP hS [.int x3] (c_X1_addNote l D cI cO b S x3 v50 S_50 q50) wd_571 wd_572 wd_573 wd_2 wd_574 wC_G rfl hd_X1_addNote rfl rfl ⟨Nat.le_of_ble_eq_true rfl, Nat.le_of_ble_eq_true rfl⟩ rfl hl (rest := []) rfl (Nat.le_of_ble_eq_true rfl) dX6_note_50 ⟨Nat.le_of_ble_eq_true rfl, Nat.le_of_ble_eq_true rfl⟩ (fun H locs hP hS => ?_)
      refine lv_istore (lv' := [(5, .int v50), (4, .ref (b + (oS z2))), (0, .ref (b + 0)), (1, .int x1), (2, .int x2), (3, .int x3)]) hx hb dX6_note_53 hl (by decide) rfl (fun ls hl => ?_)
      refine lv_aload hx hb dX6_note_55 (lv_at hl 1 rfl) ?_
      refine lv_aload_n hx hb dX6_note_57 rfl (lv_at hl 2 rfl) ?_
      refine g_get F hK hP inA6 0 wC_M rfl 0 (by decide) wd_184 (v := .ref (b + 1)) rfl dX6_note_58 ?_
      refine lv_iconst (v := 2) hx hb dX6_note_61 (by decide) ?_
      refine lv_aload hx hb dX6_note_62 (lv_at hl 1 rfl) ?_
      obtain ⟨v64, S_64, q64, hf⟩ := cl2_some hf
      refine g_calli F hK hP hS [] (c_X4_nextStamp l D cI cO b z2 hz2 S_50 v64 S_64 q64) wd_385 wd_386 wd_387 wd_5 wd_388 (wC_S hz2) rfl hd_X4_nextStamp rfl rfl ⟨Nat.le_of_ble_eq_true rfl, Nat.le_of_ble_eq_true rfl⟩ rfl hl (rest := [.int (2 : Int32), .ref (b + 1), .ref (b + (oS z2))]) rfl (Nat.le_of_ble_eq_true rfl) dX6_note_64 ⟨Nat.le_of_ble_eq_true rfl, Nat.le_of_ble_eq_true rfl⟩ (fun H locs hP hS => ?_)
      refine lv_iload hx hb dX6_note_67 (lv_at hl 0 rfl) ?_
      refine lv_iload_n hx hb dX6_note_69 rfl (lv_at hl 4 rfl) ?_
      obtain ⟨v70, S_70, q70, hf⟩ := cl2_some hf
      refine g_calli F hK hP hS [.int (2 : Int32), .int v64, .int v50, .int x2] (c_X1_addDeed l D cI cO b S_64 (2 : Int32) v64 v50 x2 v70 S_70 q70) wd_406 wd_407 wd_408 wd_2 wd_409 wC_G rfl hd_X1_addDeed rfl rfl ⟨Nat.le_of_ble_eq_true rfl, Nat.le_of_ble_eq_true rfl⟩ rfl hl (rest := [.ref (b + (oS z2))]) rfl (Nat.le_of_ble_eq_true rfl) dX6_note_70 ⟨Nat.le_of_ble_eq_true rfl, Nat.le_of_ble_eq_true rfl⟩ (fun H locs hP hS => ?_)
      obtain ⟨S_73, q73, hf⟩ := cl_some hf
      refine g_callv F hK hP hS [.int v70] (c_X4_take l D cI cO b z2 hz2 S_70 v70 S_73 q73) wd_410 wd_411 wd_412 wd_5 wd_413 (wC_S hz2) rfl hd_X4_take rfl rfl ⟨Nat.le_of_ble_eq_true rfl, Nat.le_of_ble_eq_true rfl⟩ rfl hl (rest := []) rfl (Nat.le_of_ble_eq_true rfl) dX6_note_73 ⟨Nat.le_of_ble_eq_true rfl, Nat.le_of_ble_eq_true rfl⟩ (fun H locs hP hS => ?_)
      refine lv_iload hx hb dX6_note_76 (lv_at hl 0 rfl) ?_
      exact t_iret F hr hlocks hQ ⟨Nat.le_of_ble_eq_true rfl, Nat.le_of_ble_eq_true rfl⟩ hK hP hS (Prod.mk.inj (Option.some.inj hf)).1 (Prod.mk.inj (Option.some.inj hf)).2 dX6_note_78
    · replace hf := ite_f q hf
      exact kJ24 _ _ _ hf hP hS (lv_sub hl [] rfl)
abbrev rm_X6_checkNoteIsKnown : Room := { frames := 6, cells := 1, slots := 6, locals := 86 }
theorem hd_X6_checkNoteIsKnown : yX6_checkNoteIsKnown.cls = RX6 ∧ yX6_checkNoteIsKnown.cls ≠ "java/lang/invoke/MethodHandle" ∧ yX6_checkNoteIsKnown.cls ≠ "java/lang/invoke/VarHandle" ∧ (parseMethodDescriptor yX6_checkNoteIsKnown.desc).map (fun d => d.parameters.length) = some 2 := by decide +kernel
set_option maxRecDepth 100000 in
set_option maxHeartbeats 4000000 in
theorem c_X6_checkNoteIsKnown (l : Launch) (hfl : l.stackTraces = false) (D : va_G) (cI cO : ClassId) (b : Nat) (S : St) (z1 : Nat) (x2 : Int32) (hz1 : z1 < 4) (r : Nat ⊕ Unit) (hf : f_X6_checkNoteIsKnown S z1 x2 = some r) : vx_Met l yX6_checkNoteIsKnown (Cond.code yX6_checkNoteIsKnown cX6_checkNoteIsKnown 3 none :: wsAll) rm_X6_checkNoteIsKnown (PXt D (wC cI cO b) (tyC cI cO) (AC b) S [.ref (b + 0), .ref (b + (oS z1)), .int x2]) (Qtv D (wC cI cO b) (tyC cI cO) (AC b) r S) (Qtx D (wC cI cO b) (tyC cI cO) (AC b) (thr r) S) 1 6 (AC b) := by
  unfold f_X6_checkNoteIsKnown at hf
  refine t_met RX6 (by decide +kernel) (Nat.le_of_ble_eq_true rfl) rfl ?_
  intro p e s m args below meth c ls Q F hr hlocks hnt hX hK hP hl hQ
  have hx := F.1
  have hb := F.2.1
  have hS : va_S (AC b) s.heap s.heap [] := va_S.rf
  have hl : lv_has ls 3 [(0, .ref (b + 0)), (1, .ref (b + (oS z1))), (2, .int x2)] := hl
  refine lv_aload_n hx hb dX6_checkNoteIsKnown_0 rfl (lv_at hl 1 rfl) ?_
  refine g_get F hK hP inA4 (oS z1) (wC_S hz1) rfl 0 (by decide) wd_143 (v := .ref (b + (oT z1))) rfl dX6_checkNoteIsKnown_1 ?_
  refine lv_iload_n hx hb dX6_checkNoteIsKnown_4 rfl (lv_at hl 2 rfl) ?_
  obtain ⟨v5, q5, hf⟩ := cl_some hf
  refine g_calli F hK hP hS [.int x2] (c_X5_knowsNote l D cI cO b z1 hz1 S x2 v5 q5) wd_586 wd_504 wd_505 wd_6 wd_506 (wC_T hz1) rfl hd_X5_knowsNote rfl rfl ⟨Nat.le_of_ble_eq_true rfl, Nat.le_of_ble_eq_true rfl⟩ rfl hl (rest := []) rfl (Nat.le_of_ble_eq_true rfl) dX6_checkNoteIsKnown_5 ⟨Nat.le_of_ble_eq_true rfl, Nat.le_of_ble_eq_true rfl⟩ (fun H locs hP hS => ?_)
  refine lv_if_ne (tgt := 21) hx hb dX6_checkNoteIsKnown_8 (by decide) (fun q => ?_) (fun q => ?_)
  · replace hf := ite_t q hf
    exact t_vret F hr hlocks hQ ⟨Nat.le_of_ble_eq_true rfl, Nat.le_of_ble_eq_true rfl⟩ hK hP hS (Option.some.inj hf) rfl dX6_checkNoteIsKnown_21
  · replace hf := ite_f (fun h => h q) hf
    exact t_throw (e9 := 1) (cls := "java/lang/IndexOutOfBoundsException") (text := "no such note") F hfl hX hlocks hnt hQ hK hP hS rfl rfl (th_p hf) rfl (by decide +kernel) wd_265 wd_13 (fun h1 h2 => at_1 h1 h2) hl dX6_checkNoteIsKnown_11 dX6_checkNoteIsKnown_14 dX6_checkNoteIsKnown_15 dX6_checkNoteIsKnown_17 dX6_checkNoteIsKnown_20 (Nat.le_of_ble_eq_true rfl) (Nat.le_of_ble_eq_true rfl) (Nat.le_of_ble_eq_true rfl) (Nat.le_of_ble_eq_true rfl) ⟨Nat.le_of_ble_eq_true rfl, Nat.le_of_ble_eq_true rfl⟩
abbrev rm_X6_move : Room := { frames := 7, cells := 5, slots := 30, locals := 132 }
theorem hd_X6_move : yX6_move.cls = RX6 ∧ yX6_move.cls ≠ "java/lang/invoke/MethodHandle" ∧ yX6_move.cls ≠ "java/lang/invoke/VarHandle" ∧ (parseMethodDescriptor yX6_move.desc).map (fun d => d.parameters.length) = some 3 := by decide +kernel
set_option maxRecDepth 100000 in
set_option maxHeartbeats 4000000 in
theorem c_X6_move (l : Launch) (hfl : l.stackTraces = false) (D : va_G) (cI cO : ClassId) (b : Nat) (S : St) (x1 : Int32) (x2 : Int32) (x3 : Int32) (r : Nat ⊕ Unit) (S1 : St) (hf : f_X6_move S x1 x2 x3 = some (r, S1)) : vx_Met l yX6_move (Cond.code yX6_move cX6_move 5 none :: wsAll) rm_X6_move (PXt D (wC cI cO b) (tyC cI cO) (AC b) S [.ref (b + 0), .int x1, .int x2, .int x3]) (Qtv D (wC cI cO b) (tyC cI cO) (AC b) r S1) (Qtx D (wC cI cO b) (tyC cI cO) (AC b) (thr r) S1) 5 30 (AC b) := by
  unfold f_X6_move at hf
  refine t_met RX6 (by decide +kernel) (Nat.le_of_ble_eq_true rfl) rfl ?_
  intro p e s m args below meth c ls Q F hr hlocks hnt hX hK hP hl hQ
  have hx := F.1
  have hb := F.2.1
  have hS : va_S (AC b) s.heap s.heap [] := va_S.rf
  have hl : lv_has ls 5 [(0, .ref (b + 0)), (1, .int x1), (2, .int x2), (3, .int x3)] := hl
  refine lv_aload_n hx hb dX6_move_0 rfl (lv_at hl 0 rfl) ?_
  refine lv_iload_n hx hb dX6_move_1 rfl (lv_at hl 1 rfl) ?_
  obtain ⟨r2, q2, hf⟩ := cx_some' hf
  refine t_callr F hX hlocks hnt hQ hK hP hS [.int x1] (c_X6_siteOf l hfl D cI cO b S x1 r2 q2) wd_261 wd_263 wp_2 wd_1 wd_264 wC_M rfl hd_X6_siteOf rfl rfl ⟨Nat.le_of_ble_eq_true rfl, Nat.le_of_ble_eq_true rfl⟩ rfl hl (rest := []) rfl (Nat.le_of_ble_eq_true rfl) dX6_move_2 ⟨Nat.le_of_ble_eq_true rfl, Nat.le_of_ble_eq_true rfl⟩ ⟨Nat.le_of_ble_eq_true rfl, Nat.le_of_ble_eq_true rfl⟩ (fun e9 he9 => ⟨(th_i (el_l he9 hf)).1, (th_i (el_l he9 hf)).2⟩) (fun z2 hv H locs hP hS => ?_)
  have hz2 : z2 < 4 := siteOf_lt (by rw [q2, hv])
  replace hf := el_r hv hf
  refine lv_astore (lv' := [(4, .ref (b + (oS z2))), (0, .ref (b + 0)), (1, .int x1), (2, .int x2), (3, .int x3)]) hx hb dX6_move_5 hl (by decide) rfl (fun ls hl => ?_)
  refine lv_aload_n hx hb dX6_move_7 rfl (lv_at hl 1 rfl) ?_
  refine lv_aload hx hb dX6_move_8 (lv_at hl 0 rfl) ?_
  refine lv_iload_n hx hb dX6_move_10 rfl (lv_at hl 3 rfl) ?_
  obtain ⟨r11, q11, hf⟩ := cx_some' hf
  refine t_callv F hX hlocks hnt hQ hK hP hS [.ref (b + (oS z2)), .int x2] (c_X6_checkNoteIsKnown l hfl D cI cO b S z2 x2 hz2 r11 q11) wd_582 wd_584 wp_15 wd_1 wd_585 wC_M rfl hd_X6_checkNoteIsKnown rfl rfl ⟨Nat.le_of_ble_eq_true rfl, Nat.le_of_ble_eq_true rfl⟩ rfl hl (rest := []) rfl (Nat.le_of_ble_eq_true rfl) dX6_move_11 ⟨Nat.le_of_ble_eq_true rfl, Nat.le_of_ble_eq_true rfl⟩ ⟨Nat.le_of_ble_eq_true rfl, Nat.le_of_ble_eq_true rfl⟩ (fun e9 he9 => ⟨(th_i (el_l he9 hf)).1, (th_i (el_l he9 hf)).2⟩) (fun hv H locs hP hS => ?_)
  replace hf := el_r hv hf
  refine lv_aload_n hx hb dX6_move_14 rfl (lv_at hl 1 rfl) ?_
  refine lv_aload hx hb dX6_move_15 (lv_at hl 0 rfl) ?_
  refine lv_iload_n hx hb dX6_move_17 rfl (lv_at hl 4 rfl) ?_
  obtain ⟨r18, q18, hf⟩ := cx_some' hf
  refine t_callv F hX hlocks hnt hQ hK hP hS [.ref (b + (oS z2)), .int x3] (c_X6_checkLineIsKnown l hfl D cI cO b S z2 x3 hz2 r18 q18) wd_334 wd_336 wp_4 wd_1 wd_337 wC_M rfl hd_X6_checkLineIsKnown rfl rfl ⟨Nat.le_of_ble_eq_true rfl, Nat.le_of_ble_eq_true rfl⟩ rfl hl (rest := []) rfl (Nat.le_of_ble_eq_true rfl) dX6_move_18 ⟨Nat.le_of_ble_eq_true rfl, Nat.le_of_ble_eq_true rfl⟩ ⟨Nat.le_of_ble_eq_true rfl, Nat.le_of_ble_eq_true rfl⟩ (fun e9 he9 => ⟨(th_i (el_l he9 hf)).1, (th_i (el_l he9 hf)).2⟩) (fun hv H locs hP hS => ?_)
  replace hf := el_r hv hf
  refine lv_aload_n hx hb dX6_move_21 rfl (lv_at hl 1 rfl) ?_
  refine lv_aload hx hb dX6_move_22 (lv_at hl 0 rfl) ?_
  refine lv_iload_n hx hb dX6_move_24 rfl (lv_at hl 4 rfl) ?_
  obtain ⟨r25, q25, hf⟩ := cx_some' hf
  refine t_callv F hX hlocks hnt hQ hK hP hS [.ref (b + (oS z2)), .int x3] (c_X6_checkLineIsThere l hfl D cI cO b S z2 x3 hz2 r25 q25) wd_538 wd_540 wp_14 wd_1 wd_541 wC_M rfl hd_X6_checkLineIsThere rfl rfl ⟨Nat.le_of_ble_eq_true rfl, Nat.le_of_ble_eq_true rfl⟩ rfl hl (rest := []) rfl (Nat.le_of_ble_eq_true rfl) dX6_move_25 ⟨Nat.le_of_ble_eq_true rfl, Nat.le_of_ble_eq_true rfl⟩ ⟨Nat.le_of_ble_eq_true rfl, Nat.le_of_ble_eq_true rfl⟩ (fun e9 he9 => ⟨(th_i (el_l he9 hf)).1, (th_i (el_l he9 hf)).2⟩) (fun hv H locs hP hS => ?_)
  replace hf := el_r hv hf
  refine lv_aload_n hx hb dX6_move_28 rfl (lv_at hl 1 rfl) ?_
  obtain ⟨r29, q29, hf⟩ := cx_some' hf
  refine t_callv F hX hlocks hnt hQ hK hP hS [] (c_X6_checkRoomForDeed l hfl D cI cO b S r29 q29) wd_360 wd_362 wp_5 wd_1 wd_363 wC_M rfl hd_X6_checkRoomForDeed rfl rfl ⟨Nat.le_of_ble_eq_true rfl, Nat.le_of_ble_eq_true rfl⟩ rfl hl (rest := []) rfl (Nat.le_of_ble_eq_true rfl) dX6_move_29 ⟨Nat.le_of_ble_eq_true rfl, Nat.le_of_ble_eq_true rfl⟩ ⟨Nat.le_of_ble_eq_true rfl, Nat.le_of_ble_eq_true rfl⟩ (fun e9 he9 => ⟨(th_i (el_l he9 hf)).1, (th_i (el_l he9 hf)).2⟩) (fun hv H locs hP hS => ?_)
  replace hf := el_r hv hf
  refine lv_aload hx hb dX6_move_32 (lv_at hl 0 rfl) ?_
  refine lv_aload_n hx hb dX6_move_34 rfl (lv_at hl 1 rfl) ?_
  refine g_get F hK hP inA6 0 wC_M rfl 0 (by decide) wd_184 (v := .ref (b + 1)) rfl dX6_move_35 ?_
  refine lv_iconst (v := 3) hx hb dX6_move_38 (by decide) ?_
  refine lv_aload hx hb dX6_move_39 (lv_at hl 0 rfl) ?_
  obtain ⟨v41, S_41, q41, hf⟩ := cl2_some hf
  refine g_calli F hK hP hS [] (c_X4_nextStamp l D cI cO b z2 hz2 S v41 S_41 q41) wd_385 wd_386 wd_387 wd_5 wd_388 (wC_S hz2) rfl hd_X4_nextStamp rfl rfl ⟨Nat.le_of_ble_eq_true rfl, Nat.le_of_ble_eq_true rfl⟩ rfl hl (rest := [.int (3 : Int32), .ref (b + 1), .ref (b + (oS z2))]) rfl (Nat.le_of_ble_eq_true rfl) dX6_move_41 ⟨Nat.le_of_ble_eq_true rfl, Nat.le_of_ble_eq_true rfl⟩ (fun H locs hP hS => ?_)
  refine lv_iload_n hx hb dX6_move_44 rfl (lv_at hl 3 rfl) ?_
  refine lv_iload_n hx hb dX6_move_45 rfl (lv_at hl 4 rfl) ?_
  obtain ⟨v46, S_46, q46, hf⟩ := cl2_some hf
  refine g_calli F hK hP hS [.int (3 : Int32), .int v41, .int x2, .int x3] (c_X1_addDeed l D cI cO b S_41 (3 : Int32) v41 x2 x3 v46 S_46 q46) wd_406 wd_407 wd_408 wd_2 wd_409 wC_G rfl hd_X1_addDeed rfl rfl ⟨Nat.le_of_ble_eq_true rfl, Nat.le_of_ble_eq_true rfl⟩ rfl hl (rest := [.ref (b + (oS z2))]) rfl (Nat.le_of_ble_eq_true rfl) dX6_move_46 ⟨Nat.le_of_ble_eq_true rfl, Nat.le_of_ble_eq_true rfl⟩ (fun H locs hP hS => ?_)
  obtain ⟨S_49, q49, hf⟩ := cl_some hf
  refine g_callv F hK hP hS [.int v46] (c_X4_take l D cI cO b z2 hz2 S_46 v46 S_49 q49) wd_410 wd_411 wd_412 wd_5 wd_413 (wC_S hz2) rfl hd_X4_take rfl rfl ⟨Nat.le_of_ble_eq_true rfl, Nat.le_of_ble_eq_true rfl⟩ rfl hl (rest := []) rfl (Nat.le_of_ble_eq_true rfl) dX6_move_49 ⟨Nat.le_of_ble_eq_true rfl, Nat.le_of_ble_eq_true rfl⟩ (fun H locs hP hS => ?_)
  exact t_vret F hr hlocks hQ ⟨Nat.le_of_ble_eq_true rfl, Nat.le_of_ble_eq_true rfl⟩ hK hP hS (Prod.mk.inj (Option.some.inj hf)).1 (Prod.mk.inj (Option.some.inj hf)).2 dX6_move_52
abbrev rm_X6_sync : Room := { frames := 7, cells := 2, slots := 12, locals := 135 }
theorem hd_X6_sync : yX6_sync.cls = RX6 ∧ yX6_sync.cls ≠ "java/lang/invoke/MethodHandle" ∧ yX6_sync.cls ≠ "java/lang/invoke/VarHandle" ∧ (parseMethodDescriptor yX6_sync.desc).map (fun d => d.parameters.length) = some 2 := by decide +kernel
set_option maxRecDepth 100000 in
set_option maxHeartbeats 4000000 in
theorem c_X6_sync (l : Launch) (hfl : l.stackTraces = false) (D : va_G) (cI cO : ClassId) (b : Nat) (S : St) (x1 : Int32) (x2 : Int32) (r : Nat ⊕ Int32) (S1 : St) (hf : f_X6_sync S x1 x2 = some (r, S1)) : vx_Met l yX6_sync (Cond.code yX6_sync cX6_sync 5 (some .int) :: wsAll) rm_X6_sync (PXt D (wC cI cO b) (tyC cI cO) (AC b) S [.ref (b + 0), .int x1, .int x2]) (Qti D (wC cI cO b) (tyC cI cO) (AC b) r S1) (Qtx D (wC cI cO b) (tyC cI cO) (AC b) (thr r) S1) 2 12 (AC b) := by
  unfold f_X6_sync at hf
  refine t_met RX6 (by decide +kernel) (Nat.le_of_ble_eq_true rfl) rfl ?_
  intro p e s m args below meth c ls Q F hr hlocks hnt hX hK hP hl hQ
  have hx := F.1
  have hb := F.2.1
  have hS : va_S (AC b) s.heap s.heap [] := va_S.rf
  have hl : lv_has ls 5 [(0, .ref (b + 0)), (1, .int x1), (2, .int x2)] := hl
  refine lv_aload_n hx hb dX6_sync_0 rfl (lv_at hl 0 rfl) ?_
  refine lv_iload_n hx hb dX6_sync_1 rfl (lv_at hl 1 rfl) ?_
  obtain ⟨r2, q2, hf⟩ := cx_some' hf
  refine t_callr F hX hlocks hnt hQ hK hP hS [.int x1] (c_X6_siteOf l hfl D cI cO b S x1 r2 q2) wd_261 wd_263 wp_2 wd_1 wd_264 wC_M rfl hd_X6_siteOf rfl rfl ⟨Nat.le_of_ble_eq_true rfl, Nat.le_of_ble_eq_true rfl⟩ rfl hl (rest := []) rfl (Nat.le_of_ble_eq_true rfl) dX6_sync_2 ⟨Nat.le_of_ble_eq_true rfl, Nat.le_of_ble_eq_true rfl⟩ ⟨Nat.le_of_ble_eq_true rfl, Nat.le_of_ble_eq_true rfl⟩ (fun e9 he9 => ⟨(th_i (el_l he9 hf)).1, (th_i (el_l he9 hf)).2⟩) (fun z2 hv H locs hP hS => ?_)
  have hz2 : z2 < 4 := siteOf_lt (by rw [q2, hv])
  replace hf := el_r hv hf
  refine lv_astore_n (lv' := [(3, .ref (b + (oS z2))), (0, .ref (b + 0)), (1, .int x1), (2, .int x2)]) hx hb dX6_sync_5 rfl hl (by decide) rfl (fun ls hl => ?_)
  refine lv_aload_n hx hb dX6_sync_6 rfl (lv_at hl 1 rfl) ?_
  refine lv_iload_n hx hb dX6_sync_7 rfl (lv_at hl 3 rfl) ?_
  obtain ⟨r8, q8, hf⟩ := cx_some' hf
  refine t_callr F hX hlocks hnt hQ hK hP hS [.int x2] (c_X6_siteOf l hfl D cI cO b S x2 r8 q8) wd_261 wd_263 wp_2 wd_1 wd_264 wC_M rfl hd_X6_siteOf rfl rfl ⟨Nat.le_of_ble_eq_true rfl, Nat.le_of_ble_eq_true rfl⟩ rfl hl (rest := []) rfl (Nat.le_of_ble_eq_true rfl) dX6_sync_8 ⟨Nat.le_of_ble_eq_true rfl, Nat.le_of_ble_eq_true rfl⟩ ⟨Nat.le_of_ble_eq_true rfl, Nat.le_of_ble_eq_true rfl⟩ (fun e9 he9 => ⟨(th_i (el_l he9 hf)).1, (th_i (el_l he9 hf)).2⟩) (fun z8 hv H locs hP hS => ?_)
  have hz8 : z8 < 4 := siteOf_lt (by rw [q8, hv])
  replace hf := el_r hv hf
  refine lv_astore (lv' := [(4, .ref (b + (oS z8))), (3, .ref (b + (oS z2))), (0, .ref (b + 0)), (1, .int x1), (2, .int x2)]) hx hb dX6_sync_11 hl (by decide) rfl (fun ls hl => ?_)
  refine lv_aload hx hb dX6_sync_13 (lv_at hl 0 rfl) ?_
  refine lv_aload_n hx hb dX6_sync_15 rfl (lv_at hl 1 rfl) ?_
  obtain ⟨v16, S_16, q16, hf⟩ := cl2_some hf
  refine g_calli F hK hP hS [.ref (b + (oS z2))] (c_X4_takeAllOf l D cI cO b z8 hz8 S z2 hz2 v16 S_16 q16) wd_595 wd_596 wd_597 wd_5 wd_598 (wC_S hz8) rfl hd_X4_takeAllOf rfl rfl ⟨Nat.le_of_ble_eq_true rfl, Nat.le_of_ble_eq_true rfl⟩ rfl hl (rest := []) rfl (Nat.le_of_ble_eq_true rfl) dX6_sync_16 ⟨Nat.le_of_ble_eq_true rfl, Nat.le_of_ble_eq_true rfl⟩ (fun H locs hP hS => ?_)
  exact t_iret F hr hlocks hQ ⟨Nat.le_of_ble_eq_true rfl, Nat.le_of_ble_eq_true rfl⟩ hK hP hS (Prod.mk.inj (Option.some.inj hf)).1 (Prod.mk.inj (Option.some.inj hf)).2 dX6_sync_19
abbrev rm_X6_print : Room := { frames := 6, cells := 1, slots := 6, locals := 112 }
theorem hd_X6_print : yX6_print.cls = RX6 ∧ yX6_print.cls ≠ "java/lang/invoke/MethodHandle" ∧ yX6_print.cls ≠ "java/lang/invoke/VarHandle" ∧ (parseMethodDescriptor yX6_print.desc).map (fun d => d.parameters.length) = some 0 := by decide +kernel
set_option maxRecDepth 100000 in
set_option maxHeartbeats 4000000 in
theorem c_X6_print (l : Launch) (hfl : l.stackTraces = false) (D : va_G) (cI cO : ClassId) (b : Nat) (S : St) (r : Nat ⊕ Int32) (S1 : St) (hf : f_X6_print S = some (r, S1)) : vx_Met l yX6_print (Cond.code yX6_print cX6_print 1 (some .int) :: wsAll) rm_X6_print (PXt D (wC cI cO b) (tyC cI cO) (AC b) S [.ref (b + 0)]) (Qti D (wC cI cO b) (tyC cI cO) (AC b) r S1) (Qtx D (wC cI cO b) (tyC cI cO) (AC b) (thr r) S1) 1 6 (AC b) := by
  unfold f_X6_print at hf
  refine t_met RX6 (by decide +kernel) (Nat.le_of_ble_eq_true rfl) rfl ?_
  intro p e s m args below meth c ls Q F hr hlocks hnt hX hK hP hl hQ
  have hx := F.1
  have hb := F.2.1
  have hS : va_S (AC b) s.heap s.heap [] := va_S.rf
  have hl : lv_has ls 1 [(0, .ref (b + 0))] := hl
  refine lv_aload_n hx hb dX6_print_0 rfl (lv_at hl 0 rfl) ?_
  refine g_get F hK hP inA6 0 wC_M rfl 2 (by decide) wd_186 (v := .ref (b + 129)) rfl dX6_print_1 ?_
  obtain ⟨v4, q4, hf⟩ := cl_some hf
  refine g_calli F hK hP hS [] (c_X3_hasPageToPrint l D cI cO b S v4 q4) wd_608 wd_609 wd_610 wd_8 wd_611 wC_P rfl hd_X3_hasPageToPrint rfl rfl ⟨Nat.le_of_ble_eq_true rfl, Nat.le_of_ble_eq_true rfl⟩ rfl hl (rest := []) rfl (Nat.le_of_ble_eq_true rfl) dX6_print_4 ⟨Nat.le_of_ble_eq_true rfl, Nat.le_of_ble_eq_true rfl⟩ (fun H locs hP hS => ?_)
  refine lv_if_ne (tgt := 20) hx hb dX6_print_7 (by decide) (fun q => ?_) (fun q => ?_)
  · replace hf := ite_t q hf
    refine lv_aload_n hx hb dX6_print_20 rfl (lv_at hl 0 rfl) ?_
    refine g_get F hK hP inA6 0 wC_M rfl 2 (by decide) wd_186 (v := .ref (b + 129)) rfl dX6_print_21 ?_
    obtain ⟨v24, S_24, q24, hf⟩ := cl2_some hf
    refine g_calli F hK hP hS [] (c_X3_printSheet l D cI cO b S v24 S_24 q24) wd_617 wd_618 wd_619 wd_8 wd_620 wC_P rfl hd_X3_printSheet rfl rfl ⟨Nat.le_of_ble_eq_true rfl, Nat.le_of_ble_eq_true rfl⟩ rfl hl (rest := []) rfl (Nat.le_of_ble_eq_true rfl) dX6_print_24 ⟨Nat.le_of_ble_eq_true rfl, Nat.le_of_ble_eq_true rfl⟩ (fun H locs hP hS => ?_)
    exact t_iret F hr hlocks hQ ⟨Nat.le_of_ble_eq_true rfl, Nat.le_of_ble_eq_true rfl⟩ hK hP hS (Prod.mk.inj (Option.some.inj hf)).1 (Prod.mk.inj (Option.some.inj hf)).2 dX6_print_27
  · replace hf := ite_f (fun h => h q) hf
    exact t_throw (e9 := 3) (cls := "java/lang/IllegalStateException") (text := "no page to print") F hfl hX hlocks hnt hQ hK hP hS rfl rfl (th_i hf).1 (th_i hf).2 (by decide +kernel) wd_369 wd_15 (fun h1 h2 => at_3 h1 h2) hl dX6_print_10 dX6_print_13 dX6_print_14 dX6_print_16 dX6_print_19 (Nat.le_of_ble_eq_true rfl) (Nat.le_of_ble_eq_true rfl) (Nat.le_of_ble_eq_true rfl) (Nat.le_of_ble_eq_true rfl) ⟨Nat.le_of_ble_eq_true rfl, Nat.le_of_ble_eq_true rfl⟩
abbrev rm_X6_sheets : Room := { frames := 2, cells := 0, slots := 0, locals := 40 }
theorem hd_X6_sheets : yX6_sheets.cls = RX6 ∧ yX6_sheets.cls ≠ "java/lang/invoke/MethodHandle" ∧ yX6_sheets.cls ≠ "java/lang/invoke/VarHandle" ∧ (parseMethodDescriptor yX6_sheets.desc).map (fun d => d.parameters.length) = some 0 := by decide +kernel
set_option maxRecDepth 100000 in
set_option maxHeartbeats 4000000 in
theorem c_X6_sheets (l : Launch) (D : va_G) (cI cO : ClassId) (b : Nat) (S : St) (r : Int32) (hf : f_X6_sheets S = some r) : Met l yX6_sheets (Cond.code yX6_sheets cX6_sheets 1 (some .int) :: wsAll) rm_X6_sheets (PX D (wC cI cO b) (tyC cI cO) S [.ref (b + 0)]) (Qi D (wC cI cO b) (tyC cI cO) (AC b) r S) 0 0 (AC b) := by
  unfold f_X6_sheets at hf
  refine g_met RX6 (by decide +kernel) (Nat.le_of_ble_eq_true rfl) rfl ?_
  intro p e s m args below meth c ls Q F hr hlocks hK hP hl hQ
  have hx := F.1
  have hb := F.2.1
  have hS : va_S (AC b) s.heap s.heap [] := va_S.rf
  have hl : lv_has ls 1 [(0, .ref (b + 0))] := hl
  refine lv_aload_n hx hb dX6_sheets_0 rfl (lv_at hl 0 rfl) ?_
  refine g_get F hK hP inA6 0 wC_M rfl 2 (by decide) wd_186 (v := .ref (b + 129)) rfl dX6_sheets_1 ?_
  obtain ⟨v4, q4, hf⟩ := cl_some hf
  refine g_calli F hK hP hS [] (c_X3_sheetCount l D cI cO b S v4 q4) wd_198 wd_199 wd_200 wd_8 wd_201 wC_P rfl hd_X3_sheetCount rfl rfl ⟨Nat.le_of_ble_eq_true rfl, Nat.le_of_ble_eq_true rfl⟩ rfl hl (rest := []) rfl (Nat.le_of_ble_eq_true rfl) dX6_sheets_4 ⟨Nat.le_of_ble_eq_true rfl, Nat.le_of_ble_eq_true rfl⟩ (fun H locs hP hS => ?_)
  exact g_iret F hr hlocks hQ hK hP hS (Option.some.inj hf) rfl dX6_sheets_7
abbrev rm_X6_differs : Room := { frames := 6, cells := 1, slots := 6, locals := 86 }
theorem hd_X6_differs : yX6_differs.cls = RX6 ∧ yX6_differs.cls ≠ "java/lang/invoke/MethodHandle" ∧ yX6_differs.cls ≠ "java/lang/invoke/VarHandle" ∧ (parseMethodDescriptor yX6_differs.desc).map (fun d => d.parameters.length) = some 1 := by decide +kernel
set_option maxRecDepth 100000 in
set_option maxHeartbeats 4000000 in
theorem c_X6_differs (l : Launch) (hfl : l.stackTraces = false) (D : va_G) (cI cO : ClassId) (b : Nat) (S : St) (x1 : Int32) (r : Nat ⊕ Int32) (hf : f_X6_differs S x1 = some r) : vx_Met l yX6_differs (Cond.code yX6_differs cX6_differs 2 (some .int) :: wsAll) rm_X6_differs (PXt D (wC cI cO b) (tyC cI cO) (AC b) S [.ref (b + 0), .int x1]) (Qti D (wC cI cO b) (tyC cI cO) (AC b) r S) (Qtx D (wC cI cO b) (tyC cI cO) (AC b) (thr r) S) 1 6 (AC b) := by
  unfold f_X6_differs at hf
  refine t_met RX6 (by decide +kernel) (Nat.le_of_ble_eq_true rfl) rfl ?_
  intro p e s m args below meth c ls Q F hr hlocks hnt hX hK hP hl hQ
  have hx := F.1
  have hb := F.2.1
  have hS : va_S (AC b) s.heap s.heap [] := va_S.rf
  have hl : lv_has ls 2 [(0, .ref (b + 0)), (1, .int x1)] := hl
  refine lv_iload_n hx hb dX6_differs_0 rfl (lv_at hl 1 rfl) ?_
  obtain ⟨J15, eJ15, hf⟩ := jn_some hf
  have kJ15 : ∀ (H : Heap) (locs : List Loc) (ls : Array Slot), J15 = some r → va_P D vwCl ((wC cI cO b) S) H → va_S (AC b) s.heap H locs → lv_has ls 2 [] → W p l e rm_X6_differs s m args below meth c H locs 0 0 Q (F0 m 15 ls []) := by
    intro  H locs ls hf hP hS hl
    rw [eJ15] at hf
    exact t_throw (e9 := 1) (cls := "java/lang/IndexOutOfBoundsException") (text := "not printed") F hfl hX hlocks hnt hQ hK hP hS rfl rfl (th_p hf) rfl (by decide +kernel) wd_265 wd_13 (fun h1 h2 => at_1 h1 h2) hl dX6_differs_15 dX6_differs_18 dX6_differs_19 dX6_differs_21 dX6_differs_24 (Nat.le_of_ble_eq_true rfl) (Nat.le_of_ble_eq_true rfl) (Nat.le_of_ble_eq_true rfl) (Nat.le_of_ble_eq_true rfl) ⟨Nat.le_of_ble_eq_true rfl, Nat.le_of_ble_eq_true rfl⟩
  clear eJ15
  refine lv_if_lt (tgt := 15) hx hb dX6_differs_1 (by decide) (fun q => ?_) (fun q => ?_)
  · replace hf := ite_t q hf
    exact kJ15 _ _ _ hf hP hS (lv_sub hl [] rfl)
  · replace hf := ite_f q hf
    refine lv_iload_n hx hb dX6_differs_4 rfl (lv_at hl 1 rfl) ?_
    refine lv_aload_n hx hb dX6_differs_5 rfl (lv_at hl 0 rfl) ?_
    refine g_get F hK hP inA6 0 wC_M rfl 2 (by decide) wd_186 (v := .ref (b + 129)) rfl dX6_differs_6 ?_
    obtain ⟨v9, q9, hf⟩ := cl_some hf
    refine g_calli F hK hP hS [] (c_X3_pageCount l D cI cO b S v9 q9) wd_634 wd_215 wd_216 wd_8 wd_217 wC_P rfl hd_X3_pageCount rfl rfl ⟨Nat.le_of_ble_eq_true rfl, Nat.le_of_ble_eq_true rfl⟩ rfl hl (rest := [.int x1]) rfl (Nat.le_of_ble_eq_true rfl) dX6_differs_9 ⟨Nat.le_of_ble_eq_true rfl, Nat.le_of_ble_eq_true rfl⟩ (fun H locs hP hS => ?_)
    refine lv_icmp_lt (tgt := 25) hx hb dX6_differs_12 (by decide) (fun q => ?_) (fun q => ?_)
    · replace hf := ite_t q hf
      refine lv_aload_n hx hb dX6_differs_25 rfl (lv_at hl 0 rfl) ?_
      refine g_get F hK hP inA6 0 wC_M rfl 2 (by decide) wd_186 (v := .ref (b + 129)) rfl dX6_differs_26 ?_
      refine lv_iload_n hx hb dX6_differs_29 rfl (lv_at hl 1 rfl) ?_
      obtain ⟨v30, q30, hf⟩ := cl_some hf
      refine g_calli F hK hP hS [.int x1] (c_X3_difference l D cI cO b S x1 v30 q30) wd_636 wd_223 wd_224 wd_8 wd_225 wC_P rfl hd_X3_difference rfl rfl ⟨Nat.le_of_ble_eq_true rfl, Nat.le_of_ble_eq_true rfl⟩ rfl hl (rest := []) rfl (Nat.le_of_ble_eq_true rfl) dX6_differs_30 ⟨Nat.le_of_ble_eq_true rfl, Nat.le_of_ble_eq_true rfl⟩ (fun H locs hP hS => ?_)
      exact t_iret F hr hlocks hQ ⟨Nat.le_of_ble_eq_true rfl, Nat.le_of_ble_eq_true rfl⟩ hK hP hS (Option.some.inj hf) rfl dX6_differs_33
    · replace hf := ite_f q hf
      exact kJ15 _ _ _ hf hP hS (lv_sub hl [] rfl)
abbrev rm_X6_cost : Room := { frames := 5, cells := 0, slots := 0, locals := 117 }
theorem hd_X6_cost : yX6_cost.cls = RX6 ∧ yX6_cost.cls ≠ "java/lang/invoke/MethodHandle" ∧ yX6_cost.cls ≠ "java/lang/invoke/VarHandle" ∧ (parseMethodDescriptor yX6_cost.desc).map (fun d => d.parameters.length) = some 0 := by decide +kernel
set_option maxRecDepth 100000 in
set_option maxHeartbeats 4000000 in
theorem c_X6_cost (l : Launch) (D : va_G) (cI cO : ClassId) (b : Nat) (S : St) (r : Int32) (hf : f_X6_cost S = some r) : Met l yX6_cost (Cond.code yX6_cost cX6_cost 1 (some .int) :: wsAll) rm_X6_cost (PX D (wC cI cO b) (tyC cI cO) S [.ref (b + 0)]) (Qi D (wC cI cO b) (tyC cI cO) (AC b) r S) 0 0 (AC b) := by
  unfold f_X6_cost at hf
  refine g_met RX6 (by decide +kernel) (Nat.le_of_ble_eq_true rfl) rfl ?_
  intro p e s m args below meth c ls Q F hr hlocks hK hP hl hQ
  have hx := F.1
  have hb := F.2.1
  have hS : va_S (AC b) s.heap s.heap [] := va_S.rf
  have hl : lv_has ls 1 [(0, .ref (b + 0))] := hl
  refine lv_aload_n hx hb dX6_cost_0 rfl (lv_at hl 0 rfl) ?_
  refine g_get F hK hP inA6 0 wC_M rfl 2 (by decide) wd_186 (v := .ref (b + 129)) rfl dX6_cost_1 ?_
  obtain ⟨v4, q4, hf⟩ := cl_some hf
  refine g_calli F hK hP hS [] (c_X3_bill l D cI cO b S v4 q4) wd_210 wd_211 wd_212 wd_8 wd_213 wC_P rfl hd_X3_bill rfl rfl ⟨Nat.le_of_ble_eq_true rfl, Nat.le_of_ble_eq_true rfl⟩ rfl hl (rest := []) rfl (Nat.le_of_ble_eq_true rfl) dX6_cost_4 ⟨Nat.le_of_ble_eq_true rfl, Nat.le_of_ble_eq_true rfl⟩ (fun H locs hP hS => ?_)
  exact g_iret F hr hlocks hQ hK hP hS (Option.some.inj hf) rfl dX6_cost_7
abbrev rm_X6_lines : Room := { frames := 7, cells := 1, slots := 6, locals := 107 }
theorem hd_X6_lines : yX6_lines.cls = RX6 ∧ yX6_lines.cls ≠ "java/lang/invoke/MethodHandle" ∧ yX6_lines.cls ≠ "java/lang/invoke/VarHandle" ∧ (parseMethodDescriptor yX6_lines.desc).map (fun d => d.parameters.length) = some 1 := by decide +kernel
set_option maxRecDepth 100000 in
set_option maxHeartbeats 4000000 in
theorem c_X6_lines (l : Launch) (hfl : l.stackTraces = false) (D : va_G) (cI cO : ClassId) (b : Nat) (S : St) (x1 : Int32) (r : Nat ⊕ Int32) (hf : f_X6_lines S x1 = some r) : vx_Met l yX6_lines (Cond.code yX6_lines cX6_lines 2 (some .int) :: wsAll) rm_X6_lines (PXt D (wC cI cO b) (tyC cI cO) (AC b) S [.ref (b + 0), .int x1]) (Qti D (wC cI cO b) (tyC cI cO) (AC b) r S) (Qtx D (wC cI cO b) (tyC cI cO) (AC b) (thr r) S) 1 6 (AC b) := by
  unfold f_X6_lines at hf
  refine t_met RX6 (by decide +kernel) (Nat.le_of_ble_eq_true rfl) rfl ?_
  intro p e s m args below meth c ls Q F hr hlocks hnt hX hK hP hl hQ
  have hx := F.1
  have hb := F.2.1
  have hS : va_S (AC b) s.heap s.heap [] := va_S.rf
  have hl : lv_has ls 2 [(0, .ref (b + 0)), (1, .int x1)] := hl
  refine lv_aload_n hx hb dX6_lines_0 rfl (lv_at hl 0 rfl) ?_
  refine lv_iload_n hx hb dX6_lines_1 rfl (lv_at hl 1 rfl) ?_
  obtain ⟨r2, q2, hf⟩ := cx_some' hf
  refine t_callr F hX hlocks hnt hQ hK hP hS [.int x1] (c_X6_siteOf l hfl D cI cO b S x1 r2 q2) wd_261 wd_263 wp_2 wd_1 wd_264 wC_M rfl hd_X6_siteOf rfl rfl ⟨Nat.le_of_ble_eq_true rfl, Nat.le_of_ble_eq_true rfl⟩ rfl hl (rest := []) rfl (Nat.le_of_ble_eq_true rfl) dX6_lines_2 ⟨Nat.le_of_ble_eq_true rfl, Nat.le_of_ble_eq_true rfl⟩ ⟨Nat.le_of_ble_eq_true rfl, Nat.le_of_ble_eq_true rfl⟩ (fun e9 he9 => ⟨th_p (el_l he9 hf), rfl⟩) (fun z2 hv H locs hP hS => ?_)
  have hz2 : z2 < 4 := siteOf_lt (by rw [q2, hv])
  replace hf := el_r hv hf
  refine g_get F hK hP inA4 (oS z2) (wC_S hz2) rfl 1 (by decide) wd_145 (v := .ref (b + (oL z2))) rfl dX6_lines_5 ?_
  obtain ⟨v8, q8, hf⟩ := cl_some hf
  refine g_calli F hK hP hS [] (c_X0_lineCount l D cI cO b z2 hz2 S v8 q8) wd_559 wd_560 wd_561 wd_7 wd_562 (wC_L hz2) rfl hd_X0_lineCount rfl rfl ⟨Nat.le_of_ble_eq_true rfl, Nat.le_of_ble_eq_true rfl⟩ rfl hl (rest := []) rfl (Nat.le_of_ble_eq_true rfl) dX6_lines_8 ⟨Nat.le_of_ble_eq_true rfl, Nat.le_of_ble_eq_true rfl⟩ (fun H locs hP hS => ?_)
  exact t_iret F hr hlocks hQ ⟨Nat.le_of_ble_eq_true rfl, Nat.le_of_ble_eq_true rfl⟩ hK hP hS (Option.some.inj hf) rfl dX6_lines_11
abbrev rm_X6_checkFromNought : Room := { frames := 6, cells := 1, slots := 6, locals := 86 }
theorem hd_X6_checkFromNought : yX6_checkFromNought.cls = RX6 ∧ yX6_checkFromNought.cls ≠ "java/lang/invoke/MethodHandle" ∧ yX6_checkFromNought.cls ≠ "java/lang/invoke/VarHandle" ∧ (parseMethodDescriptor yX6_checkFromNought.desc).map (fun d => d.parameters.length) = some 1 := by decide +kernel
set_option maxRecDepth 100000 in
set_option maxHeartbeats 4000000 in
theorem c_X6_checkFromNought (l : Launch) (hfl : l.stackTraces = false) (D : va_G) (cI cO : ClassId) (b : Nat) (S : St) (x1 : Int32) (r : Nat ⊕ Unit) (hf : f_X6_checkFromNought S x1 = some r) : vx_Met l yX6_checkFromNought (Cond.code yX6_checkFromNought cX6_checkFromNought 2 none :: wsAll) rm_X6_checkFromNought (PXt D (wC cI cO b) (tyC cI cO) (AC b) S [.ref (b + 0), .int x1]) (Qtv D (wC cI cO b) (tyC cI cO) (AC b) r S) (Qtx D (wC cI cO b) (tyC cI cO) (AC b) (thr r) S) 1 6 (AC b) := by
  unfold f_X6_checkFromNought at hf
  refine t_met RX6 (by decide +kernel) (Nat.le_of_ble_eq_true rfl) rfl ?_
  intro p e s m args below meth c ls Q F hr hlocks hnt hX hK hP hl hQ
  have hx := F.1
  have hb := F.2.1
  have hS : va_S (AC b) s.heap s.heap [] := va_S.rf
  have hl : lv_has ls 2 [(0, .ref (b + 0)), (1, .int x1)] := hl
  refine lv_iload_n hx hb dX6_checkFromNought_0 rfl (lv_at hl 1 rfl) ?_
  refine lv_if_ge (tgt := 14) hx hb dX6_checkFromNought_1 (by decide) (fun q => ?_) (fun q => ?_)
  · replace hf := ite_t q hf
    exact t_vret F hr hlocks hQ ⟨Nat.le_of_ble_eq_true rfl, Nat.le_of_ble_eq_true rfl⟩ hK hP hS (Option.some.inj hf) rfl dX6_checkFromNought_14
  · replace hf := ite_f q hf
    exact t_throw (e9 := 1) (cls := "java/lang/IndexOutOfBoundsException") (text := "below 0") F hfl hX hlocks hnt hQ hK hP hS rfl rfl (th_p hf) rfl (by decide +kernel) wd_265 wd_13 (fun h1 h2 => at_1 h1 h2) hl dX6_checkFromNought_4 dX6_checkFromNought_7 dX6_checkFromNought_8 dX6_checkFromNought_10 dX6_checkFromNought_13 (Nat.le_of_ble_eq_true rfl) (Nat.le_of_ble_eq_true rfl) (Nat.le_of_ble_eq_true rfl) (Nat.le_of_ble_eq_true rfl) ⟨Nat.le_of_ble_eq_true rfl, Nat.le_of_ble_eq_true rfl⟩
abbrev rm_X6_lineAt : Room := { frames := 7, cells := 3, slots := 18, locals := 107 }
theorem hd_X6_lineAt : yX6_lineAt.cls = RX6 ∧ yX6_lineAt.cls ≠ "java/lang/invoke/MethodHandle" ∧ yX6_lineAt.cls ≠ "java/lang/invoke/VarHandle" ∧ (parseMethodDescriptor yX6_lineAt.desc).map (fun d => d.parameters.length) = some 3 := by decide +kernel
set_option maxRecDepth 100000 in
set_option maxHeartbeats 4000000 in
theorem c_X6_lineAt (l : Launch) (hfl : l.stackTraces = false) (D : va_G) (cI cO : ClassId) (b : Nat) (S : St) (x1 : Int32) (x2 : Int32) (x3 : Int32) (r : Nat ⊕ Int32) (hf : f_X6_lineAt S x1 x2 x3 = some r) : vx_Met l yX6_lineAt (Cond.code yX6_lineAt cX6_lineAt 5 (some .int) :: wsAll) rm_X6_lineAt (PXt D (wC cI cO b) (tyC cI cO) (AC b) S [.ref (b + 0), .int x1, .int x2, .int x3]) (Qti D (wC cI cO b) (tyC cI cO) (AC b) r S) (Qtx D (wC cI cO b) (tyC cI cO) (AC b) (thr r) S) 3 18 (AC b) := by
  unfold f_X6_lineAt at hf
  refine t_met RX6 (by decide +kernel) (Nat.le_of_ble_eq_true rfl) rfl ?_
  intro p e s m args below meth c ls Q F hr hlocks hnt hX hK hP hl hQ
  have hx := F.1
  have hb := F.2.1
  have hS : va_S (AC b) s.heap s.heap [] := va_S.rf
  have hl : lv_has ls 5 [(0, .ref (b + 0)), (1, .int x1), (2, .int x2), (3, .int x3)] := hl
  refine lv_aload_n hx hb dX6_lineAt_0 rfl (lv_at hl 0 rfl) ?_
  refine lv_iload_n hx hb dX6_lineAt_1 rfl (lv_at hl 1 rfl) ?_
  obtain ⟨r2, q2, hf⟩ := cx_some' hf
  refine t_callr F hX hlocks hnt hQ hK hP hS [.int x1] (c_X6_siteOf l hfl D cI cO b S x1 r2 q2) wd_261 wd_263 wp_2 wd_1 wd_264 wC_M rfl hd_X6_siteOf rfl rfl ⟨Nat.le_of_ble_eq_true rfl, Nat.le_of_ble_eq_true rfl⟩ rfl hl (rest := []) rfl (Nat.le_of_ble_eq_true rfl) dX6_lineAt_2 ⟨Nat.le_of_ble_eq_true rfl, Nat.le_of_ble_eq_true rfl⟩ ⟨Nat.le_of_ble_eq_true rfl, Nat.le_of_ble_eq_true rfl⟩ (fun e9 he9 => ⟨th_p (el_l he9 hf), rfl⟩) (fun z2 hv H locs hP hS => ?_)
  have hz2 : z2 < 4 := siteOf_lt (by rw [q2, hv])
  replace hf := el_r hv hf
  refine g_get F hK hP inA4 (oS z2) (wC_S hz2) rfl 1 (by decide) wd_145 (v := .ref (b + (oL z2))) rfl dX6_lineAt_5 ?_
  refine lv_astore (lv' := [(4, .ref (b + (oL z2))), (0, .ref (b + 0)), (1, .int x1), (2, .int x2), (3, .int x3)]) hx hb dX6_lineAt_8 hl (by decide) rfl (fun ls hl => ?_)
  refine lv_aload_n hx hb dX6_lineAt_10 rfl (lv_at hl 1 rfl) ?_
  refine lv_iload_n hx hb dX6_lineAt_11 rfl (lv_at hl 3 rfl) ?_
  obtain ⟨r12, q12, hf⟩ := cx_some' hf
  refine t_callv F hX hlocks hnt hQ hK hP hS [.int x2] (c_X6_checkFromNought l hfl D cI cO b S x2 r12 q12) wd_651 wd_653 wp_17 wd_1 wd_654 wC_M rfl hd_X6_checkFromNought rfl rfl ⟨Nat.le_of_ble_eq_true rfl, Nat.le_of_ble_eq_true rfl⟩ rfl hl (rest := []) rfl (Nat.le_of_ble_eq_true rfl) dX6_lineAt_12 ⟨Nat.le_of_ble_eq_true rfl, Nat.le_of_ble_eq_true rfl⟩ ⟨Nat.le_of_ble_eq_true rfl, Nat.le_of_ble_eq_true rfl⟩ (fun e9 he9 => ⟨th_p (el_l he9 hf), rfl⟩) (fun hv H locs hP hS => ?_)
  replace hf := el_r hv hf
  refine lv_iload_n hx hb dX6_lineAt_15 rfl (lv_at hl 4 rfl) ?_
  obtain ⟨J24, eJ24, hf⟩ := jn_some hf
  have kJ24 : ∀ (H : Heap) (locs : List Loc) (ls : Array Slot), J24 = some r → va_P D vwCl ((wC cI cO b) S) H → va_S (AC b) s.heap H locs → lv_has ls 5 [] → W p l e rm_X6_lineAt s m args below meth c H locs 2 12 Q (F0 m 24 ls []) := by
    intro  H locs ls hf hP hS hl
    rw [eJ24] at hf
    exact t_throw (e9 := 2) (cls := "java/lang/IllegalArgumentException") (text := "no such question") F hfl hX hlocks hnt hQ hK hP hS rfl rfl (th_p hf) rfl (by decide +kernel) wd_344 wd_14 (fun h1 h2 => at_2 h1 h2) hl dX6_lineAt_24 dX6_lineAt_27 dX6_lineAt_28 dX6_lineAt_30 dX6_lineAt_33 (Nat.le_of_ble_eq_true rfl) (Nat.le_of_ble_eq_true rfl) (Nat.le_of_ble_eq_true rfl) (Nat.le_of_ble_eq_true rfl) ⟨Nat.le_of_ble_eq_true rfl, Nat.le_of_ble_eq_true rfl⟩
  clear eJ24
  refine lv_if_lt (tgt := 24) hx hb dX6_lineAt_16 (by decide) (fun q => ?_) (fun q => ?_)
  · replace hf := ite_t q hf
    exact kJ24 _ _ _ hf hP hS (lv_sub hl [] rfl)
  · replace hf := ite_f q hf
    refine lv_iload_n hx hb dX6_lineAt_19 rfl (lv_at hl 4 rfl) ?_
    refine lv_iconst (v := 4) hx hb dX6_lineAt_20 (by decide) ?_
    refine lv_icmp_le (tgt := 34) hx hb dX6_lineAt_21 (by decide) (fun q => ?_) (fun q => ?_)
    · replace hf := ite_t q hf
      refine lv_iload_n hx hb dX6_lineAt_34 rfl (lv_at hl 3 rfl) ?_
      refine lv_aload hx hb dX6_lineAt_35 (lv_at hl 0 rfl) ?_
      obtain ⟨v37, q37, hf⟩ := cl_some hf
      refine g_calli F hK hP hS [] (c_X0_lineCount l D cI cO b z2 hz2 S v37 q37) wd_559 wd_560 wd_561 wd_7 wd_562 (wC_L hz2) rfl hd_X0_lineCount rfl rfl ⟨Nat.le_of_ble_eq_true rfl, Nat.le_of_ble_eq_true rfl⟩ rfl hl (rest := [.int x2]) rfl (Nat.le_of_ble_eq_true rfl) dX6_lineAt_37 ⟨Nat.le_of_ble_eq_true rfl, Nat.le_of_ble_eq_true rfl⟩ (fun H locs hP hS => ?_)
      refine lv_icmp_lt (tgt := 45) hx hb dX6_lineAt_40 (by decide) (fun q => ?_) (fun q => ?_)
      · replace hf := ite_t q hf
        refine lv_iload_n hx hb dX6_lineAt_45 rfl (lv_at hl 4 rfl) ?_
        by_cases q46_0 : x3 = (0 : Int32)
        · replace hf := ite_t q46_0 hf
          refine lv_tableIn (off := 30) (tgt := 76) hx hb dX6_lineAt_46 (by rw [q46_0]; decide) (by rw [q46_0]; decide) (by rw [q46_0]; rfl) (by decide) ?_
          refine lv_aload hx hb dX6_lineAt_76 (lv_at hl 0 rfl) ?_
          refine lv_iload_n hx hb dX6_lineAt_78 rfl (lv_at hl 3 rfl) ?_
          obtain ⟨v79, q79, hf⟩ := cl_some hf
          refine g_calli F hK hP hS [.int x2] (c_X0_line l D cI cO b z2 hz2 S x2 v79 q79) wd_657 wd_236 wd_237 wd_7 wd_238 (wC_L hz2) rfl hd_X0_line rfl rfl ⟨Nat.le_of_ble_eq_true rfl, Nat.le_of_ble_eq_true rfl⟩ rfl hl (rest := []) rfl (Nat.le_of_ble_eq_true rfl) dX6_lineAt_79 ⟨Nat.le_of_ble_eq_true rfl, Nat.le_of_ble_eq_true rfl⟩ (fun H locs hP hS => ?_)
          exact t_iret F hr hlocks hQ ⟨Nat.le_of_ble_eq_true rfl, Nat.le_of_ble_eq_true rfl⟩ hK hP hS (Option.some.inj hf) rfl dX6_lineAt_82
        replace hf := ite_f q46_0 hf
        by_cases q46_1 : x3 = (1 : Int32)
        · replace hf := ite_t q46_1 hf
          refine lv_tableIn (off := 37) (tgt := 83) hx hb dX6_lineAt_46 (by rw [q46_1]; decide) (by rw [q46_1]; decide) (by rw [q46_1]; rfl) (by decide) ?_
          refine lv_aload_n hx hb dX6_lineAt_83 rfl (lv_at hl 1 rfl) ?_
          refine g_get F hK hP inA6 0 wC_M rfl 0 (by decide) wd_184 (v := .ref (b + 1)) rfl dX6_lineAt_84 ?_
          refine lv_aload hx hb dX6_lineAt_87 (lv_at hl 0 rfl) ?_
          refine lv_iload_n hx hb dX6_lineAt_89 rfl (lv_at hl 3 rfl) ?_
          obtain ⟨v90, q90, hf⟩ := cl_some hf
          refine g_calli F hK hP hS [.int x2] (c_X0_line l D cI cO b z2 hz2 S x2 v90 q90) wd_657 wd_236 wd_237 wd_7 wd_238 (wC_L hz2) rfl hd_X0_line rfl rfl ⟨Nat.le_of_ble_eq_true rfl, Nat.le_of_ble_eq_true rfl⟩ rfl hl (rest := [.ref (b + 1)]) rfl (Nat.le_of_ble_eq_true rfl) dX6_lineAt_90 ⟨Nat.le_of_ble_eq_true rfl, Nat.le_of_ble_eq_true rfl⟩ (fun H locs hP hS => ?_)
          obtain ⟨v93, q93, hf⟩ := cl_some hf
          refine g_calli F hK hP hS [.int v90] (c_X1_valueOf l D cI cO b S v90 v93 q93) wd_658 wd_659 wd_660 wd_2 wd_661 wC_G rfl hd_X1_valueOf rfl rfl ⟨Nat.le_of_ble_eq_true rfl, Nat.le_of_ble_eq_true rfl⟩ rfl hl (rest := []) rfl (Nat.le_of_ble_eq_true rfl) dX6_lineAt_93 ⟨Nat.le_of_ble_eq_true rfl, Nat.le_of_ble_eq_true rfl⟩ (fun H locs hP hS => ?_)
          exact t_iret F hr hlocks hQ ⟨Nat.le_of_ble_eq_true rfl, Nat.le_of_ble_eq_true rfl⟩ hK hP hS (Option.some.inj hf) rfl dX6_lineAt_96
        replace hf := ite_f q46_1 hf
        by_cases q46_2 : x3 = (2 : Int32)
        · replace hf := ite_t q46_2 hf
          refine lv_tableIn (off := 51) (tgt := 97) hx hb dX6_lineAt_46 (by rw [q46_2]; decide) (by rw [q46_2]; decide) (by rw [q46_2]; rfl) (by decide) ?_
          refine lv_aload hx hb dX6_lineAt_97 (lv_at hl 0 rfl) ?_
          refine lv_iload_n hx hb dX6_lineAt_99 rfl (lv_at hl 3 rfl) ?_
          obtain ⟨v100, q100, hf⟩ := cl_some hf
          refine g_calli F hK hP hS [.int x2] (c_X0_rows l D cI cO b z2 hz2 S x2 v100 q100) wd_662 wd_240 wd_241 wd_7 wd_242 (wC_L hz2) rfl hd_X0_rows rfl rfl ⟨Nat.le_of_ble_eq_true rfl, Nat.le_of_ble_eq_true rfl⟩ rfl hl (rest := []) rfl (Nat.le_of_ble_eq_true rfl) dX6_lineAt_100 ⟨Nat.le_of_ble_eq_true rfl, Nat.le_of_ble_eq_true rfl⟩ (fun H locs hP hS => ?_)
          exact t_iret F hr hlocks hQ ⟨Nat.le_of_ble_eq_true rfl, Nat.le_of_ble_eq_true rfl⟩ hK hP hS (Option.some.inj hf) rfl dX6_lineAt_103
        replace hf := ite_f q46_2 hf
        by_cases q46_3 : x3 = (3 : Int32)
        · replace hf := ite_t q46_3 hf
          refine lv_tableIn (off := 58) (tgt := 104) hx hb dX6_lineAt_46 (by rw [q46_3]; decide) (by rw [q46_3]; decide) (by rw [q46_3]; rfl) (by decide) ?_
          refine lv_aload hx hb dX6_lineAt_104 (lv_at hl 0 rfl) ?_
          refine lv_iload_n hx hb dX6_lineAt_106 rfl (lv_at hl 3 rfl) ?_
          obtain ⟨v107, q107, hf⟩ := cl_some hf
          refine g_calli F hK hP hS [.int x2] (c_X0_beginsParagraph l D cI cO b z2 hz2 S x2 v107 q107) wd_663 wd_664 wd_665 wd_7 wd_666 (wC_L hz2) rfl hd_X0_beginsParagraph rfl rfl ⟨Nat.le_of_ble_eq_true rfl, Nat.le_of_ble_eq_true rfl⟩ rfl hl (rest := []) rfl (Nat.le_of_ble_eq_true rfl) dX6_lineAt_107 ⟨Nat.le_of_ble_eq_true rfl, Nat.le_of_ble_eq_true rfl⟩ (fun H locs hP hS => ?_)
          refine lv_if_eq (tgt := 117) hx hb dX6_lineAt_110 (by decide) (fun q => ?_) (fun q => ?_)
          · replace hf := ite_t q hf
            refine lv_iconst (v := 0) hx hb dX6_lineAt_117 (by decide) ?_
            exact t_iret F hr hlocks hQ ⟨Nat.le_of_ble_eq_true rfl, Nat.le_of_ble_eq_true rfl⟩ hK hP hS (Option.some.inj hf) rfl dX6_lineAt_118
          · replace hf := ite_f q hf
            refine lv_iconst (v := 1) hx hb dX6_lineAt_113 (by decide) ?_
            refine lv_goto (tgt := 118) hx hb dX6_lineAt_114 (by decide) ?_
            exact t_iret F hr hlocks hQ ⟨Nat.le_of_ble_eq_true rfl, Nat.le_of_ble_eq_true rfl⟩ hK hP hS (Option.some.inj hf) rfl dX6_lineAt_118
        replace hf := ite_f q46_3 hf
        refine lv_tableOut (tgt := 119) hx hb dX6_lineAt_46 (sw_out4 q46_0 q46_1 q46_2 q46_3) (by decide) ?_
        refine lv_aload hx hb dX6_lineAt_119 (lv_at hl 0 rfl) ?_
        refine lv_iload_n hx hb dX6_lineAt_121 rfl (lv_at hl 3 rfl) ?_
        obtain ⟨v122, q122, hf⟩ := cl_some hf
        refine g_calli F hK hP hS [.int x2] (c_X0_pageOf l D cI cO b z2 hz2 S x2 v122 q122) wd_667 wd_668 wd_669 wd_7 wd_670 (wC_L hz2) rfl hd_X0_pageOf rfl rfl ⟨Nat.le_of_ble_eq_true rfl, Nat.le_of_ble_eq_true rfl⟩ rfl hl (rest := []) rfl (Nat.le_of_ble_eq_true rfl) dX6_lineAt_122 ⟨Nat.le_of_ble_eq_true rfl, Nat.le_of_ble_eq_true rfl⟩ (fun H locs hP hS => ?_)
        exact t_iret F hr hlocks hQ ⟨Nat.le_of_ble_eq_true rfl, Nat.le_of_ble_eq_true rfl⟩ hK hP hS (Option.some.inj hf) rfl dX6_lineAt_125
      · replace hf := ite_f q hf
        refine lv_iconst (v := -1) hx hb dX6_lineAt_43 (by decide) ?_
        exact t_iret F hr hlocks hQ ⟨Nat.le_of_ble_eq_true rfl, Nat.le_of_ble_eq_true rfl⟩ hK hP hS (Option.some.inj hf) rfl dX6_lineAt_44
    · replace hf := ite_f q hf
      exact kJ24 _ _ _ hf hP hS (lv_sub hl [] rfl)
abbrev rm_X6_lineAnew : Room := { frames := 7, cells := 2, slots := 12, locals := 131 }
theorem hd_X6_lineAnew : yX6_lineAnew.cls = RX6 ∧ yX6_lineAnew.cls ≠ "java/lang/invoke/MethodHandle" ∧ yX6_lineAnew.cls ≠ "java/lang/invoke/VarHandle" ∧ (parseMethodDescriptor yX6_lineAnew.desc).map (fun d => d.parameters.length) = some 2 := by decide +kernel
set_option maxRecDepth 100000 in
set_option maxHeartbeats 4000000 in
theorem c_X6_lineAnew (l : Launch) (hfl : l.stackTraces = false) (D : va_G) (cI cO : ClassId) (b : Nat) (S : St) (x1 : Int32) (x2 : Int32) (r : Nat ⊕ Int32) (S1 : St) (hf : f_X6_lineAnew S x1 x2 = some (r, S1)) : vx_Met l yX6_lineAnew (Cond.code yX6_lineAnew cX6_lineAnew 4 (some .int) :: wsAll) rm_X6_lineAnew (PXt D (wC cI cO b) (tyC cI cO) (AC b) S [.ref (b + 0), .int x1, .int x2]) (Qti D (wC cI cO b) (tyC cI cO) (AC b) r S1) (Qtx D (wC cI cO b) (tyC cI cO) (AC b) (thr r) S1) 2 12 (AC b) := by
  unfold f_X6_lineAnew at hf
  refine t_met RX6 (by decide +kernel) (Nat.le_of_ble_eq_true rfl) rfl ?_
  intro p e s m args below meth c ls Q F hr hlocks hnt hX hK hP hl hQ
  have hx := F.1
  have hb := F.2.1
  have hS : va_S (AC b) s.heap s.heap [] := va_S.rf
  have hl : lv_has ls 4 [(0, .ref (b + 0)), (1, .int x1), (2, .int x2)] := hl
  refine lv_aload_n hx hb dX6_lineAnew_0 rfl (lv_at hl 0 rfl) ?_
  refine lv_iload_n hx hb dX6_lineAnew_1 rfl (lv_at hl 1 rfl) ?_
  obtain ⟨r2, q2, hf⟩ := cx_some' hf
  refine t_callr F hX hlocks hnt hQ hK hP hS [.int x1] (c_X6_siteOf l hfl D cI cO b S x1 r2 q2) wd_261 wd_263 wp_2 wd_1 wd_264 wC_M rfl hd_X6_siteOf rfl rfl ⟨Nat.le_of_ble_eq_true rfl, Nat.le_of_ble_eq_true rfl⟩ rfl hl (rest := []) rfl (Nat.le_of_ble_eq_true rfl) dX6_lineAnew_2 ⟨Nat.le_of_ble_eq_true rfl, Nat.le_of_ble_eq_true rfl⟩ ⟨Nat.le_of_ble_eq_true rfl, Nat.le_of_ble_eq_true rfl⟩ (fun e9 he9 => ⟨(th_i (el_l he9 hf)).1, (th_i (el_l he9 hf)).2⟩) (fun z2 hv H locs hP hS => ?_)
  have hz2 : z2 < 4 := siteOf_lt (by rw [q2, hv])
  replace hf := el_r hv hf
  refine lv_astore_n (lv' := [(3, .ref (b + (oS z2))), (0, .ref (b + 0)), (1, .int x1), (2, .int x2)]) hx hb dX6_lineAnew_5 rfl hl (by decide) rfl (fun ls hl => ?_)
  refine lv_aload_n hx hb dX6_lineAnew_6 rfl (lv_at hl 1 rfl) ?_
  refine lv_iload_n hx hb dX6_lineAnew_7 rfl (lv_at hl 3 rfl) ?_
  obtain ⟨r8, q8, hf⟩ := cx_some' hf
  refine t_callv F hX hlocks hnt hQ hK hP hS [.int x2] (c_X6_checkFromNought l hfl D cI cO b S x2 r8 q8) wd_651 wd_653 wp_17 wd_1 wd_654 wC_M rfl hd_X6_checkFromNought rfl rfl ⟨Nat.le_of_ble_eq_true rfl, Nat.le_of_ble_eq_true rfl⟩ rfl hl (rest := []) rfl (Nat.le_of_ble_eq_true rfl) dX6_lineAnew_8 ⟨Nat.le_of_ble_eq_true rfl, Nat.le_of_ble_eq_true rfl⟩ ⟨Nat.le_of_ble_eq_true rfl, Nat.le_of_ble_eq_true rfl⟩ (fun e9 he9 => ⟨(th_i (el_l he9 hf)).1, (th_i (el_l he9 hf)).2⟩) (fun hv H locs hP hS => ?_)
  replace hf := el_r hv hf
  refine lv_aload_n hx hb dX6_lineAnew_11 rfl (lv_at hl 0 rfl) ?_
  refine g_get F hK hP inA4 (oS z2) (wC_S hz2) rfl 0 (by decide) wd_143 (v := .ref (b + (oT z2))) rfl dX6_lineAnew_12 ?_
  refine lv_iload_n hx hb dX6_lineAnew_15 rfl (lv_at hl 3 rfl) ?_
  obtain ⟨v16, S_16, q16, hf⟩ := cl2_some hf
  refine g_calli F hK hP hS [.int x2] (c_X5_findAnew l D cI cO b z2 hz2 S x2 v16 S_16 q16) wd_678 wd_679 wd_680 wd_6 wd_681 (wC_T hz2) rfl hd_X5_findAnew rfl rfl ⟨Nat.le_of_ble_eq_true rfl, Nat.le_of_ble_eq_true rfl⟩ rfl hl (rest := []) rfl (Nat.le_of_ble_eq_true rfl) dX6_lineAnew_16 ⟨Nat.le_of_ble_eq_true rfl, Nat.le_of_ble_eq_true rfl⟩ (fun H locs hP hS => ?_)
  exact t_iret F hr hlocks hQ ⟨Nat.le_of_ble_eq_true rfl, Nat.le_of_ble_eq_true rfl⟩ hK hP hS (Prod.mk.inj (Option.some.inj hf)).1 (Prod.mk.inj (Option.some.inj hf)).2 dX6_lineAnew_19
abbrev rm_X6_noteAt : Room := { frames := 7, cells := 2, slots := 12, locals := 108 }
theorem hd_X6_noteAt : yX6_noteAt.cls = RX6 ∧ yX6_noteAt.cls ≠ "java/lang/invoke/MethodHandle" ∧ yX6_noteAt.cls ≠ "java/lang/invoke/VarHandle" ∧ (parseMethodDescriptor yX6_noteAt.desc).map (fun d => d.parameters.length) = some 2 := by decide +kernel
set_option maxRecDepth 100000 in
set_option maxHeartbeats 4000000 in
theorem c_X6_noteAt (l : Launch) (hfl : l.stackTraces = false) (D : va_G) (cI cO : ClassId) (b : Nat) (S : St) (x1 : Int32) (x2 : Int32) (r : Nat ⊕ Int32) (hf : f_X6_noteAt S x1 x2 = some r) : vx_Met l yX6_noteAt (Cond.code yX6_noteAt cX6_noteAt 4 (some .int) :: wsAll) rm_X6_noteAt (PXt D (wC cI cO b) (tyC cI cO) (AC b) S [.ref (b + 0), .int x1, .int x2]) (Qti D (wC cI cO b) (tyC cI cO) (AC b) r S) (Qtx D (wC cI cO b) (tyC cI cO) (AC b) (thr r) S) 2 12 (AC b) := by
  unfold f_X6_noteAt at hf
  refine t_met RX6 (by decide +kernel) (Nat.le_of_ble_eq_true rfl) rfl ?_
  intro p e s m args below meth c ls Q F hr hlocks hnt hX hK hP hl hQ
  have hx := F.1
  have hb := F.2.1
  have hS : va_S (AC b) s.heap s.heap [] := va_S.rf
  have hl : lv_has ls 4 [(0, .ref (b + 0)), (1, .int x1), (2, .int x2)] := hl
  refine lv_aload_n hx hb dX6_noteAt_0 rfl (lv_at hl 0 rfl) ?_
  refine lv_iload_n hx hb dX6_noteAt_1 rfl (lv_at hl 1 rfl) ?_
  obtain ⟨r2, q2, hf⟩ := cx_some' hf
  refine t_callr F hX hlocks hnt hQ hK hP hS [.int x1] (c_X6_siteOf l hfl D cI cO b S x1 r2 q2) wd_261 wd_263 wp_2 wd_1 wd_264 wC_M rfl hd_X6_siteOf rfl rfl ⟨Nat.le_of_ble_eq_true rfl, Nat.le_of_ble_eq_true rfl⟩ rfl hl (rest := []) rfl (Nat.le_of_ble_eq_true rfl) dX6_noteAt_2 ⟨Nat.le_of_ble_eq_true rfl, Nat.le_of_ble_eq_true rfl⟩ ⟨Nat.le_of_ble_eq_true rfl, Nat.le_of_ble_eq_true rfl⟩ (fun e9 he9 => ⟨th_p (el_l he9 hf), rfl⟩) (fun z2 hv H locs hP hS => ?_)
  have hz2 : z2 < 4 := siteOf_lt (by rw [q2, hv])
  replace hf := el_r hv hf
  refine lv_astore_n (lv' := [(3, .ref (b + (oS z2))), (0, .ref (b + 0)), (1, .int x1), (2, .int x2)]) hx hb dX6_noteAt_5 rfl hl (by decide) rfl (fun ls hl => ?_)
  refine lv_aload_n hx hb dX6_noteAt_6 rfl (lv_at hl 1 rfl) ?_
  refine lv_aload_n hx hb dX6_noteAt_7 rfl (lv_at hl 0 rfl) ?_
  refine lv_iload_n hx hb dX6_noteAt_8 rfl (lv_at hl 3 rfl) ?_
  obtain ⟨r9, q9, hf⟩ := cx_some' hf
  refine t_callv F hX hlocks hnt hQ hK hP hS [.ref (b + (oS z2)), .int x2] (c_X6_checkNoteIsKnown l hfl D cI cO b S z2 x2 hz2 r9 q9) wd_582 wd_584 wp_15 wd_1 wd_585 wC_M rfl hd_X6_checkNoteIsKnown rfl rfl ⟨Nat.le_of_ble_eq_true rfl, Nat.le_of_ble_eq_true rfl⟩ rfl hl (rest := []) rfl (Nat.le_of_ble_eq_true rfl) dX6_noteAt_9 ⟨Nat.le_of_ble_eq_true rfl, Nat.le_of_ble_eq_true rfl⟩ ⟨Nat.le_of_ble_eq_true rfl, Nat.le_of_ble_eq_true rfl⟩ (fun e9 he9 => ⟨th_p (el_l he9 hf), rfl⟩) (fun hv H locs hP hS => ?_)
  replace hf := el_r hv hf
  refine lv_aload_n hx hb dX6_noteAt_12 rfl (lv_at hl 0 rfl) ?_
  refine g_get F hK hP inA4 (oS z2) (wC_S hz2) rfl 0 (by decide) wd_143 (v := .ref (b + (oT z2))) rfl dX6_noteAt_13 ?_
  refine lv_iload_n hx hb dX6_noteAt_16 rfl (lv_at hl 3 rfl) ?_
  obtain ⟨v17, q17, hf⟩ := cl_some hf
  refine g_calli F hK hP hS [.int x2] (c_X5_lineOfNote l D cI cO b z2 hz2 S x2 v17 q17) wd_707 wd_508 wd_509 wd_6 wd_510 (wC_T hz2) rfl hd_X5_lineOfNote rfl rfl ⟨Nat.le_of_ble_eq_true rfl, Nat.le_of_ble_eq_true rfl⟩ rfl hl (rest := []) rfl (Nat.le_of_ble_eq_true rfl) dX6_noteAt_17 ⟨Nat.le_of_ble_eq_true rfl, Nat.le_of_ble_eq_true rfl⟩ (fun H locs hP hS => ?_)
  exact t_iret F hr hlocks hQ ⟨Nat.le_of_ble_eq_true rfl, Nat.le_of_ble_eq_true rfl⟩ hK hP hS (Option.some.inj hf) rfl dX6_noteAt_20
abbrev rm_X6_pages : Room := { frames := 7, cells := 1, slots := 6, locals := 107 }
theorem hd_X6_pages : yX6_pages.cls = RX6 ∧ yX6_pages.cls ≠ "java/lang/invoke/MethodHandle" ∧ yX6_pages.cls ≠ "java/lang/invoke/VarHandle" ∧ (parseMethodDescriptor yX6_pages.desc).map (fun d => d.parameters.length) = some 1 := by decide +kernel
set_option maxRecDepth 100000 in
set_option maxHeartbeats 4000000 in
theorem c_X6_pages (l : Launch) (hfl : l.stackTraces = false) (D : va_G) (cI cO : ClassId) (b : Nat) (S : St) (x1 : Int32) (r : Nat ⊕ Int32) (hf : f_X6_pages S x1 = some r) : vx_Met l yX6_pages (Cond.code yX6_pages cX6_pages 2 (some .int) :: wsAll) rm_X6_pages (PXt D (wC cI cO b) (tyC cI cO) (AC b) S [.ref (b + 0), .int x1]) (Qti D (wC cI cO b) (tyC cI cO) (AC b) r S) (Qtx D (wC cI cO b) (tyC cI cO) (AC b) (thr r) S) 1 6 (AC b) := by
  unfold f_X6_pages at hf
  refine t_met RX6 (by decide +kernel) (Nat.le_of_ble_eq_true rfl) rfl ?_
  intro p e s m args below meth c ls Q F hr hlocks hnt hX hK hP hl hQ
  have hx := F.1
  have hb := F.2.1
  have hS : va_S (AC b) s.heap s.heap [] := va_S.rf
  have hl : lv_has ls 2 [(0, .ref (b + 0)), (1, .int x1)] := hl
  refine lv_aload_n hx hb dX6_pages_0 rfl (lv_at hl 0 rfl) ?_
  refine lv_iload_n hx hb dX6_pages_1 rfl (lv_at hl 1 rfl) ?_
  obtain ⟨r2, q2, hf⟩ := cx_some' hf
  refine t_callr F hX hlocks hnt hQ hK hP hS [.int x1] (c_X6_siteOf l hfl D cI cO b S x1 r2 q2) wd_261 wd_263 wp_2 wd_1 wd_264 wC_M rfl hd_X6_siteOf rfl rfl ⟨Nat.le_of_ble_eq_true rfl, Nat.le_of_ble_eq_true rfl⟩ rfl hl (rest := []) rfl (Nat.le_of_ble_eq_true rfl) dX6_pages_2 ⟨Nat.le_of_ble_eq_true rfl, Nat.le_of_ble_eq_true rfl⟩ ⟨Nat.le_of_ble_eq_true rfl, Nat.le_of_ble_eq_true rfl⟩ (fun e9 he9 => ⟨th_p (el_l he9 hf), rfl⟩) (fun z2 hv H locs hP hS => ?_)
  have hz2 : z2 < 4 := siteOf_lt (by rw [q2, hv])
  replace hf := el_r hv hf
  refine g_get F hK hP inA4 (oS z2) (wC_S hz2) rfl 1 (by decide) wd_145 (v := .ref (b + (oL z2))) rfl dX6_pages_5 ?_
  obtain ⟨v8, q8, hf⟩ := cl_some hf
  refine g_calli F hK hP hS [] (c_X0_pageCount l D cI cO b z2 hz2 S v8 q8) wd_715 wd_613 wd_614 wd_7 wd_615 (wC_L hz2) rfl hd_X0_pageCount rfl rfl ⟨Nat.le_of_ble_eq_true rfl, Nat.le_of_ble_eq_true rfl⟩ rfl hl (rest := []) rfl (Nat.le_of_ble_eq_true rfl) dX6_pages_8 ⟨Nat.le_of_ble_eq_true rfl, Nat.le_of_ble_eq_true rfl⟩ (fun H locs hP hS => ?_)
  exact t_iret F hr hlocks hQ ⟨Nat.le_of_ble_eq_true rfl, Nat.le_of_ble_eq_true rfl⟩ hK hP hS (Option.some.inj hf) rfl dX6_pages_11
abbrev rm_X6_aheadAnew : Room := { frames := 7, cells := 2, slots := 12, locals := 111 }
theorem hd_X6_aheadAnew : yX6_aheadAnew.cls = RX6 ∧ yX6_aheadAnew.cls ≠ "java/lang/invoke/MethodHandle" ∧ yX6_aheadAnew.cls ≠ "java/lang/invoke/VarHandle" ∧ (parseMethodDescriptor yX6_aheadAnew.desc).map (fun d => d.parameters.length) = some 2 := by decide +kernel
set_option maxRecDepth 100000 in
set_option maxHeartbeats 4000000 in
theorem c_X6_aheadAnew (l : Launch) (hfl : l.stackTraces = false) (D : va_G) (cI cO : ClassId) (b : Nat) (S : St) (x1 : Int32) (x2 : Int32) (r : Nat ⊕ Int32) (hf : f_X6_aheadAnew S x1 x2 = some r) : vx_Met l yX6_aheadAnew (Cond.code yX6_aheadAnew cX6_aheadAnew 4 (some .int) :: wsAll) rm_X6_aheadAnew (PXt D (wC cI cO b) (tyC cI cO) (AC b) S [.ref (b + 0), .int x1, .int x2]) (Qti D (wC cI cO b) (tyC cI cO) (AC b) r S) (Qtx D (wC cI cO b) (tyC cI cO) (AC b) (thr r) S) 2 12 (AC b) := by
  unfold f_X6_aheadAnew at hf
  refine t_met RX6 (by decide +kernel) (Nat.le_of_ble_eq_true rfl) rfl ?_
  intro p e s m args below meth c ls Q F hr hlocks hnt hX hK hP hl hQ
  have hx := F.1
  have hb := F.2.1
  have hS : va_S (AC b) s.heap s.heap [] := va_S.rf
  have hl : lv_has ls 4 [(0, .ref (b + 0)), (1, .int x1), (2, .int x2)] := hl
  refine lv_aload_n hx hb dX6_aheadAnew_0 rfl (lv_at hl 0 rfl) ?_
  refine lv_iload_n hx hb dX6_aheadAnew_1 rfl (lv_at hl 1 rfl) ?_
  obtain ⟨r2, q2, hf⟩ := cx_some' hf
  refine t_callr F hX hlocks hnt hQ hK hP hS [.int x1] (c_X6_siteOf l hfl D cI cO b S x1 r2 q2) wd_261 wd_263 wp_2 wd_1 wd_264 wC_M rfl hd_X6_siteOf rfl rfl ⟨Nat.le_of_ble_eq_true rfl, Nat.le_of_ble_eq_true rfl⟩ rfl hl (rest := []) rfl (Nat.le_of_ble_eq_true rfl) dX6_aheadAnew_2 ⟨Nat.le_of_ble_eq_true rfl, Nat.le_of_ble_eq_true rfl⟩ ⟨Nat.le_of_ble_eq_true rfl, Nat.le_of_ble_eq_true rfl⟩ (fun e9 he9 => ⟨th_p (el_l he9 hf), rfl⟩) (fun z2 hv H locs hP hS => ?_)
  have hz2 : z2 < 4 := siteOf_lt (by rw [q2, hv])
  replace hf := el_r hv hf
  refine lv_astore_n (lv' := [(3, .ref (b + (oS z2))), (0, .ref (b + 0)), (1, .int x1), (2, .int x2)]) hx hb dX6_aheadAnew_5 rfl hl (by decide) rfl (fun ls hl => ?_)
  refine lv_aload_n hx hb dX6_aheadAnew_6 rfl (lv_at hl 1 rfl) ?_
  refine lv_iload_n hx hb dX6_aheadAnew_7 rfl (lv_at hl 3 rfl) ?_
  obtain ⟨r8, q8, hf⟩ := cx_some' hf
  refine t_callv F hX hlocks hnt hQ hK hP hS [.int x2] (c_X6_checkFromNought l hfl D cI cO b S x2 r8 q8) wd_651 wd_653 wp_17 wd_1 wd_654 wC_M rfl hd_X6_checkFromNought rfl rfl ⟨Nat.le_of_ble_eq_true rfl, Nat.le_of_ble_eq_true rfl⟩ rfl hl (rest := []) rfl (Nat.le_of_ble_eq_true rfl) dX6_aheadAnew_8 ⟨Nat.le_of_ble_eq_true rfl, Nat.le_of_ble_eq_true rfl⟩ ⟨Nat.le_of_ble_eq_true rfl, Nat.le_of_ble_eq_true rfl⟩ (fun e9 he9 => ⟨th_p (el_l he9 hf), rfl⟩) (fun hv H locs hP hS => ?_)
  replace hf := el_r hv hf
  refine lv_aload_n hx hb dX6_aheadAnew_11 rfl (lv_at hl 0 rfl) ?_
  refine g_get F hK hP inA4 (oS z2) (wC_S hz2) rfl 1 (by decide) wd_145 (v := .ref (b + (oL z2))) rfl dX6_aheadAnew_12 ?_
  refine lv_iload_n hx hb dX6_aheadAnew_15 rfl (lv_at hl 3 rfl) ?_
  obtain ⟨v16, q16, hf⟩ := cl_some hf
  refine g_calli F hK hP hS [.int x2] (c_X0_countAheadAnew l D cI cO b z2 hz2 S x2 v16 q16) wd_723 wd_724 wd_725 wd_7 wd_726 (wC_L hz2) rfl hd_X0_countAheadAnew rfl rfl ⟨Nat.le_of_ble_eq_true rfl, Nat.le_of_ble_eq_true rfl⟩ rfl hl (rest := []) rfl (Nat.le_of_ble_eq_true rfl) dX6_aheadAnew_16 ⟨Nat.le_of_ble_eq_true rfl, Nat.le_of_ble_eq_true rfl⟩ (fun H locs hP hS => ?_)
  exact t_iret F hr hlocks hQ ⟨Nat.le_of_ble_eq_true rfl, Nat.le_of_ble_eq_true rfl⟩ hK hP hS (Option.some.inj hf) rfl dX6_aheadAnew_19
abbrev rm_X6_known : Room := { frames := 7, cells := 1, slots := 6, locals := 107 }
theorem hd_X6_known : yX6_known.cls = RX6 ∧ yX6_known.cls ≠ "java/lang/invoke/MethodHandle" ∧ yX6_known.cls ≠ "java/lang/invoke/VarHandle" ∧ (parseMethodDescriptor yX6_known.desc).map (fun d => d.parameters.length) = some 1 := by decide +kernel
set_option maxRecDepth 100000 in
set_option maxHeartbeats 4000000 in
theorem c_X6_known (l : Launch) (hfl : l.stackTraces = false) (D : va_G) (cI cO : ClassId) (b : Nat) (S : St) (x1 : Int32) (r : Nat ⊕ Int32) (hf : f_X6_known S x1 = some r) : vx_Met l yX6_known (Cond.code yX6_known cX6_known 2 (some .int) :: wsAll) rm_X6_known (PXt D (wC cI cO b) (tyC cI cO) (AC b) S [.ref (b + 0), .int x1]) (Qti D (wC cI cO b) (tyC cI cO) (AC b) r S) (Qtx D (wC cI cO b) (tyC cI cO) (AC b) (thr r) S) 1 6 (AC b) := by
  unfold f_X6_known at hf
  refine t_met RX6 (by decide +kernel) (Nat.le_of_ble_eq_true rfl) rfl ?_
  intro p e s m args below meth c ls Q F hr hlocks hnt hX hK hP hl hQ
  have hx := F.1
  have hb := F.2.1
  have hS : va_S (AC b) s.heap s.heap [] := va_S.rf
  have hl : lv_has ls 2 [(0, .ref (b + 0)), (1, .int x1)] := hl
  refine lv_aload_n hx hb dX6_known_0 rfl (lv_at hl 0 rfl) ?_
  refine lv_iload_n hx hb dX6_known_1 rfl (lv_at hl 1 rfl) ?_
  obtain ⟨r2, q2, hf⟩ := cx_some' hf
  refine t_callr F hX hlocks hnt hQ hK hP hS [.int x1] (c_X6_siteOf l hfl D cI cO b S x1 r2 q2) wd_261 wd_263 wp_2 wd_1 wd_264 wC_M rfl hd_X6_siteOf rfl rfl ⟨Nat.le_of_ble_eq_true rfl, Nat.le_of_ble_eq_true rfl⟩ rfl hl (rest := []) rfl (Nat.le_of_ble_eq_true rfl) dX6_known_2 ⟨Nat.le_of_ble_eq_true rfl, Nat.le_of_ble_eq_true rfl⟩ ⟨Nat.le_of_ble_eq_true rfl, Nat.le_of_ble_eq_true rfl⟩ (fun e9 he9 => ⟨th_p (el_l he9 hf), rfl⟩) (fun z2 hv H locs hP hS => ?_)
  have hz2 : z2 < 4 := siteOf_lt (by rw [q2, hv])
  replace hf := el_r hv hf
  obtain ⟨v5, q5, hf⟩ := cl_some hf
  refine g_calli F hK hP hS [] (c_X4_deedCount l D cI cO b z2 hz2 S v5 q5) wd_742 wd_743 wd_744 wd_5 wd_745 (wC_S hz2) rfl hd_X4_deedCount rfl rfl ⟨Nat.le_of_ble_eq_true rfl, Nat.le_of_ble_eq_true rfl⟩ rfl hl (rest := []) rfl (Nat.le_of_ble_eq_true rfl) dX6_known_5 ⟨Nat.le_of_ble_eq_true rfl, Nat.le_of_ble_eq_true rfl⟩ (fun H locs hP hS => ?_)
  exact t_iret F hr hlocks hQ ⟨Nat.le_of_ble_eq_true rfl, Nat.le_of_ble_eq_true rfl⟩ hK hP hS (Option.some.inj hf) rfl dX6_known_8
