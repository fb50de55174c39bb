/-! THE CONSTRUCTORS of the class's parts: printed by wip/gen/ctor.py out of javap's listing -/
theorem bld_start2 {b k ci : Nat} {f g : Nat → va_E} {fs : List Value} (hf : f k = .inr (ci, fs)) : pW b f (k + 1) = pW b (bld f k ci fs g) (k + 1) := by
  refine pW_congr (fun i hi => ?_)
  by_cases h : i = k
  · rw [h, bld_k, hf]
  · rw [bld_lt (by omega)]
theorem ln_90 {k : Nat} (h : k < 132) : ln k = 90 := by unfold ln; rw [if_neg (by omega)]
theorem dfX0 : ∀ j, j < 6 → defaultValue (tyX0 j) = vp_V [.null, .null, .null, .null, .null, .null] j := by
  intro j hj
  rcases (show j = 0 ∨ j = 1 ∨ j = 2 ∨ j = 3 ∨ j = 4 ∨ j = 5 by omega) with rfl | rfl | rfl | rfl | rfl | rfl <;> rfl
theorem dfX1 : ∀ j, j < 9 → defaultValue (tyX1 j) = vp_V [.null, .null, .null, .null, .null, .null, .null, .null, .null] j := by
  intro j hj
  rcases (show j = 0 ∨ j = 1 ∨ j = 2 ∨ j = 3 ∨ j = 4 ∨ j = 5 ∨ j = 6 ∨ j = 7 ∨ j = 8 by omega) with rfl | rfl | rfl | rfl | rfl | rfl | rfl | rfl | rfl <;> rfl
theorem dfX2 : ∀ j, j < 2 → defaultValue (tyX2 j) = vp_V [.null, .int 0] j := by
  intro j hj
  rcases (show j = 0 ∨ j = 1 by omega) with rfl | rfl <;> rfl
theorem dfX3 : ∀ j, j < 4 → defaultValue (tyX3 j) = vp_V [.null, .null, .null, .null] j := by
  intro j hj
  rcases (show j = 0 ∨ j = 1 ∨ j = 2 ∨ j = 3 by omega) with rfl | rfl | rfl | rfl <;> rfl
theorem dfX4 : ∀ j, j < 6 → defaultValue (tyX4 j) = vp_V [.null, .null, .int 0, .null, .null, .int 0] j := by
  intro j hj
  rcases (show j = 0 ∨ j = 1 ∨ j = 2 ∨ j = 3 ∨ j = 4 ∨ j = 5 by omega) with rfl | rfl | rfl | rfl | rfl | rfl <;> rfl
theorem dfX5 : ∀ j, j < 7 → defaultValue (tyX5 j) = vp_V [.null, .null, .null, .null, .null, .null, .null] j := by
  intro j hj
  rcases (show j = 0 ∨ j = 1 ∨ j = 2 ∨ j = 3 ∨ j = 4 ∨ j = 5 ∨ j = 6 by omega) with rfl | rfl | rfl | rfl | rfl | rfl | rfl <;> rfl
theorem dfX6 : ∀ j, j < 3 → defaultValue (tyX6 j) = vp_V [.null, .null, .null] j := by
  intro j hj
  rcases (show j = 0 ∨ j = 1 ∨ j = 2 by omega) with rfl | rfl | rfl <;> rfl
abbrev rm_X1_init : Room := { frames := 2, cells := 18, slots := 828, locals := 43 }
theorem hd_X1_init : yX1_init.name = "<init>" ∧ yX1_init.cls ≠ "java/lang/invoke/MethodHandle" ∧ yX1_init.cls ≠ "java/lang/invoke/VarHandle" ∧ (parseMethodDescriptor yX1_init.desc).map (fun d => d.parameters.length) = some 0 := by decide +kernel
set_option maxRecDepth 100000 in
set_option maxHeartbeats 4000000 in
theorem c_X1_init (l : Launch) (D : va_G) (cI cO : ClassId) (b : Nat) (f : Nat → va_E) (hf : f 1 = .inr (1, [.null, .null, .null, .null, .null, .null, .null, .null, .null])) : Met l yX1_init (Cond.code yX1_init cX1_init 1 none :: wsAll) rm_X1_init (PZ D (tyC cI cO) b f (2) [.ref (b + 1)]) (QZ D (tyC cI cO) b (mix f 1 (gC cI cO b)) (20)) 18 828 (AP b) := by
  refine z_met RX1 (by decide +kernel) rfl (Nat.le_of_ble_eq_true rfl) rfl ?_
  intro p e s m args below meth c ls Q F hname hr hlocks hsz hK hP hl hQ
  have hx := F.1
  have hb := F.2.1
  have hS : va_S (AP b) s.heap s.heap [] := va_S.rf
  have hl : lv_has ls 1 [(0, .ref (b + 1))] := hl
  rw [bld_start2 (g := gC cI cO b) hf] at hP
  refine lv_aload_n hx hb dX1_init_0 rfl (lv_at hl 0 rfl) ?_
  refine z_obj F wd_30 hl dX1_init_1 (Nat.le_of_ble_eq_true rfl) (Nat.le_of_ble_eq_true rfl) ?_
  refine lv_aload_n hx hb dX1_init_4 rfl (lv_at hl 0 rfl) ?_
  refine z_newd (ci := 2) F hK hP hS (by omega) (by omega) inA2 tyX2 tyX2_ok wd_31 wd_32 wd_3 rfl dfX2 (Nat.le_of_ble_eq_true rfl) (Nat.le_of_ble_eq_true rfl) dX1_init_5 dX1_init_8 (fun H hP hS => ?_)
  refine lv_bipush (v := nI 90) hx hb dX1_init_9 (by decide) ?_
  refine z_numB (n := 2) (g := gC cI cO b) (N := 90) F hname rfl (by omega) (by decide) (gC_N nK_2) (gC_A nK_2 (ln_90 (by decide))) hK hP hS (by omega) hl inA1 tyX1 tyX1_ok nmX1 rfl 0 (by decide) wd_48 rfl rfl (by decide +kernel) (Nat.le_of_ble_eq_true rfl) wd_33 ⟨Nat.le_of_ble_eq_true rfl, Nat.le_of_ble_eq_true rfl⟩ ⟨Nat.le_of_ble_eq_true rfl, Nat.le_of_ble_eq_true rfl⟩ (Nat.le_of_ble_eq_true rfl) dX1_init_11 dX1_init_14 (fun H locs hP hS => ?_)
  refine lv_aload_n hx hb dX1_init_17 rfl (lv_at hl 0 rfl) ?_
  refine z_newd (ci := 2) F hK hP hS (by omega) (by omega) inA2 tyX2 tyX2_ok wd_31 wd_32 wd_3 rfl dfX2 (Nat.le_of_ble_eq_true rfl) (Nat.le_of_ble_eq_true rfl) dX1_init_18 dX1_init_21 (fun H hP hS => ?_)
  refine lv_bipush (v := nI 90) hx hb dX1_init_22 (by decide) ?_
  refine z_numB (n := 4) (g := gC cI cO b) (N := 90) F hname rfl (by omega) (by decide) (gC_N nK_4) (gC_A nK_4 (ln_90 (by decide))) hK hP hS (by omega) hl inA1 tyX1 tyX1_ok nmX1 rfl 1 (by decide) wd_49 rfl rfl (by decide +kernel) (Nat.le_of_ble_eq_true rfl) wd_33 ⟨Nat.le_of_ble_eq_true rfl, Nat.le_of_ble_eq_true rfl⟩ ⟨Nat.le_of_ble_eq_true rfl, Nat.le_of_ble_eq_true rfl⟩ (Nat.le_of_ble_eq_true rfl) dX1_init_24 dX1_init_27 (fun H locs hP hS => ?_)
  refine lv_aload_n hx hb dX1_init_30 rfl (lv_at hl 0 rfl) ?_
  refine z_newd (ci := 2) F hK hP hS (by omega) (by omega) inA2 tyX2 tyX2_ok wd_31 wd_32 wd_3 rfl dfX2 (Nat.le_of_ble_eq_true rfl) (Nat.le_of_ble_eq_true rfl) dX1_init_31 dX1_init_34 (fun H hP hS => ?_)
  refine lv_bipush (v := nI 90) hx hb dX1_init_35 (by decide) ?_
  refine z_numB (n := 6) (g := gC cI cO b) (N := 90) F hname rfl (by omega) (by decide) (gC_N nK_6) (gC_A nK_6 (ln_90 (by decide))) hK hP hS (by omega) hl inA1 tyX1 tyX1_ok nmX1 rfl 2 (by decide) wd_50 rfl rfl (by decide +kernel) (Nat.le_of_ble_eq_true rfl) wd_33 ⟨Nat.le_of_ble_eq_true rfl, Nat.le_of_ble_eq_true rfl⟩ ⟨Nat.le_of_ble_eq_true rfl, Nat.le_of_ble_eq_true rfl⟩ (Nat.le_of_ble_eq_true rfl) dX1_init_37 dX1_init_40 (fun H locs hP hS => ?_)
  refine lv_aload_n hx hb dX1_init_43 rfl (lv_at hl 0 rfl) ?_
  refine z_newd (ci := 2) F hK hP hS (by omega) (by omega) inA2 tyX2 tyX2_ok wd_31 wd_32 wd_3 rfl dfX2 (Nat.le_of_ble_eq_true rfl) (Nat.le_of_ble_eq_true rfl) dX1_init_44 dX1_init_47 (fun H hP hS => ?_)
  refine lv_bipush (v := nI 90) hx hb dX1_init_48 (by decide) ?_
  refine z_numB (n := 8) (g := gC cI cO b) (N := 90) F hname rfl (by omega) (by decide) (gC_N nK_8) (gC_A nK_8 (ln_90 (by decide))) hK hP hS (by omega) hl inA1 tyX1 tyX1_ok nmX1 rfl 3 (by decide) wd_51 rfl rfl (by decide +kernel) (Nat.le_of_ble_eq_true rfl) wd_33 ⟨Nat.le_of_ble_eq_true rfl, Nat.le_of_ble_eq_true rfl⟩ ⟨Nat.le_of_ble_eq_true rfl, Nat.le_of_ble_eq_true rfl⟩ (Nat.le_of_ble_eq_true rfl) dX1_init_50 dX1_init_53 (fun H locs hP hS => ?_)
  refine lv_aload_n hx hb dX1_init_56 rfl (lv_at hl 0 rfl) ?_
  refine z_newd (ci := 2) F hK hP hS (by omega) (by omega) inA2 tyX2 tyX2_ok wd_31 wd_32 wd_3 rfl dfX2 (Nat.le_of_ble_eq_true rfl) (Nat.le_of_ble_eq_true rfl) dX1_init_57 dX1_init_60 (fun H hP hS => ?_)
  refine lv_bipush (v := nI 90) hx hb dX1_init_61 (by decide) ?_
  refine z_numB (n := 10) (g := gC cI cO b) (N := 90) F hname rfl (by omega) (by decide) (gC_N nK_10) (gC_A nK_10 (ln_90 (by decide))) hK hP hS (by omega) hl inA1 tyX1 tyX1_ok nmX1 rfl 4 (by decide) wd_52 rfl rfl (by decide +kernel) (Nat.le_of_ble_eq_true rfl) wd_33 ⟨Nat.le_of_ble_eq_true rfl, Nat.le_of_ble_eq_true rfl⟩ ⟨Nat.le_of_ble_eq_true rfl, Nat.le_of_ble_eq_true rfl⟩ (Nat.le_of_ble_eq_true rfl) dX1_init_63 dX1_init_66 (fun H locs hP hS => ?_)
  refine lv_aload_n hx hb dX1_init_69 rfl (lv_at hl 0 rfl) ?_
  refine z_newd (ci := 2) F hK hP hS (by omega) (by omega) inA2 tyX2 tyX2_ok wd_31 wd_32 wd_3 rfl dfX2 (Nat.le_of_ble_eq_true rfl) (Nat.le_of_ble_eq_true rfl) dX1_init_70 dX1_init_73 (fun H hP hS => ?_)
  refine lv_bipush (v := nI 90) hx hb dX1_init_74 (by decide) ?_
  refine z_numB (n := 12) (g := gC cI cO b) (N := 90) F hname rfl (by omega) (by decide) (gC_N nK_12) (gC_A nK_12 (ln_90 (by decide))) hK hP hS (by omega) hl inA1 tyX1 tyX1_ok nmX1 rfl 5 (by decide) wd_53 rfl rfl (by decide +kernel) (Nat.le_of_ble_eq_true rfl) wd_33 ⟨Nat.le_of_ble_eq_true rfl, Nat.le_of_ble_eq_true rfl⟩ ⟨Nat.le_of_ble_eq_true rfl, Nat.le_of_ble_eq_true rfl⟩ (Nat.le_of_ble_eq_true rfl) dX1_init_76 dX1_init_79 (fun H locs hP hS => ?_)
  refine lv_aload_n hx hb dX1_init_82 rfl (lv_at hl 0 rfl) ?_
  refine z_newd (ci := 2) F hK hP hS (by omega) (by omega) inA2 tyX2 tyX2_ok wd_31 wd_32 wd_3 rfl dfX2 (Nat.le_of_ble_eq_true rfl) (Nat.le_of_ble_eq_true rfl) dX1_init_83 dX1_init_86 (fun H hP hS => ?_)
  refine lv_bipush (v := nI 90) hx hb dX1_init_87 (by decide) ?_
  refine z_numB (n := 14) (g := gC cI cO b) (N := 90) F hname rfl (by omega) (by decide) (gC_N nK_14) (gC_A nK_14 (ln_90 (by decide))) hK hP hS (by omega) hl inA1 tyX1 tyX1_ok nmX1 rfl 6 (by decide) wd_54 rfl rfl (by decide +kernel) (Nat.le_of_ble_eq_true rfl) wd_33 ⟨Nat.le_of_ble_eq_true rfl, Nat.le_of_ble_eq_true rfl⟩ ⟨Nat.le_of_ble_eq_true rfl, Nat.le_of_ble_eq_true rfl⟩ (Nat.le_of_ble_eq_true rfl) dX1_init_89 dX1_init_92 (fun H locs hP hS => ?_)
  refine lv_aload_n hx hb dX1_init_95 rfl (lv_at hl 0 rfl) ?_
  refine z_newd (ci := 2) F hK hP hS (by omega) (by omega) inA2 tyX2 tyX2_ok wd_31 wd_32 wd_3 rfl dfX2 (Nat.le_of_ble_eq_true rfl) (Nat.le_of_ble_eq_true rfl) dX1_init_96 dX1_init_99 (fun H hP hS => ?_)
  refine lv_bipush (v := nI 90) hx hb dX1_init_100 (by decide) ?_
  refine z_numB (n := 16) (g := gC cI cO b) (N := 90) F hname rfl (by omega) (by decide) (gC_N nK_16) (gC_A nK_16 (ln_90 (by decide))) hK hP hS (by omega) hl inA1 tyX1 tyX1_ok nmX1 rfl 7 (by decide) wd_55 rfl rfl (by decide +kernel) (Nat.le_of_ble_eq_true rfl) wd_33 ⟨Nat.le_of_ble_eq_true rfl, Nat.le_of_ble_eq_true rfl⟩ ⟨Nat.le_of_ble_eq_true rfl, Nat.le_of_ble_eq_true rfl⟩ (Nat.le_of_ble_eq_true rfl) dX1_init_102 dX1_init_105 (fun H locs hP hS => ?_)
  refine lv_aload_n hx hb dX1_init_108 rfl (lv_at hl 0 rfl) ?_
  refine z_newd (ci := 2) F hK hP hS (by omega) (by omega) inA2 tyX2 tyX2_ok wd_31 wd_32 wd_3 rfl dfX2 (Nat.le_of_ble_eq_true rfl) (Nat.le_of_ble_eq_true rfl) dX1_init_109 dX1_init_112 (fun H hP hS => ?_)
  refine lv_bipush (v := nI 90) hx hb dX1_init_113 (by decide) ?_
  refine z_numB (n := 18) (g := gC cI cO b) (N := 90) F hname rfl (by omega) (by decide) (gC_N nK_18) (gC_A nK_18 (ln_90 (by decide))) hK hP hS (by omega) hl inA1 tyX1 tyX1_ok nmX1 rfl 8 (by decide) wd_56 rfl rfl (by decide +kernel) (Nat.le_of_ble_eq_true rfl) wd_33 ⟨Nat.le_of_ble_eq_true rfl, Nat.le_of_ble_eq_true rfl⟩ ⟨Nat.le_of_ble_eq_true rfl, Nat.le_of_ble_eq_true rfl⟩ (Nat.le_of_ble_eq_true rfl) dX1_init_115 dX1_init_118 (fun H locs hP hS => ?_)
  have hfin : bld f 1 1 [.ref (b + 2), .ref (b + 4), .ref (b + 6), .ref (b + 8), .ref (b + 10), .ref (b + 12), .ref (b + 14), .ref (b + 16), .ref (b + 18)] (gC cI cO b) = mix f 1 (gC cI cO b) := bld_end (gC_of (by decide) (wC_G))
  have hP : va_P D vwCl (pW b (bld f 1 1 [.ref (b + 2), .ref (b + 4), .ref (b + 6), .ref (b + 8), .ref (b + 10), .ref (b + 12), .ref (b + 14), .ref (b + 16), .ref (b + 18)] (gC cI cO b)) (20)) H := hP
  rw [hfin] at hP
  exact z_vret F hr hlocks hQ rfl rfl hK hP hS dX1_init_121
abbrev rm_X5_init : Room := { frames := 2, cells := 12, slots := 552, locals := 43 }
theorem hd_X5_init : yX5_init.name = "<init>" ∧ yX5_init.cls ≠ "java/lang/invoke/MethodHandle" ∧ yX5_init.cls ≠ "java/lang/invoke/VarHandle" ∧ (parseMethodDescriptor yX5_init.desc).map (fun d => d.parameters.length) = some 1 := by decide +kernel
set_option maxRecDepth 100000 in
set_option maxHeartbeats 4000000 in
theorem c_X5_init (l : Launch) (D : va_G) (cI cO : ClassId) (b : Nat) (z : Nat) (hz : z < 4) (f : Nat → va_E) (hf : f (oT z) = .inr (5, [.null, .null, .null, .null, .null, .null, .null])) : Met l yX5_init (Cond.code yX5_init cX5_init 2 none :: wsAll) rm_X5_init (PZ D (tyC cI cO) b f (oT z + 1) [.ref (b + (oT z)), .ref (b + 1)]) (QZ D (tyC cI cO) b (mix f (oT z) (gC cI cO b)) (oT z + 13)) 12 552 (AP b) := by
  refine z_met RX5 (by decide +kernel) rfl (Nat.le_of_ble_eq_true rfl) rfl ?_
  intro p e s m args below meth c ls Q F hname hr hlocks hsz hK hP hl hQ
  have hx := F.1
  have hb := F.2.1
  have hS : va_S (AP b) s.heap s.heap [] := va_S.rf
  have hzS : oS z = 21 + 27 * z := rfl
  have hzT : oT z = oS z + 5 := rfl
  have hzL : oL z = oS z + 18 := rfl
  have hl : lv_has ls 2 [(0, .ref (b + (oT z))), (1, .ref (b + 1))] := hl
  rw [bld_start2 (g := gC cI cO b) hf] at hP
  refine lv_aload_n hx hb dX5_init_0 rfl (lv_at hl 0 rfl) ?_
  refine z_obj F wd_90 hl dX5_init_1 (Nat.le_of_ble_eq_true rfl) (Nat.le_of_ble_eq_true rfl) ?_
  refine lv_aload_n hx hb dX5_init_4 rfl (lv_at hl 0 rfl) ?_
  refine z_newd (ci := 2) F hK hP hS (by omega) (by omega) inA2 tyX2 tyX2_ok wd_91 wd_32 wd_3 rfl dfX2 (Nat.le_of_ble_eq_true rfl) (Nat.le_of_ble_eq_true rfl) dX5_init_5 dX5_init_8 (fun H hP hS => ?_)
  refine lv_bipush (v := nI 90) hx hb dX5_init_9 (by decide) ?_
  refine z_numB (n := oT z + 1) (g := gC cI cO b) (N := 90) F hname rfl (by omega) (by decide) (gC_N (nKT z hz).1) (gC_A (nKT z hz).1 (ln_90 (by unfold oT oS; omega))) hK hP hS (by omega) hl inA5 tyX5 tyX5_ok nmX5 rfl 1 (by decide) wd_94 rfl rfl (by decide +kernel) (Nat.le_of_ble_eq_true rfl) wd_92 ⟨Nat.le_of_ble_eq_true rfl, Nat.le_of_ble_eq_true rfl⟩ ⟨Nat.le_of_ble_eq_true rfl, Nat.le_of_ble_eq_true rfl⟩ (Nat.le_of_ble_eq_true rfl) dX5_init_11 dX5_init_14 (fun H locs hP hS => ?_)
  refine lv_aload_n hx hb dX5_init_17 rfl (lv_at hl 0 rfl) ?_
  refine z_newd (ci := 2) F hK hP hS (by omega) (by omega) inA2 tyX2 tyX2_ok wd_91 wd_32 wd_3 rfl dfX2 (Nat.le_of_ble_eq_true rfl) (Nat.le_of_ble_eq_true rfl) dX5_init_18 dX5_init_21 (fun H hP hS => ?_)
  refine lv_bipush (v := nI 90) hx hb dX5_init_22 (by decide) ?_
  refine z_numB (n := oT z + 3) (g := gC cI cO b) (N := 90) F hname rfl (by omega) (by decide) (gC_N (nKT z hz).2.1) (gC_A (nKT z hz).2.1 (ln_90 (by unfold oT oS; omega))) hK hP hS (by omega) hl inA5 tyX5 tyX5_ok nmX5 rfl 2 (by decide) wd_95 rfl rfl (by decide +kernel) (Nat.le_of_ble_eq_true rfl) wd_92 ⟨Nat.le_of_ble_eq_true rfl, Nat.le_of_ble_eq_true rfl⟩ ⟨Nat.le_of_ble_eq_true rfl, Nat.le_of_ble_eq_true rfl⟩ (Nat.le_of_ble_eq_true rfl) dX5_init_24 dX5_init_27 (fun H locs hP hS => ?_)
  refine lv_aload_n hx hb dX5_init_30 rfl (lv_at hl 0 rfl) ?_
  refine z_newd (ci := 2) F hK hP hS (by omega) (by omega) inA2 tyX2 tyX2_ok wd_91 wd_32 wd_3 rfl dfX2 (Nat.le_of_ble_eq_true rfl) (Nat.le_of_ble_eq_true rfl) dX5_init_31 dX5_init_34 (fun H hP hS => ?_)
  refine lv_bipush (v := nI 90) hx hb dX5_init_35 (by decide) ?_
  refine z_numB (n := oT z + 5) (g := gC cI cO b) (N := 90) F hname rfl (by omega) (by decide) (gC_N (nKT z hz).2.2.1) (gC_A (nKT z hz).2.2.1 (ln_90 (by unfold oT oS; omega))) hK hP hS (by omega) hl inA5 tyX5 tyX5_ok nmX5 rfl 3 (by decide) wd_96 rfl rfl (by decide +kernel) (Nat.le_of_ble_eq_true rfl) wd_92 ⟨Nat.le_of_ble_eq_true rfl, Nat.le_of_ble_eq_true rfl⟩ ⟨Nat.le_of_ble_eq_true rfl, Nat.le_of_ble_eq_true rfl⟩ (Nat.le_of_ble_eq_true rfl) dX5_init_37 dX5_init_40 (fun H locs hP hS => ?_)
  refine lv_aload_n hx hb dX5_init_43 rfl (lv_at hl 0 rfl) ?_
  refine z_newd (ci := 2) F hK hP hS (by omega) (by omega) inA2 tyX2 tyX2_ok wd_91 wd_32 wd_3 rfl dfX2 (Nat.le_of_ble_eq_true rfl) (Nat.le_of_ble_eq_true rfl) dX5_init_44 dX5_init_47 (fun H hP hS => ?_)
  refine lv_bipush (v := nI 90) hx hb dX5_init_48 (by decide) ?_
  refine z_numB (n := oT z + 7) (g := gC cI cO b) (N := 90) F hname rfl (by omega) (by decide) (gC_N (nKT z hz).2.2.2.1) (gC_A (nKT z hz).2.2.2.1 (ln_90 (by unfold oT oS; omega))) hK hP hS (by omega) hl inA5 tyX5 tyX5_ok nmX5 rfl 4 (by decide) wd_97 rfl rfl (by decide +kernel) (Nat.le_of_ble_eq_true rfl) wd_92 ⟨Nat.le_of_ble_eq_true rfl, Nat.le_of_ble_eq_true rfl⟩ ⟨Nat.le_of_ble_eq_true rfl, Nat.le_of_ble_eq_true rfl⟩ (Nat.le_of_ble_eq_true rfl) dX5_init_50 dX5_init_53 (fun H locs hP hS => ?_)
  refine lv_aload_n hx hb dX5_init_56 rfl (lv_at hl 0 rfl) ?_
  refine z_newd (ci := 2) F hK hP hS (by omega) (by omega) inA2 tyX2 tyX2_ok wd_91 wd_32 wd_3 rfl dfX2 (Nat.le_of_ble_eq_true rfl) (Nat.le_of_ble_eq_true rfl) dX5_init_57 dX5_init_60 (fun H hP hS => ?_)
  refine lv_bipush (v := nI 90) hx hb dX5_init_61 (by decide) ?_
  refine z_numB (n := oT z + 9) (g := gC cI cO b) (N := 90) F hname rfl (by omega) (by decide) (gC_N (nKT z hz).2.2.2.2.1) (gC_A (nKT z hz).2.2.2.2.1 (ln_90 (by unfold oT oS; omega))) hK hP hS (by omega) hl inA5 tyX5 tyX5_ok nmX5 rfl 5 (by decide) wd_98 rfl rfl (by decide +kernel) (Nat.le_of_ble_eq_true rfl) wd_92 ⟨Nat.le_of_ble_eq_true rfl, Nat.le_of_ble_eq_true rfl⟩ ⟨Nat.le_of_ble_eq_true rfl, Nat.le_of_ble_eq_true rfl⟩ (Nat.le_of_ble_eq_true rfl) dX5_init_63 dX5_init_66 (fun H locs hP hS => ?_)
  refine lv_aload_n hx hb dX5_init_69 rfl (lv_at hl 0 rfl) ?_
  refine z_newd (ci := 2) F hK hP hS (by omega) (by omega) inA2 tyX2 tyX2_ok wd_91 wd_32 wd_3 rfl dfX2 (Nat.le_of_ble_eq_true rfl) (Nat.le_of_ble_eq_true rfl) dX5_init_70 dX5_init_73 (fun H hP hS => ?_)
  refine lv_bipush (v := nI 90) hx hb dX5_init_74 (by decide) ?_
  refine z_numB (n := oT z + 11) (g := gC cI cO b) (N := 90) F hname rfl (by omega) (by decide) (gC_N (nKT z hz).2.2.2.2.2) (gC_A (nKT z hz).2.2.2.2.2 (ln_90 (by unfold oT oS; omega))) hK hP hS (by omega) hl inA5 tyX5 tyX5_ok nmX5 rfl 6 (by decide) wd_99 rfl rfl (by decide +kernel) (Nat.le_of_ble_eq_true rfl) wd_92 ⟨Nat.le_of_ble_eq_true rfl, Nat.le_of_ble_eq_true rfl⟩ ⟨Nat.le_of_ble_eq_true rfl, Nat.le_of_ble_eq_true rfl⟩ (Nat.le_of_ble_eq_true rfl) dX5_init_76 dX5_init_79 (fun H locs hP hS => ?_)
  refine lv_aload_n hx hb dX5_init_82 rfl (lv_at hl 0 rfl) ?_
  refine lv_aload_n hx hb dX5_init_83 rfl (lv_at hl 1 rfl) ?_
  refine z_put F hname hK hP hS inA5 tyX5 tyX5_ok nmX5 (k := oT z) (by omega) bld_k rfl 0 (by decide) wd_93 rfl rfl (ty := tyX5 0) (by decide +kernel) rfl rfl (Nat.le_of_ble_eq_true rfl) dX5_init_84 (fun H locs hP hS => ?_)
  rw [bld_put] at hP
  have hfin : bld f (oT z) 5 [.ref (b + 1), .ref (b + (oT z + 1)), .ref (b + (oT z + 3)), .ref (b + (oT z + 5)), .ref (b + (oT z + 7)), .ref (b + (oT z + 9)), .ref (b + (oT z + 11))] (gC cI cO b) = mix f (oT z) (gC cI cO b) := bld_end (gC_of (by omega) (wC_T hz))
  have hP : va_P D vwCl (pW b (bld f (oT z) 5 [.ref (b + 1), .ref (b + (oT z + 1)), .ref (b + (oT z + 3)), .ref (b + (oT z + 5)), .ref (b + (oT z + 7)), .ref (b + (oT z + 9)), .ref (b + (oT z + 11))] (gC cI cO b)) (oT z + 13)) H := hP
  rw [hfin] at hP
  exact z_vret F hr hlocks hQ rfl rfl hK hP hS dX5_init_87
abbrev rm_X0_init : Room := { frames := 2, cells := 8, slots := 368, locals := 43 }
theorem hd_X0_init : yX0_init.name = "<init>" ∧ yX0_init.cls ≠ "java/lang/invoke/MethodHandle" ∧ yX0_init.cls ≠ "java/lang/invoke/VarHandle" ∧ (parseMethodDescriptor yX0_init.desc).map (fun d => d.parameters.length) = some 2 := by decide +kernel
set_option maxRecDepth 100000 in
set_option maxHeartbeats 4000000 in
theorem c_X0_init (l : Launch) (D : va_G) (cI cO : ClassId) (b : Nat) (z : Nat) (hz : z < 4) (f : Nat → va_E) (hf : f (oL z) = .inr (0, [.null, .null, .null, .null, .null, .null])) : Met l yX0_init (Cond.code yX0_init cX0_init 3 none :: wsAll) rm_X0_init (PZ D (tyC cI cO) b f (oL z + 1) [.ref (b + (oL z)), .ref (b + 1), .ref (b + (oT z))]) (QZ D (tyC cI cO) b (mix f (oL z) (gC cI cO b)) (oL z + 9)) 8 368 (AP b) := by
  refine z_met RX0 (by decide +kernel) rfl (Nat.le_of_ble_eq_true rfl) rfl ?_
  intro p e s m args below meth c ls Q F hname hr hlocks hsz hK hP hl hQ
  have hx := F.1
  have hb := F.2.1
  have hS : va_S (AP b) s.heap s.heap [] := va_S.rf
  have hzS : oS z = 21 + 27 * z := rfl
  have hzT : oT z = oS z + 5 := rfl
  have hzL : oL z = oS z + 18 := rfl
  have hl : lv_has ls 3 [(0, .ref (b + (oL z))), (1, .ref (b + 1)), (2, .ref (b + (oT z)))] := hl
  rw [bld_start2 (g := gC cI cO b) hf] at hP
  refine lv_aload_n hx hb dX0_init_0 rfl (lv_at hl 0 rfl) ?_
  refine z_obj F wd_120 hl dX0_init_1 (Nat.le_of_ble_eq_true rfl) (Nat.le_of_ble_eq_true rfl) ?_
  refine lv_aload_n hx hb dX0_init_4 rfl (lv_at hl 0 rfl) ?_
  refine z_newd (ci := 2) F hK hP hS (by omega) (by omega) inA2 tyX2 tyX2_ok wd_121 wd_32 wd_3 rfl dfX2 (Nat.le_of_ble_eq_true rfl) (Nat.le_of_ble_eq_true rfl) dX0_init_5 dX0_init_8 (fun H hP hS => ?_)
  refine lv_bipush (v := nI 90) hx hb dX0_init_9 (by decide) ?_
  refine z_numB (n := oL z + 1) (g := gC cI cO b) (N := 90) F hname rfl (by omega) (by decide) (gC_N (nKL z hz).1) (gC_A (nKL z hz).1 (ln_90 (by unfold oL oS; omega))) hK hP hS (by omega) hl inA0 tyX0 tyX0_ok nmX0 rfl 2 (by decide) wd_125 rfl rfl (by decide +kernel) (Nat.le_of_ble_eq_true rfl) wd_122 ⟨Nat.le_of_ble_eq_true rfl, Nat.le_of_ble_eq_true rfl⟩ ⟨Nat.le_of_ble_eq_true rfl, Nat.le_of_ble_eq_true rfl⟩ (Nat.le_of_ble_eq_true rfl) dX0_init_11 dX0_init_14 (fun H locs hP hS => ?_)
  refine lv_aload_n hx hb dX0_init_17 rfl (lv_at hl 0 rfl) ?_
  refine z_newd (ci := 2) F hK hP hS (by omega) (by omega) inA2 tyX2 tyX2_ok wd_121 wd_32 wd_3 rfl dfX2 (Nat.le_of_ble_eq_true rfl) (Nat.le_of_ble_eq_true rfl) dX0_init_18 dX0_init_21 (fun H hP hS => ?_)
  refine lv_bipush (v := nI 90) hx hb dX0_init_22 (by decide) ?_
  refine z_numB (n := oL z + 3) (g := gC cI cO b) (N := 90) F hname rfl (by omega) (by decide) (gC_N (nKL z hz).2.1) (gC_A (nKL z hz).2.1 (ln_90 (by unfold oL oS; omega))) hK hP hS (by omega) hl inA0 tyX0 tyX0_ok nmX0 rfl 3 (by decide) wd_126 rfl rfl (by decide +kernel) (Nat.le_of_ble_eq_true rfl) wd_122 ⟨Nat.le_of_ble_eq_true rfl, Nat.le_of_ble_eq_true rfl⟩ ⟨Nat.le_of_ble_eq_true rfl, Nat.le_of_ble_eq_true rfl⟩ (Nat.le_of_ble_eq_true rfl) dX0_init_24 dX0_init_27 (fun H locs hP hS => ?_)
  refine lv_aload_n hx hb dX0_init_30 rfl (lv_at hl 0 rfl) ?_
  refine z_newd (ci := 2) F hK hP hS (by omega) (by omega) inA2 tyX2 tyX2_ok wd_121 wd_32 wd_3 rfl dfX2 (Nat.le_of_ble_eq_true rfl) (Nat.le_of_ble_eq_true rfl) dX0_init_31 dX0_init_34 (fun H hP hS => ?_)
  refine lv_bipush (v := nI 90) hx hb dX0_init_35 (by decide) ?_
  refine z_numB (n := oL z + 5) (g := gC cI cO b) (N := 90) F hname rfl (by omega) (by decide) (gC_N (nKL z hz).2.2.1) (gC_A (nKL z hz).2.2.1 (ln_90 (by unfold oL oS; omega))) hK hP hS (by omega) hl inA0 tyX0 tyX0_ok nmX0 rfl 4 (by decide) wd_127 rfl rfl (by decide +kernel) (Nat.le_of_ble_eq_true rfl) wd_122 ⟨Nat.le_of_ble_eq_true rfl, Nat.le_of_ble_eq_true rfl⟩ ⟨Nat.le_of_ble_eq_true rfl, Nat.le_of_ble_eq_true rfl⟩ (Nat.le_of_ble_eq_true rfl) dX0_init_37 dX0_init_40 (fun H locs hP hS => ?_)
  refine lv_aload_n hx hb dX0_init_43 rfl (lv_at hl 0 rfl) ?_
  refine z_newd (ci := 2) F hK hP hS (by omega) (by omega) inA2 tyX2 tyX2_ok wd_121 wd_32 wd_3 rfl dfX2 (Nat.le_of_ble_eq_true rfl) (Nat.le_of_ble_eq_true rfl) dX0_init_44 dX0_init_47 (fun H hP hS => ?_)
  refine lv_bipush (v := nI 90) hx hb dX0_init_48 (by decide) ?_
  refine z_numB (n := oL z + 7) (g := gC cI cO b) (N := 90) F hname rfl (by omega) (by decide) (gC_N (nKL z hz).2.2.2) (gC_A (nKL z hz).2.2.2 (ln_90 (by unfold oL oS; omega))) hK hP hS (by omega) hl inA0 tyX0 tyX0_ok nmX0 rfl 5 (by decide) wd_128 rfl rfl (by decide +kernel) (Nat.le_of_ble_eq_true rfl) wd_122 ⟨Nat.le_of_ble_eq_true rfl, Nat.le_of_ble_eq_true rfl⟩ ⟨Nat.le_of_ble_eq_true rfl, Nat.le_of_ble_eq_true rfl⟩ (Nat.le_of_ble_eq_true rfl) dX0_init_50 dX0_init_53 (fun H locs hP hS => ?_)
  refine lv_aload_n hx hb dX0_init_56 rfl (lv_at hl 0 rfl) ?_
  refine lv_aload_n hx hb dX0_init_57 rfl (lv_at hl 1 rfl) ?_
  refine z_put F hname hK hP hS inA0 tyX0 tyX0_ok nmX0 (k := oL z) (by omega) bld_k rfl 0 (by decide) wd_123 rfl rfl (ty := tyX0 0) (by decide +kernel) rfl rfl (Nat.le_of_ble_eq_true rfl) dX0_init_58 (fun H locs hP hS => ?_)
  rw [bld_put] at hP
  refine lv_aload_n hx hb dX0_init_61 rfl (lv_at hl 0 rfl) ?_
  refine lv_aload_n hx hb dX0_init_62 rfl (lv_at hl 2 rfl) ?_
  refine z_put F hname hK hP hS inA0 tyX0 tyX0_ok nmX0 (k := oL z) (by omega) bld_k rfl 1 (by decide) wd_124 rfl rfl (ty := tyX0 1) (by decide +kernel) rfl rfl (Nat.le_of_ble_eq_true rfl) dX0_init_63 (fun H locs hP hS => ?_)
  rw [bld_put] at hP
  have hfin : bld f (oL z) 0 [.ref (b + 1), .ref (b + (oT z)), .ref (b + (oL z + 1)), .ref (b + (oL z + 3)), .ref (b + (oL z + 5)), .ref (b + (oL z + 7))] (gC cI cO b) = mix f (oL z) (gC cI cO b) := bld_end (gC_of (by omega) (wC_L hz))
  have hP : va_P D vwCl (pW b (bld f (oL z) 0 [.ref (b + 1), .ref (b + (oT z)), .ref (b + (oL z + 1)), .ref (b + (oL z + 3)), .ref (b + (oL z + 5)), .ref (b + (oL z + 7))] (gC cI cO b)) (oL z + 9)) H := hP
  rw [hfin] at hP
  exact z_vret F hr hlocks hQ rfl rfl hK hP hS dX0_init_66
abbrev rm_X4_init : Room := { frames := 3, cells := 26, slots := 1117, locals := 65 }
theorem hd_X4_init : yX4_init.name = "<init>" ∧ yX4_init.cls ≠ "java/lang/invoke/MethodHandle" ∧ yX4_init.cls ≠ "java/lang/invoke/VarHandle" ∧ (parseMethodDescriptor yX4_init.desc).map (fun d => d.parameters.length) = some 2 := by decide +kernel
set_option maxRecDepth 100000 in
set_option maxHeartbeats 4000000 in
theorem c_X4_init (l : Launch) (D : va_G) (cI cO : ClassId) (b : Nat) (z : Nat) (hz : z < 4) (f : Nat → va_E) (hf : f (oS z) = .inr (4, [.null, .null, .int 0, .null, .null, .int 0])) : Met l yX4_init (Cond.code yX4_init cX4_init 3 none :: wsAll) rm_X4_init (PZ D (tyC cI cO) b f (oS z + 1) [.ref (b + (oS z)), .int (nI z), .ref (b + 1)]) (QZ D (tyC cI cO) b (mix f (oS z) (gC cI cO b)) (oS z + 27)) 26 1117 (AP b) := by
  refine z_met RX4 (by decide +kernel) rfl (Nat.le_of_ble_eq_true rfl) rfl ?_
  intro p e s m args below meth c ls Q F hname hr hlocks hsz hK hP hl hQ
  have hx := F.1
  have hb := F.2.1
  have hS : va_S (AP b) s.heap s.heap [] := va_S.rf
  have hzS : oS z = 21 + 27 * z := rfl
  have hzT : oT z = oS z + 5 := rfl
  have hzL : oL z = oS z + 18 := rfl
  have hl : lv_has ls 3 [(0, .ref (b + (oS z))), (1, .int (nI z)), (2, .ref (b + 1))] := hl
  rw [bld_start2 (g := gC cI cO b) hf] at hP
  refine lv_aload_n hx hb dX4_init_0 rfl (lv_at hl 0 rfl) ?_
  refine z_obj F wd_82 hl dX4_init_1 (Nat.le_of_ble_eq_true rfl) (Nat.le_of_ble_eq_true rfl) ?_
  refine lv_aload_n hx hb dX4_init_4 rfl (lv_at hl 0 rfl) ?_
  refine z_newd (ci := 2) F hK hP hS (by omega) (by omega) inA2 tyX2 tyX2_ok wd_83 wd_32 wd_3 rfl dfX2 (Nat.le_of_ble_eq_true rfl) (Nat.le_of_ble_eq_true rfl) dX4_init_5 dX4_init_8 (fun H hP hS => ?_)
  refine lv_bipush (v := nI 90) hx hb dX4_init_9 (by decide) ?_
  refine z_numB (n := oS z + 1) (g := gC cI cO b) (N := 90) F hname rfl (by omega) (by decide) (gC_N (nKS z hz).1) (gC_A (nKS z hz).1 (ln_90 (by unfold oS; omega))) hK hP hS (by omega) hl inA4 tyX4 tyX4_ok nmX4 rfl 3 (by decide) wd_147 rfl rfl (by decide +kernel) (Nat.le_of_ble_eq_true rfl) wd_84 ⟨Nat.le_of_ble_eq_true rfl, Nat.le_of_ble_eq_true rfl⟩ ⟨Nat.le_of_ble_eq_true rfl, Nat.le_of_ble_eq_true rfl⟩ (Nat.le_of_ble_eq_true rfl) dX4_init_11 dX4_init_14 (fun H locs hP hS => ?_)
  refine lv_aload_n hx hb dX4_init_17 rfl (lv_at hl 0 rfl) ?_
  refine z_newd (ci := 2) F hK hP hS (by omega) (by omega) inA2 tyX2 tyX2_ok wd_83 wd_32 wd_3 rfl dfX2 (Nat.le_of_ble_eq_true rfl) (Nat.le_of_ble_eq_true rfl) dX4_init_18 dX4_init_21 (fun H hP hS => ?_)
  refine lv_bipush (v := nI 90) hx hb dX4_init_22 (by decide) ?_
  refine z_numB (n := oS z + 3) (g := gC cI cO b) (N := 90) F hname rfl (by omega) (by decide) (gC_N (nKS z hz).2) (gC_A (nKS z hz).2 (ln_90 (by unfold oS; omega))) hK hP hS (by omega) hl inA4 tyX4 tyX4_ok nmX4 rfl 4 (by decide) wd_148 rfl rfl (by decide +kernel) (Nat.le_of_ble_eq_true rfl) wd_84 ⟨Nat.le_of_ble_eq_true rfl, Nat.le_of_ble_eq_true rfl⟩ ⟨Nat.le_of_ble_eq_true rfl, Nat.le_of_ble_eq_true rfl⟩ (Nat.le_of_ble_eq_true rfl) dX4_init_24 dX4_init_27 (fun H locs hP hS => ?_)
  refine lv_aload_n hx hb dX4_init_30 rfl (lv_at hl 0 rfl) ?_
  refine lv_iload_n hx hb dX4_init_31 rfl (lv_at hl 1 rfl) ?_
  refine z_put F hname hK hP hS inA4 tyX4 tyX4_ok nmX4 (k := oS z) (by omega) bld_k rfl 2 (by decide) wd_146 rfl rfl (ty := tyX4 2) (by decide +kernel) rfl rfl (Nat.le_of_ble_eq_true rfl) dX4_init_32 (fun H locs hP hS => ?_)
  rw [bld_put] at hP
  refine lv_aload_n hx hb dX4_init_35 rfl (lv_at hl 0 rfl) ?_
  refine z_newd (ci := 5) F hK hP hS (by omega) (by omega) inA5 tyX5 tyX5_ok wd_85 wd_86 wd_6 rfl dfX5 (Nat.le_of_ble_eq_true rfl) (Nat.le_of_ble_eq_true rfl) dX4_init_36 dX4_init_39 (fun H hP hS => ?_)
  refine lv_aload_n hx hb dX4_init_40 rfl (lv_at hl 2 rfl) ?_
  refine z_part (n := oT z) (n2 := oS z + 18) (g := gC cI cO b) F hname (by omega) (by omega) hK hP hS (by omega) hl inA4 tyX4 tyX4_ok nmX4 rfl 0 (by decide) wd_142 rfl rfl (o := RX5) (by decide +kernel) (Nat.le_of_ble_eq_true rfl) [.ref (b + 1)] (c_X5_init l D cI cO b z hz (fu _ _ _) fu_eq) wd_87 wd_88 wd_6 wd_89 hd_X5_init rfl rfl ⟨Nat.le_of_ble_eq_true rfl, Nat.le_of_ble_eq_true rfl⟩ rfl ⟨Nat.le_of_ble_eq_true rfl, Nat.le_of_ble_eq_true rfl⟩ (rest := []) (Nat.le_of_ble_eq_true rfl) rfl dX4_init_41 dX4_init_44 (fun H locs hP hS => ?_)
  refine lv_aload_n hx hb dX4_init_47 rfl (lv_at hl 0 rfl) ?_
  refine z_newd (ci := 0) F hK hP hS (by omega) (by omega) inA0 tyX0 tyX0_ok wd_115 wd_116 wd_7 rfl dfX0 (Nat.le_of_ble_eq_true rfl) (Nat.le_of_ble_eq_true rfl) dX4_init_48 dX4_init_51 (fun H hP hS => ?_)
  refine lv_aload_n hx hb dX4_init_52 rfl (lv_at hl 2 rfl) ?_
  refine lv_aload_n hx hb dX4_init_53 rfl (lv_at hl 0 rfl) ?_
  refine g_get F hK hP inA4 (oS z) (pW_at (by omega) |>.trans (by rw [fu_ne (by omega), bld_k])) rfl 0 (by decide) wd_142 (v := .ref (b + (oT z))) rfl dX4_init_54 ?_
  refine z_part (n := oL z) (n2 := oS z + 27) (g := gC cI cO b) F hname (by omega) (by omega) hK hP hS (by omega) hl inA4 tyX4 tyX4_ok nmX4 rfl 1 (by decide) wd_144 rfl rfl (o := RX0) (by decide +kernel) (Nat.le_of_ble_eq_true rfl) [.ref (b + 1), .ref (b + (oT z))] (c_X0_init l D cI cO b z hz (fu _ _ _) fu_eq) wd_117 wd_118 wd_7 wd_119 hd_X0_init rfl rfl ⟨Nat.le_of_ble_eq_true rfl, Nat.le_of_ble_eq_true rfl⟩ rfl ⟨Nat.le_of_ble_eq_true rfl, Nat.le_of_ble_eq_true rfl⟩ (rest := []) (Nat.le_of_ble_eq_true rfl) rfl dX4_init_57 dX4_init_60 (fun H locs hP hS => ?_)
  have hfin : bld f (oS z) 4 [.ref (b + (oT z)), .ref (b + (oL z)), .int (nI z), .ref (b + (oS z + 1)), .ref (b + (oS z + 3)), .int 0] (gC cI cO b) = mix f (oS z) (gC cI cO b) := bld_end (gC_of (by omega) (wC_S hz))
  have hP : va_P D vwCl (pW b (bld f (oS z) 4 [.ref (b + (oT z)), .ref (b + (oL z)), .int (nI z), .ref (b + (oS z + 1)), .ref (b + (oS z + 3)), .int 0] (gC cI cO b)) (oS z + 27)) H := hP
  rw [hfin] at hP
  exact z_vret F hr hlocks hQ rfl rfl hK hP hS dX4_init_63
abbrev rm_X3_init : Room := { frames := 2, cells := 6, slots := 1176, locals := 43 }
theorem hd_X3_init : yX3_init.name = "<init>" ∧ yX3_init.cls ≠ "java/lang/invoke/MethodHandle" ∧ yX3_init.cls ≠ "java/lang/invoke/VarHandle" ∧ (parseMethodDescriptor yX3_init.desc).map (fun d => d.parameters.length) = some 1 := by decide +kernel
set_option maxRecDepth 100000 in
set_option maxHeartbeats 4000000 in
theorem c_X3_init (l : Launch) (D : va_G) (cI cO : ClassId) (b : Nat) (f : Nat → va_E) (hf : f 129 = .inr (3, [.null, .null, .null, .null])) : Met l yX3_init (Cond.code yX3_init cX3_init 2 none :: wsAll) rm_X3_init (PZ D (tyC cI cO) b f (130) [.ref (b + 129), .ref (b + (oL 0))]) (QZ D (tyC cI cO) b (mix f 129 (gC cI cO b)) (136)) 6 1176 (AP b) := by
  refine z_met RX3 (by decide +kernel) rfl (Nat.le_of_ble_eq_true rfl) rfl ?_
  intro p e s m args below meth c ls Q F hname hr hlocks hsz hK hP hl hQ
  have hx := F.1
  have hb := F.2.1
  have hS : va_S (AP b) s.heap s.heap [] := va_S.rf
  have hl : lv_has ls 2 [(0, .ref (b + 129)), (1, .ref (b + (oL 0)))] := hl
  rw [bld_start2 (g := gC cI cO b) hf] at hP
  refine lv_aload_n hx hb dX3_init_0 rfl (lv_at hl 0 rfl) ?_
  refine z_obj F wd_168 hl dX3_init_1 (Nat.le_of_ble_eq_true rfl) (Nat.le_of_ble_eq_true rfl) ?_
  refine lv_aload_n hx hb dX3_init_4 rfl (lv_at hl 0 rfl) ?_
  refine z_newd (ci := 2) F hK hP hS (by omega) (by omega) inA2 tyX2 tyX2_ok wd_169 wd_32 wd_3 rfl dfX2 (Nat.le_of_ble_eq_true rfl) (Nat.le_of_ble_eq_true rfl) dX3_init_5 dX3_init_8 (fun H hP hS => ?_)
  refine lv_bipush (v := nI 90) hx hb dX3_init_9 (by decide) ?_
  refine z_numB (n := 130) (g := gC cI cO b) (N := 90) F hname rfl (by omega) (by decide) (gC_N nK_130) (gC_A nK_130 (ln_90 (by decide))) hK hP hS (by omega) hl inA3 tyX3 tyX3_ok nmX3 rfl 1 (by decide) wd_172 rfl rfl (by decide +kernel) (Nat.le_of_ble_eq_true rfl) wd_170 ⟨Nat.le_of_ble_eq_true rfl, Nat.le_of_ble_eq_true rfl⟩ ⟨Nat.le_of_ble_eq_true rfl, Nat.le_of_ble_eq_true rfl⟩ (Nat.le_of_ble_eq_true rfl) dX3_init_11 dX3_init_14 (fun H locs hP hS => ?_)
  refine lv_aload_n hx hb dX3_init_17 rfl (lv_at hl 0 rfl) ?_
  refine z_newd (ci := 2) F hK hP hS (by omega) (by omega) inA2 tyX2 tyX2_ok wd_169 wd_32 wd_3 rfl dfX2 (Nat.le_of_ble_eq_true rfl) (Nat.le_of_ble_eq_true rfl) dX3_init_18 dX3_init_21 (fun H hP hS => ?_)
  refine lv_sipush (v := nI 540) hx hb dX3_init_22 (by decide) ?_
  refine z_numB (n := 132) (g := gC cI cO b) (N := 540) F hname rfl (by omega) (by decide) (gC_N nK_132) (gC_A5 nK_132 rfl) hK hP hS (by omega) hl inA3 tyX3 tyX3_ok nmX3 rfl 2 (by decide) wd_173 rfl rfl (by decide +kernel) (Nat.le_of_ble_eq_true rfl) wd_170 ⟨Nat.le_of_ble_eq_true rfl, Nat.le_of_ble_eq_true rfl⟩ ⟨Nat.le_of_ble_eq_true rfl, Nat.le_of_ble_eq_true rfl⟩ (Nat.le_of_ble_eq_true rfl) dX3_init_25 dX3_init_28 (fun H locs hP hS => ?_)
  refine lv_aload_n hx hb dX3_init_31 rfl (lv_at hl 0 rfl) ?_
  refine z_newd (ci := 2) F hK hP hS (by omega) (by omega) inA2 tyX2 tyX2_ok wd_169 wd_32 wd_3 rfl dfX2 (Nat.le_of_ble_eq_true rfl) (Nat.le_of_ble_eq_true rfl) dX3_init_32 dX3_init_35 (fun H hP hS => ?_)
  refine lv_sipush (v := nI 540) hx hb dX3_init_36 (by decide) ?_
  refine z_numB (n := 134) (g := gC cI cO b) (N := 540) F hname rfl (by omega) (by decide) (gC_N nK_134) (gC_A5 nK_134 rfl) hK hP hS (by omega) hl inA3 tyX3 tyX3_ok nmX3 rfl 3 (by decide) wd_174 rfl rfl (by decide +kernel) (Nat.le_of_ble_eq_true rfl) wd_170 ⟨Nat.le_of_ble_eq_true rfl, Nat.le_of_ble_eq_true rfl⟩ ⟨Nat.le_of_ble_eq_true rfl, Nat.le_of_ble_eq_true rfl⟩ (Nat.le_of_ble_eq_true rfl) dX3_init_39 dX3_init_42 (fun H locs hP hS => ?_)
  refine lv_aload_n hx hb dX3_init_45 rfl (lv_at hl 0 rfl) ?_
  refine lv_aload_n hx hb dX3_init_46 rfl (lv_at hl 1 rfl) ?_
  refine z_put F hname hK hP hS inA3 tyX3 tyX3_ok nmX3 (k := 129) (by omega) bld_k rfl 0 (by decide) wd_171 rfl rfl (ty := tyX3 0) (by decide +kernel) rfl rfl (Nat.le_of_ble_eq_true rfl) dX3_init_47 (fun H locs hP hS => ?_)
  rw [bld_put] at hP
  have hfin : bld f 129 3 [.ref (b + (oL 0)), .ref (b + 130), .ref (b + 132), .ref (b + 134)] (gC cI cO b) = mix f 129 (gC cI cO b) := bld_end (gC_of (by decide) (wC_P))
  have hP : va_P D vwCl (pW b (bld f 129 3 [.ref (b + (oL 0)), .ref (b + 130), .ref (b + 132), .ref (b + 134)] (gC cI cO b)) (136)) H := hP
  rw [hfin] at hP
  exact z_vret F hr hlocks hQ rfl rfl hK hP hS dX3_init_50
