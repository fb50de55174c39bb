/-! THE LAW'S METHODS: printed by wip/gen/lawgen.py -/
abbrev rm_L_insert : Room := { frames := 8, cells := 4, slots := 24, locals := 159 }
theorem hd_L_insert : yL_insert.cls ≠ "java/lang/invoke/MethodHandle" ∧ yL_insert.cls ≠ "java/lang/invoke/VarHandle" ∧ (parseMethodDescriptor yL_insert.desc).map (fun d => d.parameters.length) = some 6 := by decide +kernel
def hh_L_insert : List (Nat × Nat × Nat × Nat) := [(0, 14, 17, 13), (0, 14, 21, 15), (0, 14, 25, 17)]
set_option maxRecDepth 100000 in
set_option maxHeartbeats 4000000 in
theorem c_L_insert (l : Launch) (hfl : l.stackTraces = false) (D : va_G) (cI cO cJ : ClassId) (b o : Nat) (ho : ¬ AC b o) (S : St) (fl : Nat → Int64) (x1 : Int32) (x2 : Int32) (x3 : Int32) (x4 : Int32) (r : Nat ⊕ Int32) (S1 : St) (hf : f_X6_insert S x1 x2 x3 x4 = some (r, S1)) (he : ∀ e9, r = .inl e9 → e9 = 1 ∨ e9 = 2 ∨ e9 = 3) : vx_Met l yL_insert (Cond.codeWith yL_insert cL_insert 7 (some .int) hh_L_insert :: wsAll) rm_L_insert (PLw D cI cO cJ b o (S, fl) [.ref (b + 0), .int x1, .int x2, .int x3, .int x4, .ref o]) (QLw D cI cO cJ b o (kc mcI r) (S1, ou r fl)) (XLw b o) 4 24 (AL b o) := by
  refine l_met RL (by decide +kernel) (Nat.le_of_ble_eq_true rfl) rfl ?_
  intro p e s m args below meth c ls Q F hr hlocks htab hB hX hN hl hQ
  obtain ⟨⟨hP, hO⟩, hK, hKJ⟩ := hB
  have hx := F.1
  have hb := F.2.1
  have hl : lv_has ls 7 [(0, .ref (b + 0)), (1, .int x1), (2, .int x2), (3, .int x3), (4, .int x4), (5, .ref o)] := hl
  refine lv_aload hx hb dL_insert_0 (lv_at hl 5 rfl) ?_
  refine lv_iconst (v := 0) hx hb dL_insert_2 (by decide) ?_
  refine lv_aload_n hx hb dL_insert_3 rfl (lv_at hl 0 rfl) ?_
  refine lv_iload_n hx hb dL_insert_4 rfl (lv_at hl 1 rfl) ?_
  refine lv_iload_n hx hb dL_insert_5 rfl (lv_at hl 2 rfl) ?_
  refine lv_iload_n hx hb dL_insert_6 rfl (lv_at hl 3 rfl) ?_
  refine lv_iload hx hb dL_insert_7 (lv_at hl 4 rfl) ?_
  refine l_calli F hX ho hK hP hO [.int x1, .int x2, .int x3, .int x4] (c_X6_insert l hfl D cI cO b S x1 x2 x3 x4 r S1 hf) wd_257 wd_258 wd_259 wd_1 wd_260 hd_X6_insert rfl rfl ⟨Nat.le_of_ble_eq_true rfl, Nat.le_of_ble_eq_true rfl⟩ rfl hl (rest := [.int 0, .ref o]) rfl (Nat.le_of_ble_eq_true rfl) dL_insert_9 ⟨Nat.le_of_ble_eq_true rfl, Nat.le_of_ble_eq_true rfl⟩ (fun e9 he9 H1 locs1 q9 ce hP hO hS hce hcv hcl => ?_) (fun v hq H1 locs1 hP hO hS => ?_)
  · subst he9
    rcases he _ rfl with rfl | rfl | rfl
    · refine vx_catch (own := RL) (name := "java/lang/IndexOutOfBoundsException") (E := "java/lang/IndexOutOfBoundsException") F.2.2.2.1 [] ⟨0, 14, 17, 13⟩ [⟨0, 14, 21, 15⟩, ⟨0, 14, 25, 17⟩] (htab.trans rfl) (fun z hz => nomatch hz) rfl (by decide) (F.2.2.2.2 _ (List.mem_cons_of_mem _ wd_254)) (va_Nw.use rfl (hX.1 ("java/lang/IndexOutOfBoundsException", "java/lang/IndexOutOfBoundsException") (by decide +kernel))) hce hcv hcl ?_
      refine lv_astore (lv' := [(6, .ref q9), (0, .ref (b + 0)), (1, .int x1), (2, .int x2), (3, .int x3), (4, .int x4), (5, .ref o)]) hx hb dL_insert_17 hl (by decide) rfl (fun ls hl => ?_)
      refine lv_iconst (v := nI 1) hx hb dL_insert_19 (by decide) ?_
      exact l_iret F hr hlocks hQ ⟨Nat.le_of_ble_eq_true rfl, Nat.le_of_ble_eq_true rfl⟩ hK hKJ hP hO hS rfl dL_insert_20
    · refine vx_catch (own := RL) (name := "java/lang/IllegalArgumentException") (E := "java/lang/IllegalArgumentException") F.2.2.2.1 [⟨0, 14, 17, 13⟩] ⟨0, 14, 21, 15⟩ [⟨0, 14, 25, 17⟩] (htab.trans rfl) (List.forall_mem_cons.mpr ⟨Or.inr ⟨by decide, "java/lang/IndexOutOfBoundsException", F.2.2.2.2 _ (List.mem_cons_of_mem _ wd_254), hN ("java/lang/IllegalArgumentException", "java/lang/IndexOutOfBoundsException") (by decide +kernel)⟩, fun z hz => nomatch hz⟩) rfl (by decide) (F.2.2.2.2 _ (List.mem_cons_of_mem _ wd_255)) (va_Nw.use rfl (hX.1 ("java/lang/IllegalArgumentException", "java/lang/IllegalArgumentException") (by decide +kernel))) hce hcv hcl ?_
      refine lv_astore (lv' := [(6, .ref q9), (0, .ref (b + 0)), (1, .int x1), (2, .int x2), (3, .int x3), (4, .int x4), (5, .ref o)]) hx hb dL_insert_21 hl (by decide) rfl (fun ls hl => ?_)
      refine lv_iconst (v := nI 2) hx hb dL_insert_23 (by decide) ?_
      exact l_iret F hr hlocks hQ ⟨Nat.le_of_ble_eq_true rfl, Nat.le_of_ble_eq_true rfl⟩ hK hKJ hP hO hS rfl dL_insert_24
    · refine vx_catch (own := RL) (name := "java/lang/IllegalStateException") (E := "java/lang/IllegalStateException") F.2.2.2.1 [⟨0, 14, 17, 13⟩, ⟨0, 14, 21, 15⟩] ⟨0, 14, 25, 17⟩ [] (htab.trans rfl) (List.forall_mem_cons.mpr ⟨Or.inr ⟨by decide, "java/lang/IndexOutOfBoundsException", F.2.2.2.2 _ (List.mem_cons_of_mem _ wd_254), hN ("java/lang/IllegalStateException", "java/lang/IndexOutOfBoundsException") (by decide +kernel)⟩, List.forall_mem_cons.mpr ⟨Or.inr ⟨by decide, "java/lang/IllegalArgumentException", F.2.2.2.2 _ (List.mem_cons_of_mem _ wd_255), hN ("java/lang/IllegalStateException", "java/lang/IllegalArgumentException") (by decide +kernel)⟩, fun z hz => nomatch hz⟩⟩) rfl (by decide) (F.2.2.2.2 _ (List.mem_cons_of_mem _ wd_256)) (va_Nw.use rfl (hX.1 ("java/lang/IllegalStateException", "java/lang/IllegalStateException") (by decide +kernel))) hce hcv hcl ?_
      refine lv_astore (lv' := [(6, .ref q9), (0, .ref (b + 0)), (1, .int x1), (2, .int x2), (3, .int x3), (4, .int x4), (5, .ref o)]) hx hb dL_insert_25 hl (by decide) rfl (fun ls hl => ?_)
      refine lv_iconst (v := nI 3) hx hb dL_insert_27 (by decide) ?_
      exact l_iret F hr hlocks hQ ⟨Nat.le_of_ble_eq_true rfl, Nat.le_of_ble_eq_true rfl⟩ hK hKJ hP hO hS rfl dL_insert_28
  · subst hq
    refine lv_i2l (v := v.toInt64) hx hb dL_insert_12 rfl ?_
    refine l_last hx hb ho hKJ hP hO hS dL_insert_13 (fun H1 locs1 hP hO hS => ?_)
    refine lv_goto (tgt := 29) hx hb dL_insert_14 (by decide) ?_
    refine lv_iconst (v := 0) hx hb dL_insert_29 (by decide) ?_
    exact l_iret F hr hlocks hQ ⟨Nat.le_of_ble_eq_true rfl, Nat.le_of_ble_eq_true rfl⟩ hK hKJ hP hO hS rfl dL_insert_30
abbrev rm_L_remove : Room := { frames := 8, cells := 4, slots := 24, locals := 155 }
theorem hd_L_remove : yL_remove.cls ≠ "java/lang/invoke/MethodHandle" ∧ yL_remove.cls ≠ "java/lang/invoke/VarHandle" ∧ (parseMethodDescriptor yL_remove.desc).map (fun d => d.parameters.length) = some 4 := by decide +kernel
def hh_L_remove : List (Nat × Nat × Nat × Nat) := [(0, 10, 13, 13), (0, 10, 17, 23), (0, 10, 21, 17)]
set_option maxRecDepth 100000 in
set_option maxHeartbeats 4000000 in
theorem c_L_remove (l : Launch) (hfl : l.stackTraces = false) (D : va_G) (cI cO cJ : ClassId) (b o : Nat) (ho : ¬ AC b o) (S : St) (fl : Nat → Int64) (x1 : Int32) (x2 : Int32) (r : Nat ⊕ Int32) (S1 : St) (hf : f_X6_remove S x1 x2 = some (r, S1)) (he : ∀ e9, r = .inl e9 → e9 = 1 ∨ e9 = 4 ∨ e9 = 3) : vx_Met l yL_remove (Cond.codeWith yL_remove cL_remove 5 (some .int) hh_L_remove :: wsAll) rm_L_remove (PLw D cI cO cJ b o (S, fl) [.ref (b + 0), .int x1, .int x2, .ref o]) (QLw D cI cO cJ b o (kc mcR r) (S1, ou r fl)) (XLw b o) 4 24 (AL b o) := by
  refine l_met RL (by decide +kernel) (Nat.le_of_ble_eq_true rfl) rfl ?_
  intro p e s m args below meth c ls Q F hr hlocks htab hB hX hN hl hQ
  obtain ⟨⟨hP, hO⟩, hK, hKJ⟩ := hB
  have hx := F.1
  have hb := F.2.1
  have hl : lv_has ls 5 [(0, .ref (b + 0)), (1, .int x1), (2, .int x2), (3, .ref o)] := hl
  refine lv_aload_n hx hb dL_remove_0 rfl (lv_at hl 3 rfl) ?_
  refine lv_iconst (v := 0) hx hb dL_remove_1 (by decide) ?_
  refine lv_aload_n hx hb dL_remove_2 rfl (lv_at hl 0 rfl) ?_
  refine lv_iload_n hx hb dL_remove_3 rfl (lv_at hl 1 rfl) ?_
  refine lv_iload_n hx hb dL_remove_4 rfl (lv_at hl 2 rfl) ?_
  refine l_calli F hX ho hK hP hO [.int x1, .int x2] (c_X6_remove l hfl D cI cO b S x1 x2 r S1 hf) wd_534 wd_535 wd_536 wd_1 wd_537 hd_X6_remove rfl rfl ⟨Nat.le_of_ble_eq_true rfl, Nat.le_of_ble_eq_true rfl⟩ rfl hl (rest := [.int 0, .ref o]) rfl (Nat.le_of_ble_eq_true rfl) dL_remove_5 ⟨Nat.le_of_ble_eq_true rfl, Nat.le_of_ble_eq_true rfl⟩ (fun e9 he9 H1 locs1 q9 ce hP hO hS hce hcv hcl => ?_) (fun v hq H1 locs1 hP hO hS => ?_)
  · subst he9
    rcases he _ rfl with rfl | rfl | rfl
    · refine vx_catch (own := RL) (name := "java/lang/IndexOutOfBoundsException") (E := "java/lang/IndexOutOfBoundsException") F.2.2.2.1 [] ⟨0, 10, 13, 13⟩ [⟨0, 10, 17, 23⟩, ⟨0, 10, 21, 17⟩] (htab.trans rfl) (fun z hz => nomatch hz) rfl (by decide) (F.2.2.2.2 _ (List.mem_cons_of_mem _ wd_254)) (va_Nw.use rfl (hX.1 ("java/lang/IndexOutOfBoundsException", "java/lang/IndexOutOfBoundsException") (by decide +kernel))) hce hcv hcl ?_
      refine lv_astore (lv' := [(4, .ref q9), (0, .ref (b + 0)), (1, .int x1), (2, .int x2), (3, .ref o)]) hx hb dL_remove_13 hl (by decide) rfl (fun ls hl => ?_)
      refine lv_iconst (v := nI 1) hx hb dL_remove_15 (by decide) ?_
      exact l_iret F hr hlocks hQ ⟨Nat.le_of_ble_eq_true rfl, Nat.le_of_ble_eq_true rfl⟩ hK hKJ hP hO hS rfl dL_remove_16
    · refine vx_catch (own := RL) (name := "java/util/NoSuchElementException") (E := "java/util/NoSuchElementException") F.2.2.2.1 [⟨0, 10, 13, 13⟩] ⟨0, 10, 17, 23⟩ [⟨0, 10, 21, 17⟩] (htab.trans rfl) (List.forall_mem_cons.mpr ⟨Or.inr ⟨by decide, "java/lang/IndexOutOfBoundsException", F.2.2.2.2 _ (List.mem_cons_of_mem _ wd_254), hN ("java/util/NoSuchElementException", "java/lang/IndexOutOfBoundsException") (by decide +kernel)⟩, fun z hz => nomatch hz⟩) rfl (by decide) (F.2.2.2.2 _ (List.mem_cons_of_mem _ wd_533)) (va_Nw.use rfl (hX.1 ("java/util/NoSuchElementException", "java/util/NoSuchElementException") (by decide +kernel))) hce hcv hcl ?_
      refine lv_astore (lv' := [(4, .ref q9), (0, .ref (b + 0)), (1, .int x1), (2, .int x2), (3, .ref o)]) hx hb dL_remove_17 hl (by decide) rfl (fun ls hl => ?_)
      refine lv_iconst (v := nI 2) hx hb dL_remove_19 (by decide) ?_
      exact l_iret F hr hlocks hQ ⟨Nat.le_of_ble_eq_true rfl, Nat.le_of_ble_eq_true rfl⟩ hK hKJ hP hO hS rfl dL_remove_20
    · refine vx_catch (own := RL) (name := "java/lang/IllegalStateException") (E := "java/lang/IllegalStateException") F.2.2.2.1 [⟨0, 10, 13, 13⟩, ⟨0, 10, 17, 23⟩] ⟨0, 10, 21, 17⟩ [] (htab.trans rfl) (List.forall_mem_cons.mpr ⟨Or.inr ⟨by decide, "java/lang/IndexOutOfBoundsException", F.2.2.2.2 _ (List.mem_cons_of_mem _ wd_254), hN ("java/lang/IllegalStateException", "java/lang/IndexOutOfBoundsException") (by decide +kernel)⟩, List.forall_mem_cons.mpr ⟨Or.inr ⟨by decide, "java/util/NoSuchElementException", F.2.2.2.2 _ (List.mem_cons_of_mem _ wd_533), hN ("java/lang/IllegalStateException", "java/util/NoSuchElementException") (by decide +kernel)⟩, fun z hz => nomatch hz⟩⟩) rfl (by decide) (F.2.2.2.2 _ (List.mem_cons_of_mem _ wd_256)) (va_Nw.use rfl (hX.1 ("java/lang/IllegalStateException", "java/lang/IllegalStateException") (by decide +kernel))) hce hcv hcl ?_
      refine lv_astore (lv' := [(4, .ref q9), (0, .ref (b + 0)), (1, .int x1), (2, .int x2), (3, .ref o)]) hx hb dL_remove_21 hl (by decide) rfl (fun ls hl => ?_)
      refine lv_iconst (v := nI 3) hx hb dL_remove_23 (by decide) ?_
      exact l_iret F hr hlocks hQ ⟨Nat.le_of_ble_eq_true rfl, Nat.le_of_ble_eq_true rfl⟩ hK hKJ hP hO hS rfl dL_remove_24
  · subst hq
    refine lv_i2l (v := v.toInt64) hx hb dL_remove_8 rfl ?_
    refine l_last hx hb ho hKJ hP hO hS dL_remove_9 (fun H1 locs1 hP hO hS => ?_)
    refine lv_goto (tgt := 25) hx hb dL_remove_10 (by decide) ?_
    refine lv_iconst (v := 0) hx hb dL_remove_25 (by decide) ?_
    exact l_iret F hr hlocks hQ ⟨Nat.le_of_ble_eq_true rfl, Nat.le_of_ble_eq_true rfl⟩ hK hKJ hP hO hS rfl dL_remove_26
abbrev rm_L_note : Room := { frames := 8, cells := 5, slots := 30, locals := 157 }
theorem hd_L_note : yL_note.cls ≠ "java/lang/invoke/MethodHandle" ∧ yL_note.cls ≠ "java/lang/invoke/VarHandle" ∧ (parseMethodDescriptor yL_note.desc).map (fun d => d.parameters.length) = some 5 := by decide +kernel
def hh_L_note : List (Nat × Nat × Nat × Nat) := [(0, 12, 15, 13), (0, 12, 19, 15), (0, 12, 23, 23), (0, 12, 27, 17)]
set_option maxRecDepth 100000 in
set_option maxHeartbeats 4000000 in
theorem c_L_note (l : Launch) (hfl : l.stackTraces = false) (D : va_G) (cI cO cJ : ClassId) (b o : Nat) (ho : ¬ AC b o) (S : St) (fl : Nat → Int64) (x1 : Int32) (x2 : Int32) (x3 : Int32) (r : Nat ⊕ Int32) (S1 : St) (hf : f_X6_note S x1 x2 x3 = some (r, S1)) (he : ∀ e9, r = .inl e9 → e9 = 1 ∨ e9 = 2 ∨ e9 = 4 ∨ e9 = 3) : vx_Met l yL_note (Cond.codeWith yL_note cL_note 6 (some .int) hh_L_note :: wsAll) rm_L_note (PLw D cI cO cJ b o (S, fl) [.ref (b + 0), .int x1, .int x2, .int x3, .ref o]) (QLw D cI cO cJ b o (kc mcN r) (S1, ou r fl)) (XLw b o) 5 30 (AL b o) := by
  refine l_met RL (by decide +kernel) (Nat.le_of_ble_eq_true rfl) rfl ?_
  intro p e s m args below meth c ls Q F hr hlocks htab hB hX hN hl hQ
  obtain ⟨⟨hP, hO⟩, hK, hKJ⟩ := hB
  have hx := F.1
  have hb := F.2.1
  have hl : lv_has ls 6 [(0, .ref (b + 0)), (1, .int x1), (2, .int x2), (3, .int x3), (4, .ref o)] := hl
  refine lv_aload hx hb dL_note_0 (lv_at hl 4 rfl) ?_
  refine lv_iconst (v := 0) hx hb dL_note_2 (by decide) ?_
  refine lv_aload_n hx hb dL_note_3 rfl (lv_at hl 0 rfl) ?_
  refine lv_iload_n hx hb dL_note_4 rfl (lv_at hl 1 rfl) ?_
  refine lv_iload_n hx hb dL_note_5 rfl (lv_at hl 2 rfl) ?_
  refine lv_iload_n hx hb dL_note_6 rfl (lv_at hl 3 rfl) ?_
  refine l_calli F hX ho hK hP hO [.int x1, .int x2, .int x3] (c_X6_note l hfl D cI cO b S x1 x2 x3 r S1 hf) wd_566 wd_567 wd_568 wd_1 wd_569 hd_X6_note rfl rfl ⟨Nat.le_of_ble_eq_true rfl, Nat.le_of_ble_eq_true rfl⟩ rfl hl (rest := [.int 0, .ref o]) rfl (Nat.le_of_ble_eq_true rfl) dL_note_7 ⟨Nat.le_of_ble_eq_true rfl, Nat.le_of_ble_eq_true rfl⟩ (fun e9 he9 H1 locs1 q9 ce hP hO hS hce hcv hcl => ?_) (fun v hq H1 locs1 hP hO hS => ?_)
  · subst he9
    rcases he _ rfl with rfl | rfl | rfl | rfl
    · refine vx_catch (own := RL) (name := "java/lang/IndexOutOfBoundsException") (E := "java/lang/IndexOutOfBoundsException") F.2.2.2.1 [] ⟨0, 12, 15, 13⟩ [⟨0, 12, 19, 15⟩, ⟨0, 12, 23, 23⟩, ⟨0, 12, 27, 17⟩] (htab.trans rfl) (fun z hz => nomatch hz) rfl (by decide) (F.2.2.2.2 _ (List.mem_cons_of_mem _ wd_254)) (va_Nw.use rfl (hX.1 ("java/lang/IndexOutOfBoundsException", "java/lang/IndexOutOfBoundsException") (by decide +kernel))) hce hcv hcl ?_
      refine lv_astore (lv' := [(5, .ref q9), (0, .ref (b + 0)), (1, .int x1), (2, .int x2), (3, .int x3), (4, .ref o)]) hx hb dL_note_15 hl (by decide) rfl (fun ls hl => ?_)
      refine lv_iconst (v := nI 1) hx hb dL_note_17 (by decide) ?_
      exact l_iret F hr hlocks hQ ⟨Nat.le_of_ble_eq_true rfl, Nat.le_of_ble_eq_true rfl⟩ hK hKJ hP hO hS rfl dL_note_18
    · refine vx_catch (own := RL) (name := "java/lang/IllegalArgumentException") (E := "java/lang/IllegalArgumentException") F.2.2.2.1 [⟨0, 12, 15, 13⟩] ⟨0, 12, 19, 15⟩ [⟨0, 12, 23, 23⟩, ⟨0, 12, 27, 17⟩] (htab.trans rfl) (List.forall_mem_cons.mpr ⟨Or.inr ⟨by decide, "java/lang/IndexOutOfBoundsException", F.2.2.2.2 _ (List.mem_cons_of_mem _ wd_254), hN ("java/lang/IllegalArgumentException", "java/lang/IndexOutOfBoundsException") (by decide +kernel)⟩, fun z hz => nomatch hz⟩) rfl (by decide) (F.2.2.2.2 _ (List.mem_cons_of_mem _ wd_255)) (va_Nw.use rfl (hX.1 ("java/lang/IllegalArgumentException", "java/lang/IllegalArgumentException") (by decide +kernel))) hce hcv hcl ?_
      refine lv_astore (lv' := [(5, .ref q9), (0, .ref (b + 0)), (1, .int x1), (2, .int x2), (3, .int x3), (4, .ref o)]) hx hb dL_note_19 hl (by decide) rfl (fun ls hl => ?_)
      refine lv_iconst (v := nI 2) hx hb dL_note_21 (by decide) ?_
      exact l_iret F hr hlocks hQ ⟨Nat.le_of_ble_eq_true rfl, Nat.le_of_ble_eq_true rfl⟩ hK hKJ hP hO hS rfl dL_note_22
    · refine vx_catch (own := RL) (name := "java/util/NoSuchElementException") (E := "java/util/NoSuchElementException") F.2.2.2.1 [⟨0, 12, 15, 13⟩, ⟨0, 12, 19, 15⟩] ⟨0, 12, 23, 23⟩ [⟨0, 12, 27, 17⟩] (htab.trans rfl) (List.forall_mem_cons.mpr ⟨Or.inr ⟨by decide, "java/lang/IndexOutOfBoundsException", F.2.2.2.2 _ (List.mem_cons_of_mem _ wd_254), hN ("java/util/NoSuchElementException", "java/lang/IndexOutOfBoundsException") (by decide +kernel)⟩, List.forall_mem_cons.mpr ⟨Or.inr ⟨by decide, "java/lang/IllegalArgumentException", F.2.2.2.2 _ (List.mem_cons_of_mem _ wd_255), hN ("java/util/NoSuchElementException", "java/lang/IllegalArgumentException") (by decide +kernel)⟩, fun z hz => nomatch hz⟩⟩) rfl (by decide) (F.2.2.2.2 _ (List.mem_cons_of_mem _ wd_533)) (va_Nw.use rfl (hX.1 ("java/util/NoSuchElementException", "java/util/NoSuchElementException") (by decide +kernel))) hce hcv hcl ?_
      refine lv_astore (lv' := [(5, .ref q9), (0, .ref (b + 0)), (1, .int x1), (2, .int x2), (3, .int x3), (4, .ref o)]) hx hb dL_note_23 hl (by decide) rfl (fun ls hl => ?_)
      refine lv_iconst (v := nI 3) hx hb dL_note_25 (by decide) ?_
      exact l_iret F hr hlocks hQ ⟨Nat.le_of_ble_eq_true rfl, Nat.le_of_ble_eq_true rfl⟩ hK hKJ hP hO hS rfl dL_note_26
    · refine vx_catch (own := RL) (name := "java/lang/IllegalStateException") (E := "java/lang/IllegalStateException") F.2.2.2.1 [⟨0, 12, 15, 13⟩, ⟨0, 12, 19, 15⟩, ⟨0, 12, 23, 23⟩] ⟨0, 12, 27, 17⟩ [] (htab.trans rfl) (List.forall_mem_cons.mpr ⟨Or.inr ⟨by decide, "java/lang/IndexOutOfBoundsException", F.2.2.2.2 _ (List.mem_cons_of_mem _ wd_254), hN ("java/lang/IllegalStateException", "java/lang/IndexOutOfBoundsException") (by decide +kernel)⟩, List.forall_mem_cons.mpr ⟨Or.inr ⟨by decide, "java/lang/IllegalArgumentException", F.2.2.2.2 _ (List.mem_cons_of_mem _ wd_255), hN ("java/lang/IllegalStateException", "java/lang/IllegalArgumentException") (by decide +kernel)⟩, List.forall_mem_cons.mpr ⟨Or.inr ⟨by decide, "java/util/NoSuchElementException", F.2.2.2.2 _ (List.mem_cons_of_mem _ wd_533), hN ("java/lang/IllegalStateException", "java/util/NoSuchElementException") (by decide +kernel)⟩, fun z hz => nomatch hz⟩⟩⟩) rfl (by decide) (F.2.2.2.2 _ (List.mem_cons_of_mem _ wd_256)) (va_Nw.use rfl (hX.1 ("java/lang/IllegalStateException", "java/lang/IllegalStateException") (by decide +kernel))) hce hcv hcl ?_
      refine lv_astore (lv' := [(5, .ref q9), (0, .ref (b + 0)), (1, .int x1), (2, .int x2), (3, .int x3), (4, .ref o)]) hx hb dL_note_27 hl (by decide) rfl (fun ls hl => ?_)
      refine lv_iconst (v := nI 4) hx hb dL_note_29 (by decide) ?_
      exact l_iret F hr hlocks hQ ⟨Nat.le_of_ble_eq_true rfl, Nat.le_of_ble_eq_true rfl⟩ hK hKJ hP hO hS rfl dL_note_30
  · subst hq
    refine lv_i2l (v := v.toInt64) hx hb dL_note_10 rfl ?_
    refine l_last hx hb ho hKJ hP hO hS dL_note_11 (fun H1 locs1 hP hO hS => ?_)
    refine lv_goto (tgt := 31) hx hb dL_note_12 (by decide) ?_
    refine lv_iconst (v := 0) hx hb dL_note_31 (by decide) ?_
    exact l_iret F hr hlocks hQ ⟨Nat.le_of_ble_eq_true rfl, Nat.le_of_ble_eq_true rfl⟩ hK hKJ hP hO hS rfl dL_note_32
abbrev rm_L_move : Room := { frames := 8, cells := 5, slots := 30, locals := 156 }
theorem hd_L_move : yL_move.cls ≠ "java/lang/invoke/MethodHandle" ∧ yL_move.cls ≠ "java/lang/invoke/VarHandle" ∧ (parseMethodDescriptor yL_move.desc).map (fun d => d.parameters.length) = some 4 := by decide +kernel
def hh_L_move : List (Nat × Nat × Nat × Nat) := [(0, 7, 10, 13), (0, 7, 14, 23), (0, 7, 18, 17)]
set_option maxRecDepth 100000 in
set_option maxHeartbeats 4000000 in
theorem c_L_move (l : Launch) (hfl : l.stackTraces = false) (D : va_G) (cI cO cJ : ClassId) (b o : Nat) (ho : ¬ AC b o) (S : St) (fl : Nat → Int64) (x1 : Int32) (x2 : Int32) (x3 : Int32) (r : Nat ⊕ Unit) (S1 : St) (hf : f_X6_move S x1 x2 x3 = some (r, S1)) (he : ∀ e9, r = .inl e9 → e9 = 1 ∨ e9 = 4 ∨ e9 = 3) : vx_Met l yL_move (Cond.codeWith yL_move cL_move 5 (some .int) hh_L_move :: wsAll) rm_L_move (PLw D cI cO cJ b o (S, fl) [.ref (b + 0), .int x1, .int x2, .int x3]) (QLw D cI cO cJ b o (kc mcR r) (S1, fl)) (XLw b o) 5 30 (AL b o) := by
  refine l_met RL (by decide +kernel) (Nat.le_of_ble_eq_true rfl) rfl ?_
  intro p e s m args below meth c ls Q F hr hlocks htab hB hX hN hl hQ
  obtain ⟨⟨hP, hO⟩, hK, hKJ⟩ := hB
  have hx := F.1
  have hb := F.2.1
  have hl : lv_has ls 5 [(0, .ref (b + 0)), (1, .int x1), (2, .int x2), (3, .int x3)] := hl
  refine lv_aload_n hx hb dL_move_0 rfl (lv_at hl 0 rfl) ?_
  refine lv_iload_n hx hb dL_move_1 rfl (lv_at hl 1 rfl) ?_
  refine lv_iload_n hx hb dL_move_2 rfl (lv_at hl 2 rfl) ?_
  refine lv_iload_n hx hb dL_move_3 rfl (lv_at hl 3 rfl) ?_
  refine l_callv F hX ho hK hP hO [.int x1, .int x2, .int x3] (c_X6_move l hfl D cI cO b S x1 x2 x3 r S1 hf) wd_578 wd_579 wd_580 wd_1 wd_581 hd_X6_move rfl rfl ⟨Nat.le_of_ble_eq_true rfl, Nat.le_of_ble_eq_true rfl⟩ rfl hl (rest := []) rfl (Nat.le_of_ble_eq_true rfl) dL_move_4 ⟨Nat.le_of_ble_eq_true rfl, Nat.le_of_ble_eq_true rfl⟩ (fun e9 he9 H1 locs1 q9 ce hP hO hS hce hcv hcl => ?_) (fun hq H1 locs1 hP hO hS => ?_)
  · subst he9
    rcases he _ rfl with rfl | rfl | rfl
    · refine vx_catch (own := RL) (name := "java/lang/IndexOutOfBoundsException") (E := "java/lang/IndexOutOfBoundsException") F.2.2.2.1 [] ⟨0, 7, 10, 13⟩ [⟨0, 7, 14, 23⟩, ⟨0, 7, 18, 17⟩] (htab.trans rfl) (fun z hz => nomatch hz) rfl (by decide) (F.2.2.2.2 _ (List.mem_cons_of_mem _ wd_254)) (va_Nw.use rfl (hX.1 ("java/lang/IndexOutOfBoundsException", "java/lang/IndexOutOfBoundsException") (by decide +kernel))) hce hcv hcl ?_
      refine lv_astore (lv' := [(4, .ref q9), (0, .ref (b + 0)), (1, .int x1), (2, .int x2), (3, .int x3)]) hx hb dL_move_10 hl (by decide) rfl (fun ls hl => ?_)
      refine lv_iconst (v := nI 1) hx hb dL_move_12 (by decide) ?_
      exact l_iret F hr hlocks hQ ⟨Nat.le_of_ble_eq_true rfl, Nat.le_of_ble_eq_true rfl⟩ hK hKJ hP hO hS rfl dL_move_13
    · refine vx_catch (own := RL) (name := "java/util/NoSuchElementException") (E := "java/util/NoSuchElementException") F.2.2.2.1 [⟨0, 7, 10, 13⟩] ⟨0, 7, 14, 23⟩ [⟨0, 7, 18, 17⟩] (htab.trans rfl) (List.forall_mem_cons.mpr ⟨Or.inr ⟨by decide, "java/lang/IndexOutOfBoundsException", F.2.2.2.2 _ (List.mem_cons_of_mem _ wd_254), hN ("java/util/NoSuchElementException", "java/lang/IndexOutOfBoundsException") (by decide +kernel)⟩, fun z hz => nomatch hz⟩) rfl (by decide) (F.2.2.2.2 _ (List.mem_cons_of_mem _ wd_533)) (va_Nw.use rfl (hX.1 ("java/util/NoSuchElementException", "java/util/NoSuchElementException") (by decide +kernel))) hce hcv hcl ?_
      refine lv_astore (lv' := [(4, .ref q9), (0, .ref (b + 0)), (1, .int x1), (2, .int x2), (3, .int x3)]) hx hb dL_move_14 hl (by decide) rfl (fun ls hl => ?_)
      refine lv_iconst (v := nI 2) hx hb dL_move_16 (by decide) ?_
      exact l_iret F hr hlocks hQ ⟨Nat.le_of_ble_eq_true rfl, Nat.le_of_ble_eq_true rfl⟩ hK hKJ hP hO hS rfl dL_move_17
    · refine vx_catch (own := RL) (name := "java/lang/IllegalStateException") (E := "java/lang/IllegalStateException") F.2.2.2.1 [⟨0, 7, 10, 13⟩, ⟨0, 7, 14, 23⟩] ⟨0, 7, 18, 17⟩ [] (htab.trans rfl) (List.forall_mem_cons.mpr ⟨Or.inr ⟨by decide, "java/lang/IndexOutOfBoundsException", F.2.2.2.2 _ (List.mem_cons_of_mem _ wd_254), hN ("java/lang/IllegalStateException", "java/lang/IndexOutOfBoundsException") (by decide +kernel)⟩, List.forall_mem_cons.mpr ⟨Or.inr ⟨by decide, "java/util/NoSuchElementException", F.2.2.2.2 _ (List.mem_cons_of_mem _ wd_533), hN ("java/lang/IllegalStateException", "java/util/NoSuchElementException") (by decide +kernel)⟩, fun z hz => nomatch hz⟩⟩) rfl (by decide) (F.2.2.2.2 _ (List.mem_cons_of_mem _ wd_256)) (va_Nw.use rfl (hX.1 ("java/lang/IllegalStateException", "java/lang/IllegalStateException") (by decide +kernel))) hce hcv hcl ?_
      refine lv_astore (lv' := [(4, .ref q9), (0, .ref (b + 0)), (1, .int x1), (2, .int x2), (3, .int x3)]) hx hb dL_move_18 hl (by decide) rfl (fun ls hl => ?_)
      refine lv_iconst (v := nI 3) hx hb dL_move_20 (by decide) ?_
      exact l_iret F hr hlocks hQ ⟨Nat.le_of_ble_eq_true rfl, Nat.le_of_ble_eq_true rfl⟩ hK hKJ hP hO hS rfl dL_move_21
  · subst hq
    refine lv_goto (tgt := 22) hx hb dL_move_7 (by decide) ?_
    refine lv_iconst (v := 0) hx hb dL_move_22 (by decide) ?_
    exact l_iret F hr hlocks hQ ⟨Nat.le_of_ble_eq_true rfl, Nat.le_of_ble_eq_true rfl⟩ hK hKJ hP hO hS rfl dL_move_23
abbrev rm_L_sync : Room := { frames := 8, cells := 2, slots := 12, locals := 159 }
theorem hd_L_sync : yL_sync.cls ≠ "java/lang/invoke/MethodHandle" ∧ yL_sync.cls ≠ "java/lang/invoke/VarHandle" ∧ (parseMethodDescriptor yL_sync.desc).map (fun d => d.parameters.length) = some 4 := by decide +kernel
def hh_L_sync : List (Nat × Nat × Nat × Nat) := [(0, 10, 13, 13)]
set_option maxRecDepth 100000 in
set_option maxHeartbeats 4000000 in
theorem c_L_sync (l : Launch) (hfl : l.stackTraces = false) (D : va_G) (cI cO cJ : ClassId) (b o : Nat) (ho : ¬ AC b o) (S : St) (fl : Nat → Int64) (x1 : Int32) (x2 : Int32) (r : Nat ⊕ Int32) (S1 : St) (hf : f_X6_sync S x1 x2 = some (r, S1)) (he : ∀ e9, r = .inl e9 → e9 = 1) : vx_Met l yL_sync (Cond.codeWith yL_sync cL_sync 5 (some .int) hh_L_sync :: wsAll) rm_L_sync (PLw D cI cO cJ b o (S, fl) [.ref (b + 0), .int x1, .int x2, .ref o]) (QLw D cI cO cJ b o (kc mcI r) (S1, ou r fl)) (XLw b o) 2 12 (AL b o) := by
  refine l_met RL (by decide +kernel) (Nat.le_of_ble_eq_true rfl) rfl ?_
  intro p e s m args below meth c ls Q F hr hlocks htab hB hX hN hl hQ
  obtain ⟨⟨hP, hO⟩, hK, hKJ⟩ := hB
  have hx := F.1
  have hb := F.2.1
  have hl : lv_has ls 5 [(0, .ref (b + 0)), (1, .int x1), (2, .int x2), (3, .ref o)] := hl
  refine lv_aload_n hx hb dL_sync_0 rfl (lv_at hl 3 rfl) ?_
  refine lv_iconst (v := 0) hx hb dL_sync_1 (by decide) ?_
  refine lv_aload_n hx hb dL_sync_2 rfl (lv_at hl 0 rfl) ?_
  refine lv_iload_n hx hb dL_sync_3 rfl (lv_at hl 1 rfl) ?_
  refine lv_iload_n hx hb dL_sync_4 rfl (lv_at hl 2 rfl) ?_
  refine l_calli F hX ho hK hP hO [.int x1, .int x2] (c_X6_sync l hfl D cI cO b S x1 x2 r S1 hf) wd_591 wd_592 wd_593 wd_1 wd_594 hd_X6_sync rfl rfl ⟨Nat.le_of_ble_eq_true rfl, Nat.le_of_ble_eq_true rfl⟩ rfl hl (rest := [.int 0, .ref o]) rfl (Nat.le_of_ble_eq_true rfl) dL_sync_5 ⟨Nat.le_of_ble_eq_true rfl, Nat.le_of_ble_eq_true rfl⟩ (fun e9 he9 H1 locs1 q9 ce hP hO hS hce hcv hcl => ?_) (fun v hq H1 locs1 hP hO hS => ?_)
  · subst he9
    rcases he _ rfl with rfl
    · refine vx_catch (own := RL) (name := "java/lang/IndexOutOfBoundsException") (E := "java/lang/IndexOutOfBoundsException") F.2.2.2.1 [] ⟨0, 10, 13, 13⟩ [] (htab.trans rfl) (fun z hz => nomatch hz) rfl (by decide) (F.2.2.2.2 _ (List.mem_cons_of_mem _ wd_254)) (va_Nw.use rfl (hX.1 ("java/lang/IndexOutOfBoundsException", "java/lang/IndexOutOfBoundsException") (by decide +kernel))) hce hcv hcl ?_
      refine lv_astore (lv' := [(4, .ref q9), (0, .ref (b + 0)), (1, .int x1), (2, .int x2), (3, .ref o)]) hx hb dL_sync_13 hl (by decide) rfl (fun ls hl => ?_)
      refine lv_iconst (v := nI 1) hx hb dL_sync_15 (by decide) ?_
      exact l_iret F hr hlocks hQ ⟨Nat.le_of_ble_eq_true rfl, Nat.le_of_ble_eq_true rfl⟩ hK hKJ hP hO hS rfl dL_sync_16
  · subst hq
    refine lv_i2l (v := v.toInt64) hx hb dL_sync_8 rfl ?_
    refine l_last hx hb ho hKJ hP hO hS dL_sync_9 (fun H1 locs1 hP hO hS => ?_)
    refine lv_goto (tgt := 17) hx hb dL_sync_10 (by decide) ?_
    refine lv_iconst (v := 0) hx hb dL_sync_17 (by decide) ?_
    exact l_iret F hr hlocks hQ ⟨Nat.le_of_ble_eq_true rfl, Nat.le_of_ble_eq_true rfl⟩ hK hKJ hP hO hS rfl dL_sync_18
abbrev rm_L_print : Room := { frames := 7, cells := 1, slots := 6, locals := 132 }
theorem hd_L_print : yL_print.cls ≠ "java/lang/invoke/MethodHandle" ∧ yL_print.cls ≠ "java/lang/invoke/VarHandle" ∧ (parseMethodDescriptor yL_print.desc).map (fun d => d.parameters.length) = some 2 := by decide +kernel
def hh_L_print : List (Nat × Nat × Nat × Nat) := [(0, 8, 11, 17)]
set_option maxRecDepth 100000 in
set_option maxHeartbeats 4000000 in
theorem c_L_print (l : Launch) (hfl : l.stackTraces = false) (D : va_G) (cI cO cJ : ClassId) (b o : Nat) (ho : ¬ AC b o) (S : St) (fl : Nat → Int64) (r : Nat ⊕ Int32) (S1 : St) (hf : f_X6_print S = some (r, S1)) (he : ∀ e9, r = .inl e9 → e9 = 3) : vx_Met l yL_print (Cond.codeWith yL_print cL_print 3 (some .int) hh_L_print :: wsAll) rm_L_print (PLw D cI cO cJ b o (S, fl) [.ref (b + 0), .ref o]) (QLw D cI cO cJ b o (kc mcP r) (S1, ou r fl)) (XLw b o) 1 6 (AL b o) := by
  refine l_met RL (by decide +kernel) (Nat.le_of_ble_eq_true rfl) rfl ?_
  intro p e s m args below meth c ls Q F hr hlocks htab hB hX hN hl hQ
  obtain ⟨⟨hP, hO⟩, hK, hKJ⟩ := hB
  have hx := F.1
  have hb := F.2.1
  have hl : lv_has ls 3 [(0, .ref (b + 0)), (1, .ref o)] := hl
  refine lv_aload_n hx hb dL_print_0 rfl (lv_at hl 1 rfl) ?_
  refine lv_iconst (v := 0) hx hb dL_print_1 (by decide) ?_
  refine lv_aload_n hx hb dL_print_2 rfl (lv_at hl 0 rfl) ?_
  refine l_calli F hX ho hK hP hO [] (c_X6_print l hfl D cI cO b S r S1 hf) wd_604 wd_605 wd_606 wd_1 wd_607 hd_X6_print rfl rfl ⟨Nat.le_of_ble_eq_true rfl, Nat.le_of_ble_eq_true rfl⟩ rfl hl (rest := [.int 0, .ref o]) rfl (Nat.le_of_ble_eq_true rfl) dL_print_3 ⟨Nat.le_of_ble_eq_true rfl, Nat.le_of_ble_eq_true rfl⟩ (fun e9 he9 H1 locs1 q9 ce hP hO hS hce hcv hcl => ?_) (fun v hq H1 locs1 hP hO hS => ?_)
  · subst he9
    rcases he _ rfl with rfl
    · refine vx_catch (own := RL) (name := "java/lang/IllegalStateException") (E := "java/lang/IllegalStateException") F.2.2.2.1 [] ⟨0, 8, 11, 17⟩ [] (htab.trans rfl) (fun z hz => nomatch hz) rfl (by decide) (F.2.2.2.2 _ (List.mem_cons_of_mem _ wd_256)) (va_Nw.use rfl (hX.1 ("java/lang/IllegalStateException", "java/lang/IllegalStateException") (by decide +kernel))) hce hcv hcl ?_
      refine lv_astore_n (lv' := [(2, .ref q9), (0, .ref (b + 0)), (1, .ref o)]) hx hb dL_print_11 rfl hl (by decide) rfl (fun ls hl => ?_)
      refine lv_iconst (v := nI 1) hx hb dL_print_12 (by decide) ?_
      exact l_iret F hr hlocks hQ ⟨Nat.le_of_ble_eq_true rfl, Nat.le_of_ble_eq_true rfl⟩ hK hKJ hP hO hS rfl dL_print_13
  · subst hq
    refine lv_i2l (v := v.toInt64) hx hb dL_print_6 rfl ?_
    refine l_last hx hb ho hKJ hP hO hS dL_print_7 (fun H1 locs1 hP hO hS => ?_)
    refine lv_goto (tgt := 14) hx hb dL_print_8 (by decide) ?_
    refine lv_iconst (v := 0) hx hb dL_print_14 (by decide) ?_
    exact l_iret F hr hlocks hQ ⟨Nat.le_of_ble_eq_true rfl, Nat.le_of_ble_eq_true rfl⟩ hK hKJ hP hO hS rfl dL_print_15
abbrev rm_L_differs : Room := { frames := 7, cells := 1, slots := 6, locals := 107 }
theorem hd_L_differs : yL_differs.cls ≠ "java/lang/invoke/MethodHandle" ∧ yL_differs.cls ≠ "java/lang/invoke/VarHandle" ∧ (parseMethodDescriptor yL_differs.desc).map (fun d => d.parameters.length) = some 3 := by decide +kernel
def hh_L_differs : List (Nat × Nat × Nat × Nat) := [(0, 9, 12, 13)]
set_option maxRecDepth 100000 in
set_option maxHeartbeats 4000000 in
theorem c_L_differs (l : Launch) (hfl : l.stackTraces = false) (D : va_G) (cI cO cJ : ClassId) (b o : Nat) (ho : ¬ AC b o) (S : St) (fl : Nat → Int64) (x1 : Int32) (r : Nat ⊕ Int32) (hf : f_X6_differs S x1 = some r) (he : ∀ e9, r = .inl e9 → e9 = 1) : vx_Met l yL_differs (Cond.codeWith yL_differs cL_differs 4 (some .int) hh_L_differs :: wsAll) rm_L_differs (PLw D cI cO cJ b o (S, fl) [.ref (b + 0), .int x1, .ref o]) (QLw D cI cO cJ b o (kc mcI r) (S, ou r fl)) (XLw b o) 1 6 (AL b o) := by
  refine l_met RL (by decide +kernel) (Nat.le_of_ble_eq_true rfl) rfl ?_
  intro p e s m args below meth c ls Q F hr hlocks htab hB hX hN hl hQ
  obtain ⟨⟨hP, hO⟩, hK, hKJ⟩ := hB
  have hx := F.1
  have hb := F.2.1
  have hl : lv_has ls 4 [(0, .ref (b + 0)), (1, .int x1), (2, .ref o)] := hl
  refine lv_aload_n hx hb dL_differs_0 rfl (lv_at hl 2 rfl) ?_
  refine lv_iconst (v := 0) hx hb dL_differs_1 (by decide) ?_
  refine lv_aload_n hx hb dL_differs_2 rfl (lv_at hl 0 rfl) ?_
  refine lv_iload_n hx hb dL_differs_3 rfl (lv_at hl 1 rfl) ?_
  refine l_calli F hX ho hK hP hO [.int x1] (c_X6_differs l hfl D cI cO b S x1 r hf) wd_630 wd_631 wd_632 wd_1 wd_633 hd_X6_differs rfl rfl ⟨Nat.le_of_ble_eq_true rfl, Nat.le_of_ble_eq_true rfl⟩ rfl hl (rest := [.int 0, .ref o]) rfl (Nat.le_of_ble_eq_true rfl) dL_differs_4 ⟨Nat.le_of_ble_eq_true rfl, Nat.le_of_ble_eq_true rfl⟩ (fun e9 he9 H1 locs1 q9 ce hP hO hS hce hcv hcl => ?_) (fun v hq H1 locs1 hP hO hS => ?_)
  · subst he9
    rcases he _ rfl with rfl
    · refine vx_catch (own := RL) (name := "java/lang/IndexOutOfBoundsException") (E := "java/lang/IndexOutOfBoundsException") F.2.2.2.1 [] ⟨0, 9, 12, 13⟩ [] (htab.trans rfl) (fun z hz => nomatch hz) rfl (by decide) (F.2.2.2.2 _ (List.mem_cons_of_mem _ wd_254)) (va_Nw.use rfl (hX.1 ("java/lang/IndexOutOfBoundsException", "java/lang/IndexOutOfBoundsException") (by decide +kernel))) hce hcv hcl ?_
      refine lv_astore_n (lv' := [(3, .ref q9), (0, .ref (b + 0)), (1, .int x1), (2, .ref o)]) hx hb dL_differs_12 rfl hl (by decide) rfl (fun ls hl => ?_)
      refine lv_iconst (v := nI 1) hx hb dL_differs_13 (by decide) ?_
      exact l_iret F hr hlocks hQ ⟨Nat.le_of_ble_eq_true rfl, Nat.le_of_ble_eq_true rfl⟩ hK hKJ hP hO hS rfl dL_differs_14
  · subst hq
    refine lv_i2l (v := v.toInt64) hx hb dL_differs_7 rfl ?_
    refine l_last hx hb ho hKJ hP hO hS dL_differs_8 (fun H1 locs1 hP hO hS => ?_)
    refine lv_goto (tgt := 15) hx hb dL_differs_9 (by decide) ?_
    refine lv_iconst (v := 0) hx hb dL_differs_15 (by decide) ?_
    exact l_iret F hr hlocks hQ ⟨Nat.le_of_ble_eq_true rfl, Nat.le_of_ble_eq_true rfl⟩ hK hKJ hP hO hS rfl dL_differs_16
abbrev rm_L_lines : Room := { frames := 8, cells := 1, slots := 6, locals := 128 }
theorem hd_L_lines : yL_lines.cls ≠ "java/lang/invoke/MethodHandle" ∧ yL_lines.cls ≠ "java/lang/invoke/VarHandle" ∧ (parseMethodDescriptor yL_lines.desc).map (fun d => d.parameters.length) = some 3 := by decide +kernel
def hh_L_lines : List (Nat × Nat × Nat × Nat) := [(0, 9, 12, 13)]
set_option maxRecDepth 100000 in
set_option maxHeartbeats 4000000 in
theorem c_L_lines (l : Launch) (hfl : l.stackTraces = false) (D : va_G) (cI cO cJ : ClassId) (b o : Nat) (ho : ¬ AC b o) (S : St) (fl : Nat → Int64) (x1 : Int32) (r : Nat ⊕ Int32) (hf : f_X6_lines S x1 = some r) (he : ∀ e9, r = .inl e9 → e9 = 1) : vx_Met l yL_lines (Cond.codeWith yL_lines cL_lines 4 (some .int) hh_L_lines :: wsAll) rm_L_lines (PLw D cI cO cJ b o (S, fl) [.ref (b + 0), .int x1, .ref o]) (QLw D cI cO cJ b o (kc mcI r) (S, ou r fl)) (XLw b o) 1 6 (AL b o) := by
  refine l_met RL (by decide +kernel) (Nat.le_of_ble_eq_true rfl) rfl ?_
  intro p e s m args below meth c ls Q F hr hlocks htab hB hX hN hl hQ
  obtain ⟨⟨hP, hO⟩, hK, hKJ⟩ := hB
  have hx := F.1
  have hb := F.2.1
  have hl : lv_has ls 4 [(0, .ref (b + 0)), (1, .int x1), (2, .ref o)] := hl
  refine lv_aload_n hx hb dL_lines_0 rfl (lv_at hl 2 rfl) ?_
  refine lv_iconst (v := 0) hx hb dL_lines_1 (by decide) ?_
  refine lv_aload_n hx hb dL_lines_2 rfl (lv_at hl 0 rfl) ?_
  refine lv_iload_n hx hb dL_lines_3 rfl (lv_at hl 1 rfl) ?_
  refine l_calli F hX ho hK hP hO [.int x1] (c_X6_lines l hfl D cI cO b S x1 r hf) wd_640 wd_641 wd_642 wd_1 wd_643 hd_X6_lines rfl rfl ⟨Nat.le_of_ble_eq_true rfl, Nat.le_of_ble_eq_true rfl⟩ rfl hl (rest := [.int 0, .ref o]) rfl (Nat.le_of_ble_eq_true rfl) dL_lines_4 ⟨Nat.le_of_ble_eq_true rfl, Nat.le_of_ble_eq_true rfl⟩ (fun e9 he9 H1 locs1 q9 ce hP hO hS hce hcv hcl => ?_) (fun v hq H1 locs1 hP hO hS => ?_)
  · subst he9
    rcases he _ rfl with rfl
    · refine vx_catch (own := RL) (name := "java/lang/IndexOutOfBoundsException") (E := "java/lang/IndexOutOfBoundsException") F.2.2.2.1 [] ⟨0, 9, 12, 13⟩ [] (htab.trans rfl) (fun z hz => nomatch hz) rfl (by decide) (F.2.2.2.2 _ (List.mem_cons_of_mem _ wd_254)) (va_Nw.use rfl (hX.1 ("java/lang/IndexOutOfBoundsException", "java/lang/IndexOutOfBoundsException") (by decide +kernel))) hce hcv hcl ?_
      refine lv_astore_n (lv' := [(3, .ref q9), (0, .ref (b + 0)), (1, .int x1), (2, .ref o)]) hx hb dL_lines_12 rfl hl (by decide) rfl (fun ls hl => ?_)
      refine lv_iconst (v := nI 1) hx hb dL_lines_13 (by decide) ?_
      exact l_iret F hr hlocks hQ ⟨Nat.le_of_ble_eq_true rfl, Nat.le_of_ble_eq_true rfl⟩ hK hKJ hP hO hS rfl dL_lines_14
  · subst hq
    refine lv_i2l (v := v.toInt64) hx hb dL_lines_7 rfl ?_
    refine l_last hx hb ho hKJ hP hO hS dL_lines_8 (fun H1 locs1 hP hO hS => ?_)
    refine lv_goto (tgt := 15) hx hb dL_lines_9 (by decide) ?_
    refine lv_iconst (v := 0) hx hb dL_lines_15 (by decide) ?_
    exact l_iret F hr hlocks hQ ⟨Nat.le_of_ble_eq_true rfl, Nat.le_of_ble_eq_true rfl⟩ hK hKJ hP hO hS rfl dL_lines_16
abbrev rm_L_lineAt : Room := { frames := 8, cells := 3, slots := 18, locals := 131 }
theorem hd_L_lineAt : yL_lineAt.cls ≠ "java/lang/invoke/MethodHandle" ∧ yL_lineAt.cls ≠ "java/lang/invoke/VarHandle" ∧ (parseMethodDescriptor yL_lineAt.desc).map (fun d => d.parameters.length) = some 5 := by decide +kernel
def hh_L_lineAt : List (Nat × Nat × Nat × Nat) := [(0, 12, 15, 13), (0, 12, 19, 15)]
set_option maxRecDepth 100000 in
set_option maxHeartbeats 4000000 in
theorem c_L_lineAt (l : Launch) (hfl : l.stackTraces = false) (D : va_G) (cI cO cJ : ClassId) (b o : Nat) (ho : ¬ AC b o) (S : St) (fl : Nat → Int64) (x1 : Int32) (x2 : Int32) (x3 : Int32) (r : Nat ⊕ Int32) (hf : f_X6_lineAt S x1 x2 x3 = some r) (he : ∀ e9, r = .inl e9 → e9 = 1 ∨ e9 = 2) : vx_Met l yL_lineAt (Cond.codeWith yL_lineAt cL_lineAt 6 (some .int) hh_L_lineAt :: wsAll) rm_L_lineAt (PLw D cI cO cJ b o (S, fl) [.ref (b + 0), .int x1, .int x2, .int x3, .ref o]) (QLw D cI cO cJ b o (kc mcI r) (S, ou r fl)) (XLw b o) 3 18 (AL b o) := by
  refine l_met RL (by decide +kernel) (Nat.le_of_ble_eq_true rfl) rfl ?_
  intro p e s m args below meth c ls Q F hr hlocks htab hB hX hN hl hQ
  obtain ⟨⟨hP, hO⟩, hK, hKJ⟩ := hB
  have hx := F.1
  have hb := F.2.1
  have hl : lv_has ls 6 [(0, .ref (b + 0)), (1, .int x1), (2, .int x2), (3, .int x3), (4, .ref o)] := hl
  refine lv_aload hx hb dL_lineAt_0 (lv_at hl 4 rfl) ?_
  refine lv_iconst (v := 0) hx hb dL_lineAt_2 (by decide) ?_
  refine lv_aload_n hx hb dL_lineAt_3 rfl (lv_at hl 0 rfl) ?_
  refine lv_iload_n hx hb dL_lineAt_4 rfl (lv_at hl 1 rfl) ?_
  refine lv_iload_n hx hb dL_lineAt_5 rfl (lv_at hl 2 rfl) ?_
  refine lv_iload_n hx hb dL_lineAt_6 rfl (lv_at hl 3 rfl) ?_
  refine l_calli F hX ho hK hP hO [.int x1, .int x2, .int x3] (c_X6_lineAt l hfl D cI cO b S x1 x2 x3 r hf) wd_647 wd_648 wd_649 wd_1 wd_650 hd_X6_lineAt rfl rfl ⟨Nat.le_of_ble_eq_true rfl, Nat.le_of_ble_eq_true rfl⟩ rfl hl (rest := [.int 0, .ref o]) rfl (Nat.le_of_ble_eq_true rfl) dL_lineAt_7 ⟨Nat.le_of_ble_eq_true rfl, Nat.le_of_ble_eq_true rfl⟩ (fun e9 he9 H1 locs1 q9 ce hP hO hS hce hcv hcl => ?_) (fun v hq H1 locs1 hP hO hS => ?_)
  · subst he9
    rcases he _ rfl with rfl | rfl
    · refine vx_catch (own := RL) (name := "java/lang/IndexOutOfBoundsException") (E := "java/lang/IndexOutOfBoundsException") F.2.2.2.1 [] ⟨0, 12, 15, 13⟩ [⟨0, 12, 19, 15⟩] (htab.trans rfl) (fun z hz => nomatch hz) rfl (by decide) (F.2.2.2.2 _ (List.mem_cons_of_mem _ wd_254)) (va_Nw.use rfl (hX.1 ("java/lang/IndexOutOfBoundsException", "java/lang/IndexOutOfBoundsException") (by decide +kernel))) hce hcv hcl ?_
      refine lv_astore (lv' := [(5, .ref q9), (0, .ref (b + 0)), (1, .int x1), (2, .int x2), (3, .int x3), (4, .ref o)]) hx hb dL_lineAt_15 hl (by decide) rfl (fun ls hl => ?_)
      refine lv_iconst (v := nI 1) hx hb dL_lineAt_17 (by decide) ?_
      exact l_iret F hr hlocks hQ ⟨Nat.le_of_ble_eq_true rfl, Nat.le_of_ble_eq_true rfl⟩ hK hKJ hP hO hS rfl dL_lineAt_18
    · refine vx_catch (own := RL) (name := "java/lang/IllegalArgumentException") (E := "java/lang/IllegalArgumentException") F.2.2.2.1 [⟨0, 12, 15, 13⟩] ⟨0, 12, 19, 15⟩ [] (htab.trans rfl) (List.forall_mem_cons.mpr ⟨Or.inr ⟨by decide, "java/lang/IndexOutOfBoundsException", F.2.2.2.2 _ (List.mem_cons_of_mem _ wd_254), hN ("java/lang/IllegalArgumentException", "java/lang/IndexOutOfBoundsException") (by decide +kernel)⟩, fun z hz => nomatch hz⟩) rfl (by decide) (F.2.2.2.2 _ (List.mem_cons_of_mem _ wd_255)) (va_Nw.use rfl (hX.1 ("java/lang/IllegalArgumentException", "java/lang/IllegalArgumentException") (by decide +kernel))) hce hcv hcl ?_
      refine lv_astore (lv' := [(5, .ref q9), (0, .ref (b + 0)), (1, .int x1), (2, .int x2), (3, .int x3), (4, .ref o)]) hx hb dL_lineAt_19 hl (by decide) rfl (fun ls hl => ?_)
      refine lv_iconst (v := nI 2) hx hb dL_lineAt_21 (by decide) ?_
      exact l_iret F hr hlocks hQ ⟨Nat.le_of_ble_eq_true rfl, Nat.le_of_ble_eq_true rfl⟩ hK hKJ hP hO hS rfl dL_lineAt_22
  · subst hq
    refine lv_i2l (v := v.toInt64) hx hb dL_lineAt_10 rfl ?_
    refine l_last hx hb ho hKJ hP hO hS dL_lineAt_11 (fun H1 locs1 hP hO hS => ?_)
    refine lv_goto (tgt := 23) hx hb dL_lineAt_12 (by decide) ?_
    refine lv_iconst (v := 0) hx hb dL_lineAt_23 (by decide) ?_
    exact l_iret F hr hlocks hQ ⟨Nat.le_of_ble_eq_true rfl, Nat.le_of_ble_eq_true rfl⟩ hK hKJ hP hO hS rfl dL_lineAt_24
abbrev rm_L_lineAnew : Room := { frames := 8, cells := 2, slots := 12, locals := 154 }
theorem hd_L_lineAnew : yL_lineAnew.cls ≠ "java/lang/invoke/MethodHandle" ∧ yL_lineAnew.cls ≠ "java/lang/invoke/VarHandle" ∧ (parseMethodDescriptor yL_lineAnew.desc).map (fun d => d.parameters.length) = some 4 := by decide +kernel
def hh_L_lineAnew : List (Nat × Nat × Nat × Nat) := [(0, 10, 13, 13)]
set_option maxRecDepth 100000 in
set_option maxHeartbeats 4000000 in
theorem c_L_lineAnew (l : Launch) (hfl : l.stackTraces = false) (D : va_G) (cI cO cJ : ClassId) (b o : Nat) (ho : ¬ AC b o) (S : St) (fl : Nat → Int64) (x1 : Int32) (x2 : Int32) (r : Nat ⊕ Int32) (S1 : St) (hf : f_X6_lineAnew S x1 x2 = some (r, S1)) (he : ∀ e9, r = .inl e9 → e9 = 1) : vx_Met l yL_lineAnew (Cond.codeWith yL_lineAnew cL_lineAnew 5 (some .int) hh_L_lineAnew :: wsAll) rm_L_lineAnew (PLw D cI cO cJ b o (S, fl) [.ref (b + 0), .int x1, .int x2, .ref o]) (QLw D cI cO cJ b o (kc mcI r) (S1, ou r fl)) (XLw b o) 2 12 (AL b o) := by
  refine l_met RL (by decide +kernel) (Nat.le_of_ble_eq_true rfl) rfl ?_
  intro p e s m args below meth c ls Q F hr hlocks htab hB hX hN hl hQ
  obtain ⟨⟨hP, hO⟩, hK, hKJ⟩ := hB
  have hx := F.1
  have hb := F.2.1
  have hl : lv_has ls 5 [(0, .ref (b + 0)), (1, .int x1), (2, .int x2), (3, .ref o)] := hl
  refine lv_aload_n hx hb dL_lineAnew_0 rfl (lv_at hl 3 rfl) ?_
  refine lv_iconst (v := 0) hx hb dL_lineAnew_1 (by decide) ?_
  refine lv_aload_n hx hb dL_lineAnew_2 rfl (lv_at hl 0 rfl) ?_
  refine lv_iload_n hx hb dL_lineAnew_3 rfl (lv_at hl 1 rfl) ?_
  refine lv_iload_n hx hb dL_lineAnew_4 rfl (lv_at hl 2 rfl) ?_
  refine l_calli F hX ho hK hP hO [.int x1, .int x2] (c_X6_lineAnew l hfl D cI cO b S x1 x2 r S1 hf) wd_674 wd_675 wd_676 wd_1 wd_677 hd_X6_lineAnew rfl rfl ⟨Nat.le_of_ble_eq_true rfl, Nat.le_of_ble_eq_true rfl⟩ rfl hl (rest := [.int 0, .ref o]) rfl (Nat.le_of_ble_eq_true rfl) dL_lineAnew_5 ⟨Nat.le_of_ble_eq_true rfl, Nat.le_of_ble_eq_true rfl⟩ (fun e9 he9 H1 locs1 q9 ce hP hO hS hce hcv hcl => ?_) (fun v hq H1 locs1 hP hO hS => ?_)
  · subst he9
    rcases he _ rfl with rfl
    · refine vx_catch (own := RL) (name := "java/lang/IndexOutOfBoundsException") (E := "java/lang/IndexOutOfBoundsException") F.2.2.2.1 [] ⟨0, 10, 13, 13⟩ [] (htab.trans rfl) (fun z hz => nomatch hz) rfl (by decide) (F.2.2.2.2 _ (List.mem_cons_of_mem _ wd_254)) (va_Nw.use rfl (hX.1 ("java/lang/IndexOutOfBoundsException", "java/lang/IndexOutOfBoundsException") (by decide +kernel))) hce hcv hcl ?_
      refine lv_astore (lv' := [(4, .ref q9), (0, .ref (b + 0)), (1, .int x1), (2, .int x2), (3, .ref o)]) hx hb dL_lineAnew_13 hl (by decide) rfl (fun ls hl => ?_)
      refine lv_iconst (v := nI 1) hx hb dL_lineAnew_15 (by decide) ?_
      exact l_iret F hr hlocks hQ ⟨Nat.le_of_ble_eq_true rfl, Nat.le_of_ble_eq_true rfl⟩ hK hKJ hP hO hS rfl dL_lineAnew_16
  · subst hq
    refine lv_i2l (v := v.toInt64) hx hb dL_lineAnew_8 rfl ?_
    refine l_last hx hb ho hKJ hP hO hS dL_lineAnew_9 (fun H1 locs1 hP hO hS => ?_)
    refine lv_goto (tgt := 17) hx hb dL_lineAnew_10 (by decide) ?_
    refine lv_iconst (v := 0) hx hb dL_lineAnew_17 (by decide) ?_
    exact l_iret F hr hlocks hQ ⟨Nat.le_of_ble_eq_true rfl, Nat.le_of_ble_eq_true rfl⟩ hK hKJ hP hO hS rfl dL_lineAnew_18
abbrev rm_L_noteAt : Room := { frames := 8, cells := 2, slots := 12, locals := 131 }
theorem hd_L_noteAt : yL_noteAt.cls ≠ "java/lang/invoke/MethodHandle" ∧ yL_noteAt.cls ≠ "java/lang/invoke/VarHandle" ∧ (parseMethodDescriptor yL_noteAt.desc).map (fun d => d.parameters.length) = some 4 := by decide +kernel
def hh_L_noteAt : List (Nat × Nat × Nat × Nat) := [(0, 10, 13, 13)]
set_option maxRecDepth 100000 in
set_option maxHeartbeats 4000000 in
theorem c_L_noteAt (l : Launch) (hfl : l.stackTraces = false) (D : va_G) (cI cO cJ : ClassId) (b o : Nat) (ho : ¬ AC b o) (S : St) (fl : Nat → Int64) (x1 : Int32) (x2 : Int32) (r : Nat ⊕ Int32) (hf : f_X6_noteAt S x1 x2 = some r) (he : ∀ e9, r = .inl e9 → e9 = 1) : vx_Met l yL_noteAt (Cond.codeWith yL_noteAt cL_noteAt 5 (some .int) hh_L_noteAt :: wsAll) rm_L_noteAt (PLw D cI cO cJ b o (S, fl) [.ref (b + 0), .int x1, .int x2, .ref o]) (QLw D cI cO cJ b o (kc mcI r) (S, ou r fl)) (XLw b o) 2 12 (AL b o) := by
  refine l_met RL (by decide +kernel) (Nat.le_of_ble_eq_true rfl) rfl ?_
  intro p e s m args below meth c ls Q F hr hlocks htab hB hX hN hl hQ
  obtain ⟨⟨hP, hO⟩, hK, hKJ⟩ := hB
  have hx := F.1
  have hb := F.2.1
  have hl : lv_has ls 5 [(0, .ref (b + 0)), (1, .int x1), (2, .int x2), (3, .ref o)] := hl
  refine lv_aload_n hx hb dL_noteAt_0 rfl (lv_at hl 3 rfl) ?_
  refine lv_iconst (v := 0) hx hb dL_noteAt_1 (by decide) ?_
  refine lv_aload_n hx hb dL_noteAt_2 rfl (lv_at hl 0 rfl) ?_
  refine lv_iload_n hx hb dL_noteAt_3 rfl (lv_at hl 1 rfl) ?_
  refine lv_iload_n hx hb dL_noteAt_4 rfl (lv_at hl 2 rfl) ?_
  refine l_calli F hX ho hK hP hO [.int x1, .int x2] (c_X6_noteAt l hfl D cI cO b S x1 x2 r hf) wd_703 wd_704 wd_705 wd_1 wd_706 hd_X6_noteAt rfl rfl ⟨Nat.le_of_ble_eq_true rfl, Nat.le_of_ble_eq_true rfl⟩ rfl hl (rest := [.int 0, .ref o]) rfl (Nat.le_of_ble_eq_true rfl) dL_noteAt_5 ⟨Nat.le_of_ble_eq_true rfl, Nat.le_of_ble_eq_true rfl⟩ (fun e9 he9 H1 locs1 q9 ce hP hO hS hce hcv hcl => ?_) (fun v hq H1 locs1 hP hO hS => ?_)
  · subst he9
    rcases he _ rfl with rfl
    · refine vx_catch (own := RL) (name := "java/lang/IndexOutOfBoundsException") (E := "java/lang/IndexOutOfBoundsException") F.2.2.2.1 [] ⟨0, 10, 13, 13⟩ [] (htab.trans rfl) (fun z hz => nomatch hz) rfl (by decide) (F.2.2.2.2 _ (List.mem_cons_of_mem _ wd_254)) (va_Nw.use rfl (hX.1 ("java/lang/IndexOutOfBoundsException", "java/lang/IndexOutOfBoundsException") (by decide +kernel))) hce hcv hcl ?_
      refine lv_astore (lv' := [(4, .ref q9), (0, .ref (b + 0)), (1, .int x1), (2, .int x2), (3, .ref o)]) hx hb dL_noteAt_13 hl (by decide) rfl (fun ls hl => ?_)
      refine lv_iconst (v := nI 1) hx hb dL_noteAt_15 (by decide) ?_
      exact l_iret F hr hlocks hQ ⟨Nat.le_of_ble_eq_true rfl, Nat.le_of_ble_eq_true rfl⟩ hK hKJ hP hO hS rfl dL_noteAt_16
  · subst hq
    refine lv_i2l (v := v.toInt64) hx hb dL_noteAt_8 rfl ?_
    refine l_last hx hb ho hKJ hP hO hS dL_noteAt_9 (fun H1 locs1 hP hO hS => ?_)
    refine lv_goto (tgt := 17) hx hb dL_noteAt_10 (by decide) ?_
    refine lv_iconst (v := 0) hx hb dL_noteAt_17 (by decide) ?_
    exact l_iret F hr hlocks hQ ⟨Nat.le_of_ble_eq_true rfl, Nat.le_of_ble_eq_true rfl⟩ hK hKJ hP hO hS rfl dL_noteAt_18
abbrev rm_L_pages : Room := { frames := 8, cells := 1, slots := 6, locals := 128 }
theorem hd_L_pages : yL_pages.cls ≠ "java/lang/invoke/MethodHandle" ∧ yL_pages.cls ≠ "java/lang/invoke/VarHandle" ∧ (parseMethodDescriptor yL_pages.desc).map (fun d => d.parameters.length) = some 3 := by decide +kernel
def hh_L_pages : List (Nat × Nat × Nat × Nat) := [(0, 9, 12, 13)]
set_option maxRecDepth 100000 in
set_option maxHeartbeats 4000000 in
theorem c_L_pages (l : Launch) (hfl : l.stackTraces = false) (D : va_G) (cI cO cJ : ClassId) (b o : Nat) (ho : ¬ AC b o) (S : St) (fl : Nat → Int64) (x1 : Int32) (r : Nat ⊕ Int32) (hf : f_X6_pages S x1 = some r) (he : ∀ e9, r = .inl e9 → e9 = 1) : vx_Met l yL_pages (Cond.codeWith yL_pages cL_pages 4 (some .int) hh_L_pages :: wsAll) rm_L_pages (PLw D cI cO cJ b o (S, fl) [.ref (b + 0), .int x1, .ref o]) (QLw D cI cO cJ b o (kc mcI r) (S, ou r fl)) (XLw b o) 1 6 (AL b o) := by
  refine l_met RL (by decide +kernel) (Nat.le_of_ble_eq_true rfl) rfl ?_
  intro p e s m args below meth c ls Q F hr hlocks htab hB hX hN hl hQ
  obtain ⟨⟨hP, hO⟩, hK, hKJ⟩ := hB
  have hx := F.1
  have hb := F.2.1
  have hl : lv_has ls 4 [(0, .ref (b + 0)), (1, .int x1), (2, .ref o)] := hl
  refine lv_aload_n hx hb dL_pages_0 rfl (lv_at hl 2 rfl) ?_
  refine lv_iconst (v := 0) hx hb dL_pages_1 (by decide) ?_
  refine lv_aload_n hx hb dL_pages_2 rfl (lv_at hl 0 rfl) ?_
  refine lv_iload_n hx hb dL_pages_3 rfl (lv_at hl 1 rfl) ?_
  refine l_calli F hX ho hK hP hO [.int x1] (c_X6_pages l hfl D cI cO b S x1 r hf) wd_711 wd_712 wd_713 wd_1 wd_714 hd_X6_pages rfl rfl ⟨Nat.le_of_ble_eq_true rfl, Nat.le_of_ble_eq_true rfl⟩ rfl hl (rest := [.int 0, .ref o]) rfl (Nat.le_of_ble_eq_true rfl) dL_pages_4 ⟨Nat.le_of_ble_eq_true rfl, Nat.le_of_ble_eq_true rfl⟩ (fun e9 he9 H1 locs1 q9 ce hP hO hS hce hcv hcl => ?_) (fun v hq H1 locs1 hP hO hS => ?_)
  · subst he9
    rcases he _ rfl with rfl
    · refine vx_catch (own := RL) (name := "java/lang/IndexOutOfBoundsException") (E := "java/lang/IndexOutOfBoundsException") F.2.2.2.1 [] ⟨0, 9, 12, 13⟩ [] (htab.trans rfl) (fun z hz => nomatch hz) rfl (by decide) (F.2.2.2.2 _ (List.mem_cons_of_mem _ wd_254)) (va_Nw.use rfl (hX.1 ("java/lang/IndexOutOfBoundsException", "java/lang/IndexOutOfBoundsException") (by decide +kernel))) hce hcv hcl ?_
      refine lv_astore_n (lv' := [(3, .ref q9), (0, .ref (b + 0)), (1, .int x1), (2, .ref o)]) hx hb dL_pages_12 rfl hl (by decide) rfl (fun ls hl => ?_)
      refine lv_iconst (v := nI 1) hx hb dL_pages_13 (by decide) ?_
      exact l_iret F hr hlocks hQ ⟨Nat.le_of_ble_eq_true rfl, Nat.le_of_ble_eq_true rfl⟩ hK hKJ hP hO hS rfl dL_pages_14
  · subst hq
    refine lv_i2l (v := v.toInt64) hx hb dL_pages_7 rfl ?_
    refine l_last hx hb ho hKJ hP hO hS dL_pages_8 (fun H1 locs1 hP hO hS => ?_)
    refine lv_goto (tgt := 15) hx hb dL_pages_9 (by decide) ?_
    refine lv_iconst (v := 0) hx hb dL_pages_15 (by decide) ?_
    exact l_iret F hr hlocks hQ ⟨Nat.le_of_ble_eq_true rfl, Nat.le_of_ble_eq_true rfl⟩ hK hKJ hP hO hS rfl dL_pages_16
abbrev rm_L_aheadAnew : Room := { frames := 8, cells := 2, slots := 12, locals := 134 }
theorem hd_L_aheadAnew : yL_aheadAnew.cls ≠ "java/lang/invoke/MethodHandle" ∧ yL_aheadAnew.cls ≠ "java/lang/invoke/VarHandle" ∧ (parseMethodDescriptor yL_aheadAnew.desc).map (fun d => d.parameters.length) = some 4 := by decide +kernel
def hh_L_aheadAnew : List (Nat × Nat × Nat × Nat) := [(0, 10, 13, 13)]
set_option maxRecDepth 100000 in
set_option maxHeartbeats 4000000 in
theorem c_L_aheadAnew (l : Launch) (hfl : l.stackTraces = false) (D : va_G) (cI cO cJ : ClassId) (b o : Nat) (ho : ¬ AC b o) (S : St) (fl : Nat → Int64) (x1 : Int32) (x2 : Int32) (r : Nat ⊕ Int32) (hf : f_X6_aheadAnew S x1 x2 = some r) (he : ∀ e9, r = .inl e9 → e9 = 1) : vx_Met l yL_aheadAnew (Cond.codeWith yL_aheadAnew cL_aheadAnew 5 (some .int) hh_L_aheadAnew :: wsAll) rm_L_aheadAnew (PLw D cI cO cJ b o (S, fl) [.ref (b + 0), .int x1, .int x2, .ref o]) (QLw D cI cO cJ b o (kc mcI r) (S, ou r fl)) (XLw b o) 2 12 (AL b o) := by
  refine l_met RL (by decide +kernel) (Nat.le_of_ble_eq_true rfl) rfl ?_
  intro p e s m args below meth c ls Q F hr hlocks htab hB hX hN hl hQ
  obtain ⟨⟨hP, hO⟩, hK, hKJ⟩ := hB
  have hx := F.1
  have hb := F.2.1
  have hl : lv_has ls 5 [(0, .ref (b + 0)), (1, .int x1), (2, .int x2), (3, .ref o)] := hl
  refine lv_aload_n hx hb dL_aheadAnew_0 rfl (lv_at hl 3 rfl) ?_
  refine lv_iconst (v := 0) hx hb dL_aheadAnew_1 (by decide) ?_
  refine lv_aload_n hx hb dL_aheadAnew_2 rfl (lv_at hl 0 rfl) ?_
  refine lv_iload_n hx hb dL_aheadAnew_3 rfl (lv_at hl 1 rfl) ?_
  refine lv_iload_n hx hb dL_aheadAnew_4 rfl (lv_at hl 2 rfl) ?_
  refine l_calli F hX ho hK hP hO [.int x1, .int x2] (c_X6_aheadAnew l hfl D cI cO b S x1 x2 r hf) wd_719 wd_720 wd_721 wd_1 wd_722 hd_X6_aheadAnew rfl rfl ⟨Nat.le_of_ble_eq_true rfl, Nat.le_of_ble_eq_true rfl⟩ rfl hl (rest := [.int 0, .ref o]) rfl (Nat.le_of_ble_eq_true rfl) dL_aheadAnew_5 ⟨Nat.le_of_ble_eq_true rfl, Nat.le_of_ble_eq_true rfl⟩ (fun e9 he9 H1 locs1 q9 ce hP hO hS hce hcv hcl => ?_) (fun v hq H1 locs1 hP hO hS => ?_)
  · subst he9
    rcases he _ rfl with rfl
    · refine vx_catch (own := RL) (name := "java/lang/IndexOutOfBoundsException") (E := "java/lang/IndexOutOfBoundsException") F.2.2.2.1 [] ⟨0, 10, 13, 13⟩ [] (htab.trans rfl) (fun z hz => nomatch hz) rfl (by decide) (F.2.2.2.2 _ (List.mem_cons_of_mem _ wd_254)) (va_Nw.use rfl (hX.1 ("java/lang/IndexOutOfBoundsException", "java/lang/IndexOutOfBoundsException") (by decide +kernel))) hce hcv hcl ?_
      refine lv_astore (lv' := [(4, .ref q9), (0, .ref (b + 0)), (1, .int x1), (2, .int x2), (3, .ref o)]) hx hb dL_aheadAnew_13 hl (by decide) rfl (fun ls hl => ?_)
      refine lv_iconst (v := nI 1) hx hb dL_aheadAnew_15 (by decide) ?_
      exact l_iret F hr hlocks hQ ⟨Nat.le_of_ble_eq_true rfl, Nat.le_of_ble_eq_true rfl⟩ hK hKJ hP hO hS rfl dL_aheadAnew_16
  · subst hq
    refine lv_i2l (v := v.toInt64) hx hb dL_aheadAnew_8 rfl ?_
    refine l_last hx hb ho hKJ hP hO hS dL_aheadAnew_9 (fun H1 locs1 hP hO hS => ?_)
    refine lv_goto (tgt := 17) hx hb dL_aheadAnew_10 (by decide) ?_
    refine lv_iconst (v := 0) hx hb dL_aheadAnew_17 (by decide) ?_
    exact l_iret F hr hlocks hQ ⟨Nat.le_of_ble_eq_true rfl, Nat.le_of_ble_eq_true rfl⟩ hK hKJ hP hO hS rfl dL_aheadAnew_18
abbrev rm_L_known : Room := { frames := 8, cells := 1, slots := 6, locals := 128 }
theorem hd_L_known : yL_known.cls ≠ "java/lang/invoke/MethodHandle" ∧ yL_known.cls ≠ "java/lang/invoke/VarHandle" ∧ (parseMethodDescriptor yL_known.desc).map (fun d => d.parameters.length) = some 3 := by decide +kernel
def hh_L_known : List (Nat × Nat × Nat × Nat) := [(0, 9, 12, 13)]
set_option maxRecDepth 100000 in
set_option maxHeartbeats 4000000 in
theorem c_L_known (l : Launch) (hfl : l.stackTraces = false) (D : va_G) (cI cO cJ : ClassId) (b o : Nat) (ho : ¬ AC b o) (S : St) (fl : Nat → Int64) (x1 : Int32) (r : Nat ⊕ Int32) (hf : f_X6_known S x1 = some r) (he : ∀ e9, r = .inl e9 → e9 = 1) : vx_Met l yL_known (Cond.codeWith yL_known cL_known 4 (some .int) hh_L_known :: wsAll) rm_L_known (PLw D cI cO cJ b o (S, fl) [.ref (b + 0), .int x1, .ref o]) (QLw D cI cO cJ b o (kc mcI r) (S, ou r fl)) (XLw b o) 1 6 (AL b o) := by
  refine l_met RL (by decide +kernel) (Nat.le_of_ble_eq_true rfl) rfl ?_
  intro p e s m args below meth c ls Q F hr hlocks htab hB hX hN hl hQ
  obtain ⟨⟨hP, hO⟩, hK, hKJ⟩ := hB
  have hx := F.1
  have hb := F.2.1
  have hl : lv_has ls 4 [(0, .ref (b + 0)), (1, .int x1), (2, .ref o)] := hl
  refine lv_aload_n hx hb dL_known_0 rfl (lv_at hl 2 rfl) ?_
  refine lv_iconst (v := 0) hx hb dL_known_1 (by decide) ?_
  refine lv_aload_n hx hb dL_known_2 rfl (lv_at hl 0 rfl) ?_
  refine lv_iload_n hx hb dL_known_3 rfl (lv_at hl 1 rfl) ?_
  refine l_calli F hX ho hK hP hO [.int x1] (c_X6_known l hfl D cI cO b S x1 r hf) wd_738 wd_739 wd_740 wd_1 wd_741 hd_X6_known rfl rfl ⟨Nat.le_of_ble_eq_true rfl, Nat.le_of_ble_eq_true rfl⟩ rfl hl (rest := [.int 0, .ref o]) rfl (Nat.le_of_ble_eq_true rfl) dL_known_4 ⟨Nat.le_of_ble_eq_true rfl, Nat.le_of_ble_eq_true rfl⟩ (fun e9 he9 H1 locs1 q9 ce hP hO hS hce hcv hcl => ?_) (fun v hq H1 locs1 hP hO hS => ?_)
  · subst he9
    rcases he _ rfl with rfl
    · refine vx_catch (own := RL) (name := "java/lang/IndexOutOfBoundsException") (E := "java/lang/IndexOutOfBoundsException") F.2.2.2.1 [] ⟨0, 9, 12, 13⟩ [] (htab.trans rfl) (fun z hz => nomatch hz) rfl (by decide) (F.2.2.2.2 _ (List.mem_cons_of_mem _ wd_254)) (va_Nw.use rfl (hX.1 ("java/lang/IndexOutOfBoundsException", "java/lang/IndexOutOfBoundsException") (by decide +kernel))) hce hcv hcl ?_
      refine lv_astore_n (lv' := [(3, .ref q9), (0, .ref (b + 0)), (1, .int x1), (2, .ref o)]) hx hb dL_known_12 rfl hl (by decide) rfl (fun ls hl => ?_)
      refine lv_iconst (v := nI 1) hx hb dL_known_13 (by decide) ?_
      exact l_iret F hr hlocks hQ ⟨Nat.le_of_ble_eq_true rfl, Nat.le_of_ble_eq_true rfl⟩ hK hKJ hP hO hS rfl dL_known_14
  · subst hq
    refine lv_i2l (v := v.toInt64) hx hb dL_known_7 rfl ?_
    refine l_last hx hb ho hKJ hP hO hS dL_known_8 (fun H1 locs1 hP hO hS => ?_)
    refine lv_goto (tgt := 15) hx hb dL_known_9 (by decide) ?_
    refine lv_iconst (v := 0) hx hb dL_known_15 (by decide) ?_
    exact l_iret F hr hlocks hQ ⟨Nat.le_of_ble_eq_true rfl, Nat.le_of_ble_eq_true rfl⟩ hK hKJ hP hO hS rfl dL_known_16
