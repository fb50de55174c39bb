/-! THE CLASS'S CONSTRUCTOR -/
def aT (b t : Nat) : Nat → Option Nat := fun j => if j < t then some (b + oS j) else none
def aE (cO : ClassId) (b t : Nat) : va_E := .inl (cO, 4, .inr (.inr (.inr (.inr (aT b t)))))
def g6 (cI cO : ClassId) (b t : Nat) : Nat → va_E := fu (gC cI cO b) 20 (aE cO b t)
def PY (D : va_G) (tys : List (ClassId × FieldType)) (b : Nat) (f : Nat → va_E) (n : Nat) (X : State → Prop) (av : List Value) : Array Value → State → Prop := va_Pc av (fun U => BZ D tys b f n U ∧ X U)
def nestL : Cond := .methodLinkNest "Mergeparlour" 9 yX1_init "Mergeparlour"
def XF (U : State) : Prop := va_Nw nestL U ∧ va_AO "Mergeparlour$Site" U
theorem va_P_cell {D : va_G} {b n : Nat} {f g : Nat → va_E} {H : Heap} (h : va_P D vwCl (pW b f n) H) (he : ∀ i, i < n → f i = g i ∨ ∃ (cA : ClassId) (N : Nat) (u v : Nat → Option Nat), f i = .inl (cA, N, .inr (.inr (.inr (.inr u)))) ∧ g i = .inl (cA, N, .inr (.inr (.inr (.inr v)))) ∧ ∀ j, j < N → u j = v j) : va_P D vwCl (pW b g n) H := by
  intro k q hq
  obtain ⟨hk, rfl⟩ := pW_some hq
  have h1 := h k _ (pW_at hk)
  rcases he k hk with e | ⟨cA, N, u, v, e1, e2, e3⟩
  · rw [← e]; exact h1
  · rw [e1] at h1
    rw [e2]
    show H[b + k]? = some (vp_cell cA (N, .inr (.inr (.inr (.inr v)))))
    have h1 : H[b + k]? = some (vp_cell cA (N, .inr (.inr (.inr (.inr u))))) := h1
    rw [h1, vp_cell_q, vp_cell_q]
    congr 1
    unfold arrV
    congr 1
    congr 1
    funext j
    show va_rf (u j.val) = va_rf (v j.val)
    rw [e3 j.val j.isLt]
section FACE
variable {p : Program} {l : Launch} {e : Env} {R : Room} {s : State} {m : MethodId} {args : Array Value} {below : List Frame} {meth : Method} {c : Code} {H H0 : Heap} {locs : List Loc} {cells slots : Nat} {Q : State → Prop} {cc : ByteArray} {pc nL : Nat} {ls : Array Slot} {rest st0 : List Value} {own : String} {D : va_G} {tys : List (ClassId × FieldType)} {hh : Cond} {b n : Nat} {f : Nat → va_E}
theorem z_callN (F : CallFix p m c cc nL s args (hh :: wsAll) own) (hK : va_K D vwCl tys s) (hP : va_P D vwCl (pW b f n) H) (hS : va_S (AP b) H0 H locs) (h0 : 0 < n) (hsz : s.heap.size + cells = b + n) {y : MethodName} {bytes : ByteArray} {maxL na index n2 mc ms k : Nat} {f2 : Nat → va_E} {rm : Room} {lv : List (Nat × Value)} {host : String} (As : List Value)
    (hM : Met l y (Cond.code y bytes maxL none :: wsAll) rm (PZ D tys b f n (.ref (b + k) :: As)) (QZ D tys b f2 n2) mc ms (AP b))
    (h1 : va_Nw (.methodLinkNest own index y host) s) (h2 : Cond.instanceMethod y ∈ wsAll) (h4 : Cond.initialized y.cls ∈ wsAll) (h5 : Cond.code y bytes maxL none ∈ wsAll)
    (hd : y.name = "<init>" ∧ y.cls ≠ "java/lang/invoke/MethodHandle" ∧ y.cls ≠ "java/lang/invoke/VarHandle" ∧ (parseMethodDescriptor y.desc).map (fun d => d.parameters.length) = some na) (hrm : rm.cells = mc) (hrm2 : rm.slots = ms) (hR : rm.frames + 1 ≤ R.frames ∧ 8 + (maxL + 11) + rm.locals ≤ R.locals) (hn : As.length = na) (hl : lv_has ls nL lv) (hst : st0 = As.reverse ++ .ref (b + k) :: rest) (hrest : (rest.map fun v => v.category).sum ≤ 8) (hdg : decode cc pc = .ok (.invokespecial index, 3)) (hroom : cells + mc ≤ R.cells ∧ slots + ms ≤ R.slots)
    (kk : ∀ (H1 : Heap) (locs1 : List Loc), va_P D vwCl (pW b f2 n2) H1 → va_S (AP b) H0 H1 locs1 → W p l e R s m args below meth c H1 locs1 (cells + mc) (slots + ms) Q (F0 m (pc + 3) ls rest)) : W p l e R s m args below meth c H locs cells slots Q (F0 m pc ls st0) := by
  subst hst
  refine z_sizeE hP h0 hsz (fun hsE => ?_)
  refine va_callv (va_runIN (As := As) (rest := rest) F hM ⟨va_cnB na F.2.2.2.2 (gAll h5) rfl hrm hrm2 h1 (F.2.2.2.2 _ (List.mem_cons_of_mem _ h4)) hd.2 hR, hd.1, F.2.2.2.2 _ (List.mem_cons_of_mem _ h2)⟩ ⟨PZ_blind, fun U hU hW => ⟨rfl, by rw [hU]; exact hsE, by rw [hU]; exact hP, va_K.moved hW.alike hK⟩⟩ rfl hn hl.1 rfl (lv_room hrest) hdg hroom) hS (fun q _ h => h) (fun q h => h) (fun u t H1 locs1 ht hvm hw hB hz1 hk1 hS1 => ?_)
  subst ht
  exact kk _ locs1 hB.1 hS1
end FACE
theorem mix_bld {b n n2 k ci : Nat} {f g g0 : Nat → va_E} {fs : List Value} {e : va_E} (hk : k < n) (hg : ∀ i, n ≤ i → i < n2 → g0 i = g i) : pW b (mix (fu (bld f k ci fs g) n e) n g0) n2 = pW b (bld f k ci fs g) n2 := by
  refine pW_congr (fun i hi => ?_)
  unfold mix
  by_cases h : i < n
  · rw [if_pos h, fu_ne (by omega)]
  · rw [if_neg h, bld_gt (by omega), hg i (by omega) hi]
abbrev rm_X6_init : Room := { frames := 4, cells := 135, slots := 6513, locals := 90 }
theorem hd_X6_init : yX6_init.name = "<init>" ∧ yX6_init.cls ≠ "java/lang/invoke/MethodHandle" ∧ yX6_init.cls ≠ "java/lang/invoke/VarHandle" ∧ (parseMethodDescriptor yX6_init.desc).map (fun d => d.parameters.length) = some 0 := by decide +kernel
set_option maxRecDepth 100000 in
set_option maxHeartbeats 4000000 in
theorem c_X6_init (l : Launch) (D : va_G) (cI cO : ClassId) (b : Nat) (f : Nat → va_E) (hf : f 0 = .inr (6, [.null, .null, .null])) : Met l yX6_init (Cond.code yX6_init cX6_init 2 none :: wsAll) rm_X6_init (PY D (tyC cI cO) b f 1 XF [.ref (b + 0)]) (QZ D (tyC cI cO) b (gC cI cO b) 136) 135 6513 (AP b) := by
  refine Met.ofW (cc := cX6_init) (maxL := 2) (ret := none) (by decide +kernel) rfl ?_
  intro p e s m args below meth c s₁ B hml hv
  obtain ⟨rfl, ⟨hsz, hP, hK⟩, hnest, hAO⟩ := hv
  have hl := lv_entry [.ref (b + 0)] (n := 2) (Nat.le_of_ble_eq_true rfl)
  rw [lg_entry_eq]
  generalize (lg_sl ([.ref (b + 0)])  ++ List.replicate (2 - (lg_sl ([.ref (b + 0)])).length) Slot.unset).toArray = ls at hl ⊢
  have F : CallFix p m c cX6_init 2 s ([.ref (b + 0)] : List Value).toArray (Cond.code yX6_init cX6_init 2 none :: wsAll) RX6 := ⟨B.exec, B.bytes, hml, findClass_of_methodNamed B.named, atoms_spec (ws := Cond.code yX6_init cX6_init 2 none :: wsAll) B.pre⟩
  have hname : meth.name = "<init>" := (name_of_methodNamed B.named B.method).1
  have hr := B.returns
  have hlocks := B.notSynchronized
  have hx := F.1
  have hb := F.2.1
  have hS : va_S (AP b) s.heap s.heap [] := va_S.rf
  have hl : lv_has ls 2 [(0, .ref (b + 0))] := hl
  have hP : va_P D vwCl (pW b f (0 + 1)) s.heap := hP
  rw [bld_start2 (g := gC cI cO b) hf] at hP
  refine lv_aload_n hx hb dX6_init_0 rfl (lv_at hl 0 rfl) ?_
  refine z_obj F wd_22 hl dX6_init_1 (Nat.le_of_ble_eq_true rfl) (Nat.le_of_ble_eq_true rfl) ?_
  refine lv_aload_n hx hb dX6_init_4 rfl (lv_at hl 0 rfl) ?_
  refine z_newd (ci := 1) F hK hP hS (by omega) (by omega) inA1 tyX1 tyX1_ok wd_25 wd_26 wd_2 rfl dfX1 (Nat.le_of_ble_eq_true rfl) (Nat.le_of_ble_eq_true rfl) dX6_init_5 dX6_init_8 (fun H hP hS => ?_)
  refine z_callN (na := 0) (k := 1) F hK hP hS (by omega) (by omega) [] (c_X1_init l D cI cO b (fu _ _ _) fu_eq) hnest wd_28 wd_2 wd_29 hd_X1_init rfl rfl ⟨Nat.le_of_ble_eq_true rfl, Nat.le_of_ble_eq_true rfl⟩ rfl hl (rest := [.ref (b + 1), .ref (b + 0)]) rfl (Nat.le_of_ble_eq_true rfl) dX6_init_9 ⟨Nat.le_of_ble_eq_true rfl, Nat.le_of_ble_eq_true rfl⟩ (fun H locs hP hS => ?_)
  have hP : va_P D vwCl (pW b (bld f 0 6 [.null, .null, .null] (gC cI cO b)) 20) H := Eq.mp (congrArg (fun w => va_P D vwCl w H) (mix_bld (by decide) (fun _ _ _ => rfl))) hP
  refine z_put F hname hK hP hS inA6 tyX6 tyX6_ok nmX6 (k := 0) (by omega) bld_k rfl 0 (by decide) wd_184 rfl rfl (ty := tyX6 0) (by decide +kernel) rfl rfl (Nat.le_of_ble_eq_true rfl) dX6_init_12 (fun H locs hP hS => ?_)
  rw [bld_put] at hP
  have hP : va_P D vwCl (pW b (bld f 0 6 [.ref (b + 1), .null, .null] (gC cI cO b)) 20) H := hP
  refine lv_aload_n hx hb dX6_init_15 rfl (lv_at hl 0 rfl) ?_
  refine lv_iconst (v := nI 4) hx hb dX6_init_16 (by decide) ?_
  refine va_newq hx hb F.2.2.2.1 (F.2.2.2.2 _ (List.mem_cons_of_mem _ wd_76)) hAO hK hP pW_D hS (fun q hq => Nat.le_trans (by omega) hq) (nI_pos (by decide)) (N' := 4) (nI_clamp (by decide)) (by decide) (Nat.le_of_ble_eq_true rfl) (Nat.le_of_ble_eq_true rfl) dX6_init_17 (fun q cA H1 h0 h1 h2 h3 => ?_)
  refine z_size (fun h4 => ?_)
  have hq := z_place h1 h2 (by omega)
  have hc1 := (h0.2 2 (cA, .object "Mergeparlour$Site") rfl).2
  have hc2 := (hK.2 1 (cO, .object "Mergeparlour$Site") rfl).2
  have hc : cA = cO := by
    obtain ⟨k1, c1, a1, a2, a3, a4⟩ := hc1
    obtain ⟨k2, c2, b1, b2, b3, b4⟩ := hc2
    exact Option.some.inj (a4.symm.trans b4)
  subst hq
  subst hc
  have e0 : (fun _ => none : Nat → Option Nat) = aT b 0 := by
    funext j
    unfold aT
    rw [if_neg (Nat.not_lt_zero j)]
  rw [e0, pW_snoc] at h1
  have hP : va_P D vwCl (pW b (bld f 0 6 [.ref (b + 1), .null, .null] (g6 cI cA b 0)) 21) H1 := by
    have : pW b (fu (bld f 0 6 [.ref (b + 1), .null, .null] (gC cI cA b)) 20 (.inl (cA, 4, .inr (.inr (.inr (.inr (aT b 0))))))) (20 + 1) = pW b (bld f 0 6 [.ref (b + 1), .null, .null] (g6 cI cA b 0)) 21 := by
      refine pW_congr (fun i hi => ?_)
      by_cases h : i = 20
      · rw [h, fu_eq, bld_gt (by decide)]
        unfold g6
        rw [fu_eq]
        rfl
      · rw [fu_ne h]
        by_cases h5 : i = 0
        · rw [h5, bld_k, bld_k]
        · rw [bld_gt (by omega), bld_gt (by omega)]
          unfold g6
          rw [fu_ne h]
    rw [← this]
    exact h1
  have hS := h3
  refine z_put F hname hK hP hS inA6 tyX6 tyX6_ok nmX6 (k := 0) (by omega) bld_k rfl 1 (by decide) wd_185 rfl rfl (ty := tyX6 1) (by decide +kernel) rfl rfl (Nat.le_of_ble_eq_true rfl) dX6_init_20 (fun H locs hP hS => ?_)
  rw [bld_put] at hP
  have hP : va_P D vwCl (pW b (bld f 0 6 [.ref (b + 1), .ref (b + 20), .null] (g6 cI cA b 0)) (oS 0)) H := hP
  refine lv_iconst (v := nI 0) hx hb dX6_init_23 (by decide) ?_
  refine lv_istore_n (lv' := [(1, .int (nI 0)), (0, .ref (b + 0))]) hx hb dX6_init_24 rfl hl (by decide) rfl (fun ls hl => ?_)
  obtain ⟨Q9, hQ9⟩ : ∃ Q9 : State → Prop, Q9 = MQ below (QZ D (tyC cI cA) b (gC cI cA b) 136) ([.ref (b + 0)] : List Value).toArray s 135 6513 (AP b) := ⟨_, rfl⟩
  have step : ∀ z, z < 4 → (∀ (H : Heap) (locs : List Loc) (ls : Array Slot), va_P D vwCl (pW b (bld f 0 6 [.ref (b + 1), .ref (b + 20), .null] (g6 cI cA b (z + 1))) (oS (z + 1))) H → va_S (AP b) s.heap H locs → lv_has ls 2 [(1, .int (nI (z + 1))), (0, .ref (b + 0))] → W p l e rm_X6_init s m ([.ref (b + 0)] : List Value).toArray below meth c H locs (20 + 27 * (z + 1)) (841 + 1123 * (z + 1)) Q9 (F0 m 25 ls [])) →
      ∀ (H : Heap) (locs : List Loc) (ls : Array Slot), va_P D vwCl (pW b (bld f 0 6 [.ref (b + 1), .ref (b + 20), .null] (g6 cI cA b z)) (oS z)) H → va_S (AP b) s.heap H locs → lv_has ls 2 [(1, .int (nI z)), (0, .ref (b + 0))] → W p l e rm_X6_init s m ([.ref (b + 0)] : List Value).toArray below meth c H locs (20 + 27 * z) (841 + 1123 * z) Q9 (F0 m 25 ls []) := by
    intro z hz kk H locs ls hP hS hl
    have hzS : oS z = 21 + 27 * z := rfl
    have hzS1 : oS (z + 1) = 21 + 27 * (z + 1) := rfl
    refine lv_iload_n hx hb dX6_init_25 rfl (lv_at hl 0 rfl) ?_
    refine lv_iconst (v := nI 4) hx hb dX6_init_26 (by decide) ?_
    refine lv_icmp_ge (tgt := 54) hx hb dX6_init_27 (by decide) (fun q => ?_) (fun q => ?_)
    · exact absurd ((nI_leI (by omega) (by omega)).mp q) (by omega)
    refine lv_aload_n hx hb dX6_init_30 rfl (lv_at hl 1 rfl) ?_
    refine g_get F hK hP inA6 0 (pW_at (by omega) |>.trans (by rw [bld_k])) rfl 1 (by decide) wd_185 (v := .ref (b + 20)) rfl dX6_init_31 ?_
    refine lv_iload_n hx hb dX6_init_34 rfl (lv_at hl 0 rfl) ?_
    refine z_newd (ci := 4) F hK hP hS (by omega) (by omega) inA4 tyX4 tyX4_ok wd_76 wd_78 wd_5 rfl dfX4 (by show 20 + 27 * z + 1 ≤ 135; omega) (by show 841 + 1123 * z + 6 ≤ 6513; omega) dX6_init_35 dX6_init_38 (fun H hP hS => ?_)
    refine lv_iload_n hx hb dX6_init_39 rfl (lv_at hl 0 rfl) ?_
    refine lv_aload_n hx hb dX6_init_40 rfl (lv_at hl 1 rfl) ?_
    refine g_get F hK hP inA6 0 (pW_at (by omega) |>.trans (by rw [fu_ne (by omega), bld_k])) rfl 0 (by decide) wd_184 (v := .ref (b + 1)) rfl dX6_init_41 ?_
    refine z_call (na := 2) (k := oS z) F hK hP hS (by omega) (by omega) [.int (nI z), .ref (b + 1)] (c_X4_init l D cI cA b z hz (fu _ _ _) fu_eq) wd_79 wd_80 wd_5 wd_81 hd_X4_init rfl rfl ⟨Nat.le_of_ble_eq_true rfl, Nat.le_of_ble_eq_true rfl⟩ rfl hl (rest := [.ref (b + oS z), .int (nI z), .ref (b + 20)]) rfl (Nat.le_of_ble_eq_true rfl) dX6_init_44 ⟨by show 20 + 27 * z + 1 + 26 ≤ 135; omega, by show 841 + 1123 * z + 6 + 1117 ≤ 6513; omega⟩ (fun H locs hP hS => ?_)
    have hP : va_P D vwCl (pW b (bld f 0 6 [.ref (b + 1), .ref (b + 20), .null] (g6 cI cA b z)) (oS z + 27)) H := Eq.mp (congrArg (fun w => va_P D vwCl w H) (mix_bld (by omega) (fun i h1 h2 => by unfold g6; rw [fu_ne (by omega)]))) hP
    have hsite : (pW b (bld f 0 6 [.ref (b + 1), .ref (b + 20), .null] (g6 cI cA b z)) (oS z + 27))[oS z]? = some (b + oS z, .inr (4, [.ref (b + oT z), .ref (b + oL z), .int (nI z), .ref (b + (oS z + 1)), .ref (b + (oS z + 3)), .int (gi S0C (oS z))])) := by
      rw [pW_at (by omega), bld_gt (by omega)]
      unfold g6
      rw [fu_ne (by omega), gC_of (by omega) (wC_S hz)]
    have harr : (pW b (bld f 0 6 [.ref (b + 1), .ref (b + 20), .null] (g6 cI cA b z)) (oS z + 27))[20]? = some (b + 20, .inl (cA, 4, .inr (.inr (.inr (.inr (aT b z)))))) := by
      rw [pW_at (by omega), bld_gt (by omega)]
      unfold g6
      rw [fu_eq]
      rfl
    refine va_astq hx hb hK hP pW_D hS 20 1 (oS z) 4 (r := (RX4, TX4, 6)) harr rfl hsite rfl (nI_in (by omega) (by omega)) dX6_init_47 (fun H1 locs1 h1 h2 h3 => ?_)
    rw [pW_set (by omega), nI_clamp (by omega)] at h1
    have hP : va_P D vwCl (pW b (bld f 0 6 [.ref (b + 1), .ref (b + 20), .null] (g6 cI cA b (z + 1))) (oS (z + 1))) H1 := by
      have : pW b (fu (bld f 0 6 [.ref (b + 1), .ref (b + 20), .null] (g6 cI cA b z)) 20 (.inl (cA, 4, .inr (.inr (.inr (.inr (va_up (aT b z) z (some (b + oS z)))))))) ) (oS z + 27) = pW b (bld f 0 6 [.ref (b + 1), .ref (b + 20), .null] (g6 cI cA b (z + 1))) (oS (z + 1)) := by
        rw [show oS (z + 1) = oS z + 27 by omega]
        refine pW_congr (fun i hi => ?_)
        by_cases h : i = 20
        · rw [h, fu_eq, bld_gt (by decide)]
          unfold g6 aE
          rw [fu_eq]
          have e : va_up (aT b z) z (some (b + oS z)) = aT b (z + 1) := by
            funext j
            unfold va_up aT
            by_cases hj : j = z
            · rw [if_pos hj, if_pos (by omega), hj]
            · rw [if_neg hj]
              by_cases hj2 : j < z
              · rw [if_pos hj2, if_pos (by omega)]
              · rw [if_neg hj2, if_neg (by omega)]
          rw [e]
        · rw [fu_ne h]
          by_cases h5 : i = 0
          · rw [h5, bld_k, bld_k]
          · rw [bld_gt (by omega), bld_gt (by omega)]
            unfold g6
            rw [fu_ne h, fu_ne h]
      rw [← this]
      exact h1
    refine lv_iinc (v := nI (z + 1)) (lv' := [(1, .int (nI (z + 1))), (0, .ref (b + 0))]) hx hb dX6_init_48 hl (k := 0) rfl (nI_1 z) (by decide) rfl (fun ls hl => ?_)
    refine lv_goto (tgt := 25) hx hb dX6_init_51 (by decide) ?_
    have h9 := kk H1 locs1 ls hP h3 hl
    rw [show 20 + 27 * (z + 1) = 20 + 27 * z + 1 + 26 by omega, show 841 + 1123 * (z + 1) = 841 + 1123 * z + 6 + 1117 by omega] at h9
    exact h9
  have fin : ∀ (H : Heap) (locs : List Loc) (ls : Array Slot), va_P D vwCl (pW b (bld f 0 6 [.ref (b + 1), .ref (b + 20), .null] (g6 cI cA b 4)) (oS 4)) H → va_S (AP b) s.heap H locs → lv_has ls 2 [(1, .int (nI 4)), (0, .ref (b + 0))] → W p l e rm_X6_init s m ([.ref (b + 0)] : List Value).toArray below meth c H locs 128 5333 Q9 (F0 m 25 ls []) := by
    intro H locs ls hP hS hl
    have hP : va_P D vwCl (pW b (bld f 0 6 [.ref (b + 1), .ref (b + 20), .null] (g6 cI cA b 4)) 129) H := hP
    refine lv_iload_n hx hb dX6_init_25 rfl (lv_at hl 0 rfl) ?_
    refine lv_iconst (v := nI 4) hx hb dX6_init_26 (by decide) ?_
    refine lv_icmp_ge (tgt := 54) hx hb dX6_init_27 (by decide) (fun q => ?_) (fun q => absurd (nI_le (Nat.le_refl 4) (by decide)) q)
    refine lv_aload_n hx hb dX6_init_54 rfl (lv_at hl 1 rfl) ?_
    refine z_newd (ci := 3) F hK hP hS (by omega) (by omega) inA3 tyX3 tyX3_ok wd_163 wd_164 wd_8 rfl dfX3 (Nat.le_of_ble_eq_true rfl) (Nat.le_of_ble_eq_true rfl) dX6_init_55 dX6_init_58 (fun H hP hS => ?_)
    refine lv_aload_n hx hb dX6_init_59 rfl (lv_at hl 1 rfl) ?_
    refine g_get F hK hP inA6 0 (pW_at (by omega) |>.trans (by rw [fu_ne (by omega), bld_k])) rfl 1 (by decide) wd_185 (v := .ref (b + 20)) rfl dX6_init_60 ?_
    refine lv_iconst (v := nI 0) hx hb dX6_init_63 (by decide) ?_
    have harr : (pW b (fu (bld f 0 6 [.ref (b + 1), .ref (b + 20), .null] (g6 cI cA b 4)) 129 (.inr (3, [.null, .null, .null, .null]))) (129 + 1))[20]? = some (b + 20, .inl (cA, 4, .inr (.inr (.inr (.inr (aT b 4)))))) := by
      rw [pW_at (by decide), fu_ne (by decide), bld_gt (by decide)]
      unfold g6
      rw [fu_eq]
      rfl
    refine va_aldq hx hb hK hP 20 1 harr rfl (nI_in (by decide) (by decide)) dX6_init_64 ?_
    have hval : va_rf (aT b 4 (nI 0).toNatClampNeg) = .ref (b + oS 0) := rfl
    rw [hval]
    refine g_get F hK hP inA4 (oS 0) (fs := [.ref (b + oT 0), .ref (b + oL 0), .int (nI 0), .ref (b + (oS 0 + 1)), .ref (b + (oS 0 + 3)), .int (gi S0C (oS 0))]) (ci := 4) (pW_at (by decide) |>.trans (by rw [fu_ne (by decide), bld_gt (by decide)]; unfold g6; rw [fu_ne (by decide), gC_of (by decide) (wC_S (by decide))])) rfl 1 (by decide) wd_145 (v := .ref (b + oL 0)) rfl dX6_init_65 ?_
    refine z_call (na := 1) (k := 129) F hK hP hS (by omega) (by omega) [.ref (b + oL 0)] (c_X3_init l D cI cA b (fu _ _ _) fu_eq) wd_165 wd_166 wd_8 wd_167 hd_X3_init rfl rfl ⟨Nat.le_of_ble_eq_true rfl, Nat.le_of_ble_eq_true rfl⟩ rfl hl (rest := [.ref (b + 129), .ref (b + 0)]) rfl (Nat.le_of_ble_eq_true rfl) dX6_init_68 ⟨Nat.le_of_ble_eq_true rfl, Nat.le_of_ble_eq_true rfl⟩ (fun H locs hP hS => ?_)
    have hP : va_P D vwCl (pW b (bld f 0 6 [.ref (b + 1), .ref (b + 20), .null] (g6 cI cA b 4)) 136) H := Eq.mp (congrArg (fun w => va_P D vwCl w H) (mix_bld (by decide) (fun i h1 h2 => by unfold g6; rw [fu_ne (by omega)]))) hP
    refine z_put F hname hK hP hS inA6 tyX6 tyX6_ok nmX6 (k := 0) (by omega) bld_k rfl 2 (by decide) wd_186 rfl rfl (ty := tyX6 2) (by decide +kernel) rfl rfl (Nat.le_of_ble_eq_true rfl) dX6_init_71 (fun H locs hP hS => ?_)
    rw [bld_put] at hP
    have hP : va_P D vwCl (pW b (bld f 0 6 [.ref (b + 1), .ref (b + 20), .ref (b + 129)] (g6 cI cA b 4)) 136) H := hP
    have hP : va_P D vwCl (pW b (gC cI cA b) 136) H := by
      refine va_P_cell hP (fun i hi => ?_)
      by_cases h0 : i = 0
      · rw [h0, bld_k]
        exact Or.inl (gC_of (by decide) wC_M).symm
      · rw [bld_gt (by omega)]
        unfold g6
        by_cases h : i = 20
        · rw [h, fu_eq]
          refine Or.inr ⟨cA, 4, aT b 4, fun j => some (b + oS j), rfl, gC_of (by decide) wC_AA, fun j hj => ?_⟩
          unfold aT
          rw [if_pos hj]
        · rw [fu_ne h]
          exact Or.inl rfl
    exact z_vret F hr hlocks hQ9 rfl rfl hK hP hS dX6_init_74
  rw [← hQ9]
  exact step 0 (by decide) (step 1 (by decide) (step 2 (by decide) (step 3 (by decide) fin))) H locs ls hP hS hl
