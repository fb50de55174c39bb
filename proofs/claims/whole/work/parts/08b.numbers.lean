/-! THE CONSTRUCTOR of Numbers: NONE in each place -/
def fN (cI : ClassId) (b k N : Nat) (f : Nat → va_E) : Nat → va_E := fu (fu f k (.inr (2, [.ref (b + (k + 1)), .int 0]))) (k + 1) (.inl (cI, N, .inl (fun i => if i < N then -1 else 0)))
theorem fu_eq {f : Nat → va_E} {k : Nat} {e : va_E} : fu f k e k = e := if_pos rfl
theorem fu_ne {f : Nat → va_E} {k i : Nat} {e : va_E} (h : i ≠ k) : fu f k e i = f i := if_neg h
def gN (cI : ClassId) (b k N : Nat) (f : Nat → va_E) (t : Nat) : Nat → va_E := fu (fu f k (.inr (2, [.ref (b + (k + 1)), .int 0]))) (k + 1) (.inl (cI, N, .inl (fun i => if i < t then -1 else 0)))
theorem gN_k {cI : ClassId} {b k N t : Nat} {f : Nat → va_E} : gN cI b k N f t k = .inr (2, [.ref (b + (k + 1)), .int 0]) := by unfold gN; rw [fu_ne (by omega), fu_eq]
theorem gN_k1 {cI : ClassId} {b k N t : Nat} {f : Nat → va_E} : gN cI b k N f t (k + 1) = .inl (cI, N, .inl (fun i => if i < t then -1 else 0)) := by unfold gN; rw [fu_eq]
theorem gN_o {cI : ClassId} {b k N t i : Nat} {f : Nat → va_E} (h1 : i ≠ k) (h2 : i ≠ k + 1) : gN cI b k N f t i = f i := by unfold gN; rw [fu_ne h2, fu_ne h1]
abbrev rm_X2_init (N : Nat) : Room := { frames := 1, cells := 1, slots := N, locals := 21 }
theorem hd_X2_init : yX2_init.name = "<init>" ∧ yX2_init.cls ≠ "java/lang/invoke/MethodHandle" ∧ yX2_init.cls ≠ "java/lang/invoke/VarHandle" ∧ (parseMethodDescriptor yX2_init.desc).map (fun d => d.parameters.length) = some 1 := by decide +kernel
set_option maxRecDepth 100000 in
set_option maxHeartbeats 4000000 in
theorem c_X2_init (l : Launch) (D : va_G) (cI cO : ClassId) {tys : List (ClassId × FieldType)} (ht : tys[0]? = some (cI, .int)) (b k N : Nat) (hN : N ≤ 540) (f : Nat → va_E) (hf : f k = .inr (2, [.null, .int 0])) : Met l yX2_init (Cond.code yX2_init cX2_init 3 none :: wsAll) (rm_X2_init N) (PZ D tys b f (k + 1) [.ref (b + k), .int (nI N)]) (QZ D tys b (fN cI b k N f) (k + 2)) 1 N (AP b) := by
  refine z_met RX2 (by decide +kernel) rfl (Nat.le_of_ble_eq_true rfl) rfl ?_
  intro p e s m args below meth c ls Q F hname hr hlocks hsz hK hP hl hQ
  have hx := F.1
  have hb := F.2.1
  have hS : va_S (AP b) s.heap s.heap [] := va_S.rf
  have hl : lv_has ls 3 [(0, .ref (b + k)), (1, .int (nI N))] := hl
  refine lv_aload_n hx hb dX2_init_0 rfl (lv_at hl 0 rfl) ?_
  refine z_obj F wd_36 hl dX2_init_1 (Nat.le_of_ble_eq_true rfl) (Nat.le_of_ble_eq_true rfl) ?_
  refine lv_aload_n hx hb dX2_init_4 rfl (lv_at hl 0 rfl) ?_
  refine lv_iload_n hx hb dX2_init_5 rfl (lv_at hl 1 rfl) ?_
  refine lv_iconst (v := 0) hx hb dX2_init_6 (by decide) ?_
  refine va_mmax hx hb (F.2.2.1.trans hl.1.symm) F.2.2.2.1 (F.2.2.2.2 _ (List.mem_cons_of_mem _ wd_37)) (F.2.2.2.2 _ (List.mem_cons_of_mem _ wd_38)) (F.2.2.2.2 _ (List.mem_cons_of_mem _ wd_4)) (F.2.2.2.2 _ (List.mem_cons_of_mem _ wd_max)) (Nat.le_of_ble_eq_true rfl) (Nat.le_of_ble_eq_true rfl) (Nat.zero_le _) (Nat.zero_le _) dX2_init_7 ?_
  rw [if_neg (show ¬ nI N < 0 from nI_pos (by omega))]
  refine z_newi F hK hP hS (by omega) (by omega) ht (nI_pos (by omega)) (nI_clamp (by omega)) (by omega) (by show 0 + 1 ≤ 1; omega) (by show 0 + N ≤ N; omega) dX2_init_10 (fun H hP hS => ?_)
  refine z_put F hname hK hP hS inA2 tyX2 tyX2_ok nmX2 (k := k) (fs := [.null, .int 0]) (by omega) (by unfold fu; rw [if_neg (by omega)]; exact hf) rfl 0 (by decide) wd_40 rfl rfl (ty := .array .int) (by decide +kernel) rfl rfl (Nat.le_of_ble_eq_true rfl) dX2_init_12 (fun H locs hP hS => ?_)
  refine lv_iconst (v := 0) hx hb dX2_init_15 (by decide) ?_
  refine lv_istore_n (lv' := [(2, .int 0), (0, .ref (b + k)), (1, .int (nI N))]) hx hb dX2_init_16 rfl hl (by decide) rfl (fun ls hl => ?_)
  obtain ⟨g, hg⟩ : ∃ g : Nat → Nat → va_E, g = gN cI b k N f := ⟨_, rfl⟩
  have hgk : ∀ t, g t k = .inr (2, [.ref (b + (k + 1)), .int 0]) := fun t => by rw [hg]; exact gN_k
  have hgk1 : ∀ t, g t (k + 1) = .inl (cI, N, .inl (fun i => if i < t then -1 else 0)) := fun t => by rw [hg]; exact gN_k1
  have hgo : ∀ t i, i ≠ k → i ≠ k + 1 → g t i = f i := fun t i h1 h2 => by rw [hg]; exact gN_o h1 h2
  have hg0 : pW b (fu (fu f (k + 1) (.inl (cI, N, .inl (fun _ => 0)))) k (.inr (2, ([.null, .int 0] : List Value).set 0 (.ref (b + (k + 1)))))) (k + 1 + 1) = pW b (g 0) (k + 2) := by
    refine pW_congr (fun i hi => ?_)
    by_cases h1 : i = k
    · rw [h1, fu_eq, hgk]
      rfl
    · by_cases h2 : i = k + 1
      · rw [h2, fu_ne (by omega), fu_eq, hgk1]
        have e : (fun _ => 0 : Nat → Int32) = (fun i => if i < 0 then -1 else 0) := by
          funext i
          rw [if_neg (Nat.not_lt_zero i)]
        rw [e]
      · rw [fu_ne h1, fu_ne h2, hgo 0 i h1 h2]
  rw [hg0] at hP
  have loop : ∀ d t, N - t ≤ d → t ≤ N → ∀ (H : Heap) (locs : List Loc) (ls : Array Slot), va_P D vwCl (pW b (g t) (k + 2)) H → va_S (AP b) s.heap H locs → lv_has ls 3 [(2, .int (nI t)), (0, .ref (b + k)), (1, .int (nI N))] → W p l e (rm_X2_init N) s m args below meth c H locs (0 + 1) (0 + N) Q (F0 m 17 ls []) := by
    intro d
    induction d with
    | zero =>
      intro t hd ht2 H locs ls hP hS hl
      have htN : t = N := by omega
      refine lv_iload_n hx hb dX2_init_17 rfl (lv_at hl 0 rfl) ?_
      refine lv_aload_n hx hb dX2_init_18 rfl (lv_at hl 1 rfl) ?_
      refine g_get F hK hP inA2 k (pW_at (by omega) |>.trans (by rw [hgk])) rfl 0 (by decide) wd_40 (v := .ref (b + (k + 1))) rfl dX2_init_19 ?_
      refine va_alen hx hb hK hP (k + 1) 0 (pW_at (by omega) |>.trans (by rw [hgk1])) ht (v := nI N) rfl dX2_init_22 ?_
      refine lv_icmp_ge (tgt := 39) hx hb dX2_init_23 (by decide) (fun q => ?_) (fun q => absurd (nI_le (by omega) (by omega)) q)
      have hfin : g t = fN cI b k N f := by rw [hg, htN]; rfl
      rw [hfin] at hP
      exact z_vret F hr hlocks hQ (by omega) (by omega) hK hP hS dX2_init_39
    | succ d ih =>
      intro t hd ht2 H locs ls hP hS hl
      refine lv_iload_n hx hb dX2_init_17 rfl (lv_at hl 0 rfl) ?_
      refine lv_aload_n hx hb dX2_init_18 rfl (lv_at hl 1 rfl) ?_
      refine g_get F hK hP inA2 k (pW_at (by omega) |>.trans (by rw [hgk])) rfl 0 (by decide) wd_40 (v := .ref (b + (k + 1))) rfl dX2_init_19 ?_
      refine va_alen hx hb hK hP (k + 1) 0 (pW_at (by omega) |>.trans (by rw [hgk1])) ht (v := nI N) rfl dX2_init_22 ?_
      refine lv_icmp_ge (tgt := 39) hx hb dX2_init_23 (by decide) (fun q => ?_) (fun q => ?_)
      · have htN : t = N := by
          have := (nI_leI (by omega) (by omega)).mp q
          omega
        have hfin : g t = fN cI b k N f := by rw [hg, htN]; rfl
        rw [hfin] at hP
        exact z_vret F hr hlocks hQ (by omega) (by omega) hK hP hS dX2_init_39
      · have htN : t < N := by
          rcases Nat.lt_or_ge t N with r | r
          · exact r
          · exact absurd (nI_le r (by omega)) q
        refine lv_aload_n hx hb dX2_init_26 rfl (lv_at hl 1 rfl) ?_
        refine g_get F hK hP inA2 k (pW_at (by omega) |>.trans (by rw [hgk])) rfl 0 (by decide) wd_40 (v := .ref (b + (k + 1))) rfl dX2_init_27 ?_
        refine lv_iload_n hx hb dX2_init_30 rfl (lv_at hl 0 rfl) ?_
        refine lv_iconst (v := -1) hx hb dX2_init_31 (by decide) ?_
        refine va_iast hx hb hK hP pW_D hS (k + 1) 0 (pW_at (by omega) |>.trans (by rw [hgk1])) ht (nI_in htN (by omega)) dX2_init_32 (fun H1 locs1 h1 h2 h3 => ?_)
        rw [pW_set (by omega), nI_clamp (by omega)] at h1
        have hstep : pW b (fu (g t) (k + 1) (.inl (cI, N, .inl (upd (fun i => if i < t then -1 else 0) t (-1))))) (k + 2) = pW b (g (t + 1)) (k + 2) := by
          refine pW_congr (fun i hi => ?_)
          by_cases h2 : i = k + 1
          · rw [h2, hgk1, fu_eq]
            have e : upd (fun i => if i < t then -1 else 0) t (-1) = (fun i => if i < t + 1 then -1 else 0 : Nat → Int32) := by
              funext j
              by_cases hj : j = t
              · rw [hj, upd_eq, if_pos (by omega)]
              · rw [upd_ne hj]
                by_cases hj2 : j < t
                · rw [if_pos hj2, if_pos (by omega)]
                · rw [if_neg hj2, if_neg (by omega)]
            rw [e]
          · rw [fu_ne h2]
            by_cases h3 : i = k
            · rw [h3, hgk, hgk]
            · rw [hgo t i h3 h2, hgo (t + 1) i h3 h2]
        rw [hstep] at h1
        refine lv_iinc (v := nI (t + 1)) (lv' := [(2, .int (nI (t + 1))), (0, .ref (b + k)), (1, .int (nI N))]) hx hb dX2_init_33 hl (k := 0) rfl (nI_1 t) (by decide) rfl (fun ls hl => ?_)
        refine lv_goto (tgt := 17) hx hb dX2_init_36 (by decide) ?_
        exact ih (t + 1) (by omega) htN H1 locs1 ls h1 h3 hl
  exact loop N 0 (by omega) (Nat.zero_le _) H locs ls hP hS hl
