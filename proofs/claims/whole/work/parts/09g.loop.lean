/-! THE LAW'S LOOP -/
theorem and15 (v : Int32) : ∃ q, q < 16 ∧ v &&& 15 = nI q := by
  refine ⟨(v.toBitVec &&& 15#32).toNat, ?_, ?_⟩
  · rw [BitVec.toNat_and]
    exact Nat.lt_of_le_of_lt Nat.and_le_right (by decide)
  · refine Int32.toBitVec_inj.mp ?_
    show v.toBitVec &&& 15#32 = BitVec.ofNat 32 (v.toBitVec &&& 15#32).toNat
    rw [BitVec.ofNat_toNat, BitVec.setWidth_eq]
theorem lim5 {L i : Nat} (hL : L ≤ 3000) (hi : i ≤ 3000) : (nI L - 5 < nI i) ↔ L < i + 5 := by
  by_cases h : 5 ≤ L
  · rw [show (5 : Int32) = nI 5 from rfl, nI_sub h, nI_ltI (by omega) (by omega)]
    omega
  · refine ⟨fun _ => by omega, fun _ => ?_⟩
    rw [Int32.lt_iff_toInt_lt, nI_toInt (by omega)]
    have key : ∀ k, k < 5 → (nI k - 5).toInt < 0 := by decide
    have := key L (by omega)
    omega
set_option maxRecDepth 100000 in
set_option maxHeartbeats 8000000 in
theorem law_loop {p : Program} {l : Launch} {e : Env} {s : State} {m : MethodId} {args : Array Value} {below : List Frame} {meth : Method} {c : Code} {Q : State → Prop} {D : va_G} {cI cO cJ cZ : ClassId} {bs L : Nat} {xs : Nat → Int32} (C : LC p l s m args c D cI cO cJ cZ bs L xs)
    (fin : ∀ (H : Heap) (locs : List Loc) (ls : Array Slot) (cells slots : Nat), va_S (A0L s) s.heap H locs → cells ≤ room_1.cells → slots ≤ room_1.slots → W p l e room_1 s m args below meth c H locs cells slots Q (F0 m 1084 ls [])) :
    ∀ (d t : Nat), 513 - t ≤ d → t ≤ 512 → ∀ (H : Heap) (locs : List Loc) (ls : Array Slot) (S : St) (fl : Nat → Int64) (SM : St) (G : Hs), LSt D cI cO cJ cZ s H locs S fl SM G → lv_has ls 7 (ltop s bs (5 * t)) → W p l e room_1 s m args below meth c H locs (161 + 5 * t) (11316 + 30 * t) Q (F0 m 23 ls []) := by
  intro d
  induction d with
  | zero => intro t h1 h2; omega
  | succ d ih =>
    intro t ht1 ht2 H locs ls S fl SM G hW hl
    obtain ⟨F, hfl, hX, hN, hK, hKJ, hKM, hXs, hbl, hL⟩ := id C
    have hx := F.1
    have hb := F.2.1
    have hS := hW.2.2.2.1
    have hbA : ¬ A0L s bs := fun h => by unfold A0L at h; omega
    refine lv_iload hx hb dL_law_23 (lv_at hl 0 rfl) ?_
    refine lv_aload_n hx hb dL_law_25 rfl (lv_at hl 4 rfl) ?_
    refine va_slen hx hb hXs hbl hbA hS dL_law_26 ?_
    refine lv_iconst (v := 5) hx hb dL_law_27 (by decide) ?_
    refine lv_isub hx hb dL_law_28 ?_
    refine lv_icmp_gt (tgt := 1084) hx hb dL_law_29 (by decide) (fun q => ?_) (fun q => ?_)
    · exact fin H locs ls _ _ hS (by show 161 + 5 * t ≤ 601024; omega) (by show 11316 + 30 * t ≤ 7293034; omega)
    have hi : 5 * t + 5 ≤ L := by
      rcases Nat.lt_or_ge L (5 * t + 5) with r | r
      · exact absurd ((lim5 (by omega) (by omega)).mpr r) q
      · exact r
    have hrm : 161 + 5 * t + 5 ≤ room_1.cells ∧ 11316 + 30 * t + 30 ≤ room_1.slots := ⟨by show 161 + 5 * t + 5 ≤ 601024; omega, by show 11316 + 30 * t + 30 ≤ 7293034; omega⟩
    have next : ∀ (H1 : Heap) (locs1 : List Loc) (ls1 : Array Slot) (S1 : St) (fl1 : Nat → Int64) (SM1 : St) (G1 : Hs), LSt D cI cO cJ cZ s H1 locs1 S1 fl1 SM1 G1 → lv_has ls1 7 (ltop s bs (5 * t)) → W p l e room_1 s m args below meth c H1 locs1 (161 + 5 * t + 5) (11316 + 30 * t + 30) Q (F0 m 1078 ls1 []) := by
      intro H1 locs1 ls1 S1 fl1 SM1 G1 hW1 hl1
      refine lv_iinc (v := nI (5 * (t + 1))) (lv' := ltop s bs (5 * (t + 1))) hx hb dL_law_1078 hl1 (k := 0) rfl ?_ (by decide) rfl (fun ls hl => ?_)
      · show nI (5 * t) + nI 5 = nI (5 * (t + 1))
        rw [nI_add]
        rfl
      · refine lv_goto (tgt := 23) hx hb dL_law_1081 (by decide) ?_
        exact ih (t + 1) (by omega) (by omega) H1 locs1 ls S1 fl1 SM1 G1 hW1 hl
    refine lv_aload_n hx hb dL_law_32 rfl (lv_at hl 4 rfl) ?_
    refine lv_iload hx hb dL_law_33 (lv_at hl 0 rfl) ?_
    refine va_sld hx hb hXs hbl hbA hS (nI_in (by omega) (by omega)) dL_law_35 ?_
    refine lv_bipush (v := 15) hx hb dL_law_36 (by decide) ?_
    refine lv_iand hx hb dL_law_38 ?_
    obtain ⟨k, hk, hke⟩ := and15 (xs (nI (5 * t)).toNatClampNeg)
    rw [hke]
    have hk16 : k = 0 ∨ k = 1 ∨ k = 2 ∨ k = 3 ∨ k = 4 ∨ k = 5 ∨ k = 6 ∨ k = 7 ∨ k = 8 ∨ k = 9 ∨ k = 10 ∨ k = 11 ∨ k = 12 ∨ k = 13 ∨ k = 14 ∨ k = 15 := by omega
    rcases hk16 with rfl | rfl | rfl | rfl | rfl | rfl | rfl | rfl | rfl | rfl | rfl | rfl | rfl | rfl | rfl | rfl
    · refine lv_tableIn (x := nI 0) (off := 77) (tgt := 116) hx hb dL_law_39 (by decide) (by decide) (by decide) (by decide) ?_
      exact case_insert C hW hi hl hrm next
    · refine lv_tableIn (x := nI 1) (off := 185) (tgt := 224) hx hb dL_law_39 (by decide) (by decide) (by decide) (by decide) ?_
      exact case_remove C hW hi hl hrm next
    · refine lv_tableIn (x := nI 2) (off := 253) (tgt := 292) hx hb dL_law_39 (by decide) (by decide) (by decide) (by decide) ?_
      exact case_note C hW hi hl hrm next
    · refine lv_tableIn (x := nI 3) (off := 333) (tgt := 372) hx hb dL_law_39 (by decide) (by decide) (by decide) (by decide) ?_
      exact case_move C hW hi hl hrm next
    · refine lv_tableIn (x := nI 4) (off := 393) (tgt := 432) hx hb dL_law_39 (by decide) (by decide) (by decide) (by decide) ?_
      exact case_sync C hW hi hl hrm next
    · refine lv_tableIn (x := nI 5) (off := 461) (tgt := 500) hx hb dL_law_39 (by decide) (by decide) (by decide) (by decide) ?_
      exact case_print C hW hi hl hrm next
    · refine lv_tableIn (x := nI 6) (off := 505) (tgt := 544) hx hb dL_law_39 (by decide) (by decide) (by decide) (by decide) ?_
      exact case_sheets C hW hi hl hrm next
    · refine lv_tableIn (x := nI 7) (off := 518) (tgt := 557) hx hb dL_law_39 (by decide) (by decide) (by decide) (by decide) ?_
      exact case_differs C hW hi hl hrm next
    · refine lv_tableIn (x := nI 8) (off := 574) (tgt := 613) hx hb dL_law_39 (by decide) (by decide) (by decide) (by decide) ?_
      exact case_cost C hW hi hl hrm next
    · refine lv_tableIn (x := nI 9) (off := 587) (tgt := 626) hx hb dL_law_39 (by decide) (by decide) (by decide) (by decide) ?_
      exact case_lines C hW hi hl hrm next
    · refine lv_tableIn (x := nI 10) (off := 643) (tgt := 682) hx hb dL_law_39 (by decide) (by decide) (by decide) (by decide) ?_
      exact case_lineAt C hW hi hl hrm next
    · refine lv_tableIn (x := nI 11) (off := 723) (tgt := 762) hx hb dL_law_39 (by decide) (by decide) (by decide) (by decide) ?_
      exact case_lineAnew C hW hi hl hrm next
    · refine lv_tableIn (x := nI 12) (off := 791) (tgt := 830) hx hb dL_law_39 (by decide) (by decide) (by decide) (by decide) ?_
      exact case_noteAt C hW hi hl hrm next
    · refine lv_tableIn (x := nI 13) (off := 859) (tgt := 898) hx hb dL_law_39 (by decide) (by decide) (by decide) (by decide) ?_
      exact case_pages C hW hi hl hrm next
    · refine lv_tableIn (x := nI 14) (off := 915) (tgt := 954) hx hb dL_law_39 (by decide) (by decide) (by decide) (by decide) ?_
      exact case_aheadAnew C hW hi hl hrm next
    · refine lv_tableIn (x := nI 15) (off := 983) (tgt := 1022) hx hb dL_law_39 (by decide) (by decide) (by decide) (by decide) ?_
      exact case_known C hW hi hl hrm next
