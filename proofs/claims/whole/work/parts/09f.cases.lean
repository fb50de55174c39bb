/-! THE CASES OF THE LAW: printed by wip/gen/lawcase.py -/
set_option maxRecDepth 100000 in
set_option maxHeartbeats 4000000 in
theorem case_insert {p : Program} {l : Launch} {e : Env} {s : State} {m : MethodId} {args : Array Value} {below : List Frame} {meth : Method} {c : Code} {H : Heap} {locs : List Loc} {cells slots : Nat} {Q : State → Prop} {ls : Array Slot} {D : va_G} {cI cO cJ cZ : ClassId} {bs L i : Nat} {xs : Nat → Int32} {S SM : St} {fl : Nat → Int64} {G : Hs} (C : LC p l s m args c D cI cO cJ cZ bs L xs) (hW : LSt D cI cO cJ cZ s H locs S fl SM G) (hi : i + 5 ≤ L) (hl : lv_has ls 7 (ltop s bs i)) (hrm : cells + 5 ≤ room_1.cells ∧ slots + 30 ≤ room_1.slots) (kk : ∀ (H1 : Heap) (locs1 : List Loc) (ls1 : Array Slot) (S1 : St) (fl1 : Nat → Int64) (SM1 : St) (G1 : Hs), LSt D cI cO cJ cZ s H1 locs1 S1 fl1 SM1 G1 → lv_has ls1 7 (ltop s bs i) → W p l e room_1 s m args below meth c H1 locs1 (cells + 5) (slots + 30) Q (F0 m 1078 ls1 [])) : W p l e room_1 s m args below meth c H locs cells slots Q (F0 m 116 ls []) := by
  obtain ⟨F, hfl, hX, hN, hK, hKJ, hKM, hXs, hbl, hL⟩ := id C
  obtain ⟨hP, hO, hMo, hS, hRC, hRM⟩ := hW
  have hx := F.1
  have hb := F.2.1
  refine lv_aload_n hx hb dL_law_116 rfl (lv_at hl 3 rfl) ?_
  refine lv_aload_n hx hb dL_law_117 rfl (lv_at hl 4 rfl) ?_
  refine w_arg C hS hl (k := 0) (i := i) (j := 1) rfl (by omega) (by decide) dL_law_118 dL_law_120 dL_law_121 dL_law_122 ?_
  refine lv_aload_n hx hb dL_law_123 rfl (lv_at hl 4 rfl) ?_
  refine w_arg C hS hl (k := 0) (i := i) (j := 2) rfl (by omega) (by decide) dL_law_124 dL_law_126 dL_law_127 dL_law_128 ?_
  refine lv_aload_n hx hb dL_law_129 rfl (lv_at hl 4 rfl) ?_
  refine w_arg C hS hl (k := 0) (i := i) (j := 3) rfl (by omega) (by decide) dL_law_130 dL_law_132 dL_law_133 dL_law_134 ?_
  refine lv_aload_n hx hb dL_law_135 rfl (lv_at hl 4 rfl) ?_
  refine w_arg C hS hl (k := 0) (i := i) (j := 4) rfl (by omega) (by decide) dL_law_136 dL_law_138 dL_law_139 dL_law_140 ?_
  have cont : ∀ x4 : Int32, (x4 = 0 ∨ x4 = 1) → (xs (i + 4) = 0 → x4 = 0) → (¬ xs (i + 4) = 0 → x4 = 1) → W p l e room_1 s m args below meth c H locs cells slots Q (F0 m 149 ls (.int x4 :: .int (xs (i + 3)) :: .int (xs (i + 2)) :: .int (xs (i + 1)) :: .ref (s.heap.size + 0) :: [])) := by
    intro x4 hx4 h40 h41
    obtain ⟨⟨r, S1⟩, hf, hq, hRC1⟩ := cIns (x1 := (xs (i + 1))) (x2 := (xs (i + 2))) (x3 := (xs (i + 3))) (x4 := x4) hRC
    have hq : r = (aIns G (xs (i + 1)) (xs (i + 2)) (xs (i + 3)) x4).1 := hq
    obtain ⟨⟨v2, SM1⟩, hfm, hm, hRM1⟩ := mIns (x1 := (xs (i + 1))) (x2 := (xs (i + 2))) (x3 := (xs (i + 3))) (x4 := x4) hRM hx4
    have hm : mres mcI r v2 SM1 := by rw [hq]; exact hm
    have hcod : ∀ e, r = .inl e → e ∈ [1, 2, 3] := fun e h => k_ins (H := G) (x1 := (xs (i + 1))) (x2 := (xs (i + 2))) (x3 := (xs (i + 3))) (x4 := x4) e (by rw [← hq]; exact h)
    have hcod2 : ∀ e9, r = .inl e9 → e9 = 1 ∨ e9 = 2 ∨ e9 = 3 := fun e9 h => by simpa using hcod e9 h
    have hne : ∀ e, r = .inl e → ¬ nI (mcI e) = 0 := fun e h => by
      rcases hcod2 e h with rfl | rfl | rfl <;> decide
    refine lv_aload_n hx hb dL_law_149 rfl (lv_at hl 1 rfl) ?_
    refine w_callL F hK hKJ hP hO hS hX hN hAL (fun q h1 h2 => by unfold A0L at h2; omega) [.ref (s.heap.size + 0), .int (xs (i + 1)), .int (xs (i + 2)), .int (xs (i + 3)), .int x4, .ref (s.heap.size + 160)] (c_L_insert l hfl D cI cO cJ s.heap.size (s.heap.size + 160) hoL S fl (xs (i + 1)) (xs (i + 2)) (xs (i + 3)) x4 r S1 hf hcod2) wd_251 wd_252 wd_0 wd_253 hd_L_insert rfl rfl ⟨Nat.le_of_ble_eq_true rfl, Nat.le_of_ble_eq_true rfl⟩ rfl hl (rest := []) rfl (Nat.le_of_ble_eq_true rfl) dL_law_150 ⟨Nat.le_trans (Nat.add_le_add_left (by decide) _) hrm.1, Nat.le_trans (Nat.add_le_add_left (by decide) _) hrm.2⟩ (fun H1 locs1 hP hO hfr hS => ?_)
    have hMo : va_P D vwCl (wM cI cZ (s.heap.size + 136) SM) H1 := wk_kept hMo wM_D (fun q h1 h2 => by unfold AM at h1; rcases h2 with h2 | h2 <;> (try unfold AC at h2) <;> omega) hfr
    refine W.widen (k := cells + 5) (n := slots + 30) (Nat.add_le_add_left (by decide) _) (Nat.add_le_add_left (by decide) _) ?_
    refine lv_istore (lv' := (5, .int (kc mcI r)) :: ltop s bs i) hx hb dL_law_153 hl (by decide) rfl (fun ls hl => ?_)
    refine lv_aload_n hx hb dL_law_155 rfl (lv_at hl 3 rfl) ?_
    refine lv_aload_n hx hb dL_law_156 rfl (lv_at hl 5 rfl) ?_
    refine w_arg C hS hl (k := 1) (i := i) (j := 1) rfl (by omega) (by decide) dL_law_157 dL_law_159 dL_law_160 dL_law_161 ?_
    refine lv_aload_n hx hb dL_law_162 rfl (lv_at hl 5 rfl) ?_
    refine w_arg C hS hl (k := 1) (i := i) (j := 2) rfl (by omega) (by decide) dL_law_163 dL_law_165 dL_law_166 dL_law_167 ?_
    refine lv_aload_n hx hb dL_law_168 rfl (lv_at hl 5 rfl) ?_
    refine w_arg C hS hl (k := 1) (i := i) (j := 3) rfl (by omega) (by decide) dL_law_169 dL_law_171 dL_law_172 dL_law_173 ?_
    refine lv_aload_n hx hb dL_law_174 rfl (lv_at hl 5 rfl) ?_
    refine w_arg C hS hl (k := 1) (i := i) (j := 4) rfl (by omega) (by decide) dL_law_175 dL_law_177 dL_law_178 dL_law_179 ?_
    have cont2 : W p l e room_1 s m args below meth c H1 locs1 (cells + 5) (slots + 30) Q (F0 m 188 ls (.int x4 :: .int (xs (i + 3)) :: .int (xs (i + 2)) :: .int (xs (i + 1)) :: .ref (s.heap.size + 136 + 0) :: [])) := by
      refine w_calli F hKM hMo hS hAM [.int (xs (i + 1)), .int (xs (i + 2)), .int (xs (i + 3)), .int x4] (c_X7_insert l D cI cZ (s.heap.size + 136) SM (xs (i + 1)) (xs (i + 2)) (xs (i + 3)) x4 v2 SM1 hfm) wd_851 wd_852 wd_853 wd_9 wd_854 wM_o rfl hd_X7_insert rfl rfl ⟨Nat.le_of_ble_eq_true rfl, Nat.le_of_ble_eq_true rfl⟩ rfl hl (rest := []) rfl (Nat.le_of_ble_eq_true rfl) dL_law_188 hrm (fun H2 locs2 hMo hfr hS => ?_)
      have hP : va_P D vwCl (wC cI cO s.heap.size S1) H2 := wk_kept hP wC_D (fun q h1 h2 => by unfold AC at h1; unfold AM at h2; omega) hfr
      have hO : va_P D vwCl (oW cJ (s.heap.size + 160) (ou r fl)) H2 := wk_kept hO oW_D (fun q h1 h2 => by unfold AM at h2; omega) hfr
      exact w_tail C ⟨Nat.le_of_ble_eq_true rfl, Nat.le_of_ble_eq_true rfl⟩ hrm (G := (aIns G (xs (i + 1)) (xs (i + 2)) (xs (i + 3)) x4).2) ⟨hP, hO, hMo, hS, hRC1, hRM1⟩ hm hne hl dL_law_191 dL_law_193 dL_law_194 dL_law_197 dL_law_199 (by decide) dL_law_204 dL_law_206 (by decide) dL_law_209 dL_law_210 dL_law_211 dL_law_212 dL_law_214 dL_law_215 dL_law_216 (by decide) dL_law_221 (by decide) (fun H3 locs3 ls3 hW3 hl3 => kk H3 locs3 ls3 S1 (ou r fl) SM1 (aIns G (xs (i + 1)) (xs (i + 2)) (xs (i + 3)) x4).2 hW3 hl3)
    refine lv_if_eq (tgt := 187) hx hb dL_law_180 (by decide) (fun q => ?_) (fun q => ?_)
    · exact lv_iconst (v := x4) hx hb dL_law_187 (by rw [h40 q]; decide) cont2
    · refine lv_iconst (v := x4) hx hb dL_law_183 (by rw [h41 q]; decide) ?_
      exact lv_goto (tgt := 188) hx hb dL_law_184 (by decide) cont2
  refine lv_if_eq (tgt := 148) hx hb dL_law_141 (by decide) (fun q => ?_) (fun q => ?_)
  · refine lv_iconst (v := 0) hx hb dL_law_148 (by decide) ?_
    exact cont 0 (Or.inl rfl) (fun _ => rfl) (fun h => absurd q h)
  · refine lv_iconst (v := 1) hx hb dL_law_144 (by decide) ?_
    refine lv_goto (tgt := 149) hx hb dL_law_145 (by decide) ?_
    exact cont 1 (Or.inr rfl) (fun h => absurd h q) (fun _ => rfl)
set_option maxRecDepth 100000 in
set_option maxHeartbeats 4000000 in
theorem case_remove {p : Program} {l : Launch} {e : Env} {s : State} {m : MethodId} {args : Array Value} {below : List Frame} {meth : Method} {c : Code} {H : Heap} {locs : List Loc} {cells slots : Nat} {Q : State → Prop} {ls : Array Slot} {D : va_G} {cI cO cJ cZ : ClassId} {bs L i : Nat} {xs : Nat → Int32} {S SM : St} {fl : Nat → Int64} {G : Hs} (C : LC p l s m args c D cI cO cJ cZ bs L xs) (hW : LSt D cI cO cJ cZ s H locs S fl SM G) (hi : i + 5 ≤ L) (hl : lv_has ls 7 (ltop s bs i)) (hrm : cells + 5 ≤ room_1.cells ∧ slots + 30 ≤ room_1.slots) (kk : ∀ (H1 : Heap) (locs1 : List Loc) (ls1 : Array Slot) (S1 : St) (fl1 : Nat → Int64) (SM1 : St) (G1 : Hs), LSt D cI cO cJ cZ s H1 locs1 S1 fl1 SM1 G1 → lv_has ls1 7 (ltop s bs i) → W p l e room_1 s m args below meth c H1 locs1 (cells + 5) (slots + 30) Q (F0 m 1078 ls1 [])) : W p l e room_1 s m args below meth c H locs cells slots Q (F0 m 224 ls []) := by
  obtain ⟨F, hfl, hX, hN, hK, hKJ, hKM, hXs, hbl, hL⟩ := id C
  obtain ⟨hP, hO, hMo, hS, hRC, hRM⟩ := hW
  have hx := F.1
  have hb := F.2.1
  refine lv_aload_n hx hb dL_law_224 rfl (lv_at hl 3 rfl) ?_
  refine lv_aload_n hx hb dL_law_225 rfl (lv_at hl 4 rfl) ?_
  refine w_arg C hS hl (k := 0) (i := i) (j := 1) rfl (by omega) (by decide) dL_law_226 dL_law_228 dL_law_229 dL_law_230 ?_
  refine lv_aload_n hx hb dL_law_231 rfl (lv_at hl 4 rfl) ?_
  refine w_arg C hS hl (k := 0) (i := i) (j := 2) rfl (by omega) (by decide) dL_law_232 dL_law_234 dL_law_235 dL_law_236 ?_
  obtain ⟨⟨r, S1⟩, hf, hq, hRC1⟩ := cRem (x1 := (xs (i + 1))) (x2 := (xs (i + 2))) hRC
  have hq : r = (aRem G (xs (i + 1)) (xs (i + 2))).1 := hq
  obtain ⟨⟨v2, SM1⟩, hfm, hm, hRM1⟩ := mRem (x1 := (xs (i + 1))) (x2 := (xs (i + 2))) hRM
  have hm : mres mcR r v2 SM1 := by rw [hq]; exact hm
  have hcod : ∀ e, r = .inl e → e ∈ [1, 4, 3] := fun e h => k_rem (H := G) (x1 := (xs (i + 1))) (x2 := (xs (i + 2))) e (by rw [← hq]; exact h)
  have hcod2 : ∀ e9, r = .inl e9 → e9 = 1 ∨ e9 = 4 ∨ e9 = 3 := fun e9 h => by simpa using hcod e9 h
  have hne : ∀ e, r = .inl e → ¬ nI (mcR e) = 0 := fun e h => by
    rcases hcod2 e h with rfl | rfl | rfl <;> decide
  refine lv_aload_n hx hb dL_law_237 rfl (lv_at hl 1 rfl) ?_
  refine w_callL F hK hKJ hP hO hS hX hN hAL (fun q h1 h2 => by unfold A0L at h2; omega) [.ref (s.heap.size + 0), .int (xs (i + 1)), .int (xs (i + 2)), .ref (s.heap.size + 160)] (c_L_remove l hfl D cI cO cJ s.heap.size (s.heap.size + 160) hoL S fl (xs (i + 1)) (xs (i + 2)) r S1 hf hcod2) wd_530 wd_531 wd_0 wd_532 hd_L_remove rfl rfl ⟨Nat.le_of_ble_eq_true rfl, Nat.le_of_ble_eq_true rfl⟩ rfl hl (rest := []) rfl (Nat.le_of_ble_eq_true rfl) dL_law_238 ⟨Nat.le_trans (Nat.add_le_add_left (by decide) _) hrm.1, Nat.le_trans (Nat.add_le_add_left (by decide) _) hrm.2⟩ (fun H1 locs1 hP hO hfr hS => ?_)
  have hMo : va_P D vwCl (wM cI cZ (s.heap.size + 136) SM) H1 := wk_kept hMo wM_D (fun q h1 h2 => by unfold AM at h1; rcases h2 with h2 | h2 <;> (try unfold AC at h2) <;> omega) hfr
  refine W.widen (k := cells + 5) (n := slots + 30) (Nat.add_le_add_left (by decide) _) (Nat.add_le_add_left (by decide) _) ?_
  refine lv_istore (lv' := (5, .int (kc mcR r)) :: ltop s bs i) hx hb dL_law_241 hl (by decide) rfl (fun ls hl => ?_)
  refine lv_aload_n hx hb dL_law_243 rfl (lv_at hl 3 rfl) ?_
  refine lv_aload_n hx hb dL_law_244 rfl (lv_at hl 5 rfl) ?_
  refine w_arg C hS hl (k := 1) (i := i) (j := 1) rfl (by omega) (by decide) dL_law_245 dL_law_247 dL_law_248 dL_law_249 ?_
  refine lv_aload_n hx hb dL_law_250 rfl (lv_at hl 5 rfl) ?_
  refine w_arg C hS hl (k := 1) (i := i) (j := 2) rfl (by omega) (by decide) dL_law_251 dL_law_253 dL_law_254 dL_law_255 ?_
  refine w_calli F hKM hMo hS hAM [.int (xs (i + 1)), .int (xs (i + 2))] (c_X7_remove l D cI cZ (s.heap.size + 136) SM (xs (i + 1)) (xs (i + 2)) v2 SM1 hfm) wd_877 wd_878 wd_879 wd_9 wd_880 wM_o rfl hd_X7_remove rfl rfl ⟨Nat.le_of_ble_eq_true rfl, Nat.le_of_ble_eq_true rfl⟩ rfl hl (rest := []) rfl (Nat.le_of_ble_eq_true rfl) dL_law_256 hrm (fun H2 locs2 hMo hfr hS => ?_)
  have hP : va_P D vwCl (wC cI cO s.heap.size S1) H2 := wk_kept hP wC_D (fun q h1 h2 => by unfold AC at h1; unfold AM at h2; omega) hfr
  have hO : va_P D vwCl (oW cJ (s.heap.size + 160) (ou r fl)) H2 := wk_kept hO oW_D (fun q h1 h2 => by unfold AM at h2; omega) hfr
  exact w_tail C ⟨Nat.le_of_ble_eq_true rfl, Nat.le_of_ble_eq_true rfl⟩ hrm (G := (aRem G (xs (i + 1)) (xs (i + 2))).2) ⟨hP, hO, hMo, hS, hRC1, hRM1⟩ hm hne hl dL_law_259 dL_law_261 dL_law_262 dL_law_265 dL_law_267 (by decide) dL_law_272 dL_law_274 (by decide) dL_law_277 dL_law_278 dL_law_279 dL_law_280 dL_law_282 dL_law_283 dL_law_284 (by decide) dL_law_289 (by decide) (fun H3 locs3 ls3 hW3 hl3 => kk H3 locs3 ls3 S1 (ou r fl) SM1 (aRem G (xs (i + 1)) (xs (i + 2))).2 hW3 hl3)
set_option maxRecDepth 100000 in
set_option maxHeartbeats 4000000 in
theorem case_note {p : Program} {l : Launch} {e : Env} {s : State} {m : MethodId} {args : Array Value} {below : List Frame} {meth : Method} {c : Code} {H : Heap} {locs : List Loc} {cells slots : Nat} {Q : State → Prop} {ls : Array Slot} {D : va_G} {cI cO cJ cZ : ClassId} {bs L i : Nat} {xs : Nat → Int32} {S SM : St} {fl : Nat → Int64} {G : Hs} (C : LC p l s m args c D cI cO cJ cZ bs L xs) (hW : LSt D cI cO cJ cZ s H locs S fl SM G) (hi : i + 5 ≤ L) (hl : lv_has ls 7 (ltop s bs i)) (hrm : cells + 5 ≤ room_1.cells ∧ slots + 30 ≤ room_1.slots) (kk : ∀ (H1 : Heap) (locs1 : List Loc) (ls1 : Array Slot) (S1 : St) (fl1 : Nat → Int64) (SM1 : St) (G1 : Hs), LSt D cI cO cJ cZ s H1 locs1 S1 fl1 SM1 G1 → lv_has ls1 7 (ltop s bs i) → W p l e room_1 s m args below meth c H1 locs1 (cells + 5) (slots + 30) Q (F0 m 1078 ls1 [])) : W p l e room_1 s m args below meth c H locs cells slots Q (F0 m 292 ls []) := by
  obtain ⟨F, hfl, hX, hN, hK, hKJ, hKM, hXs, hbl, hL⟩ := id C
  obtain ⟨hP, hO, hMo, hS, hRC, hRM⟩ := hW
  have hx := F.1
  have hb := F.2.1
  refine lv_aload_n hx hb dL_law_292 rfl (lv_at hl 3 rfl) ?_
  refine lv_aload_n hx hb dL_law_293 rfl (lv_at hl 4 rfl) ?_
  refine w_arg C hS hl (k := 0) (i := i) (j := 1) rfl (by omega) (by decide) dL_law_294 dL_law_296 dL_law_297 dL_law_298 ?_
  refine lv_aload_n hx hb dL_law_299 rfl (lv_at hl 4 rfl) ?_
  refine w_arg C hS hl (k := 0) (i := i) (j := 2) rfl (by omega) (by decide) dL_law_300 dL_law_302 dL_law_303 dL_law_304 ?_
  refine lv_aload_n hx hb dL_law_305 rfl (lv_at hl 4 rfl) ?_
  refine w_arg C hS hl (k := 0) (i := i) (j := 3) rfl (by omega) (by decide) dL_law_306 dL_law_308 dL_law_309 dL_law_310 ?_
  obtain ⟨⟨r, S1⟩, hf, hq, hRC1⟩ := cNot (x1 := (xs (i + 1))) (x2 := (xs (i + 2))) (x3 := (xs (i + 3))) hRC
  have hq : r = (aNot G (xs (i + 1)) (xs (i + 2)) (xs (i + 3))).1 := hq
  obtain ⟨⟨v2, SM1⟩, hfm, hm, hRM1⟩ := mNot (x1 := (xs (i + 1))) (x2 := (xs (i + 2))) (x3 := (xs (i + 3))) hRM
  have hm : mres mcN r v2 SM1 := by rw [hq]; exact hm
  have hcod : ∀ e, r = .inl e → e ∈ [1, 2, 4, 3] := fun e h => k_not (H := G) (x1 := (xs (i + 1))) (x2 := (xs (i + 2))) (x3 := (xs (i + 3))) e (by rw [← hq]; exact h)
  have hcod2 : ∀ e9, r = .inl e9 → e9 = 1 ∨ e9 = 2 ∨ e9 = 4 ∨ e9 = 3 := fun e9 h => by simpa using hcod e9 h
  have hne : ∀ e, r = .inl e → ¬ nI (mcN e) = 0 := fun e h => by
    rcases hcod2 e h with rfl | rfl | rfl | rfl <;> decide
  refine lv_aload_n hx hb dL_law_311 rfl (lv_at hl 1 rfl) ?_
  refine w_callL F hK hKJ hP hO hS hX hN hAL (fun q h1 h2 => by unfold A0L at h2; omega) [.ref (s.heap.size + 0), .int (xs (i + 1)), .int (xs (i + 2)), .int (xs (i + 3)), .ref (s.heap.size + 160)] (c_L_note l hfl D cI cO cJ s.heap.size (s.heap.size + 160) hoL S fl (xs (i + 1)) (xs (i + 2)) (xs (i + 3)) r S1 hf hcod2) wd_563 wd_564 wd_0 wd_565 hd_L_note rfl rfl ⟨Nat.le_of_ble_eq_true rfl, Nat.le_of_ble_eq_true rfl⟩ rfl hl (rest := []) rfl (Nat.le_of_ble_eq_true rfl) dL_law_312 ⟨Nat.le_trans (Nat.add_le_add_left (by decide) _) hrm.1, Nat.le_trans (Nat.add_le_add_left (by decide) _) hrm.2⟩ (fun H1 locs1 hP hO hfr hS => ?_)
  have hMo : va_P D vwCl (wM cI cZ (s.heap.size + 136) SM) H1 := wk_kept hMo wM_D (fun q h1 h2 => by unfold AM at h1; rcases h2 with h2 | h2 <;> (try unfold AC at h2) <;> omega) hfr
  refine W.widen (k := cells + 5) (n := slots + 30) (Nat.add_le_add_left (by decide) _) (Nat.add_le_add_left (by decide) _) ?_
  refine lv_istore (lv' := (5, .int (kc mcN r)) :: ltop s bs i) hx hb dL_law_315 hl (by decide) rfl (fun ls hl => ?_)
  refine lv_aload_n hx hb dL_law_317 rfl (lv_at hl 3 rfl) ?_
  refine lv_aload_n hx hb dL_law_318 rfl (lv_at hl 5 rfl) ?_
  refine w_arg C hS hl (k := 1) (i := i) (j := 1) rfl (by omega) (by decide) dL_law_319 dL_law_321 dL_law_322 dL_law_323 ?_
  refine lv_aload_n hx hb dL_law_324 rfl (lv_at hl 5 rfl) ?_
  refine w_arg C hS hl (k := 1) (i := i) (j := 2) rfl (by omega) (by decide) dL_law_325 dL_law_327 dL_law_328 dL_law_329 ?_
  refine lv_aload_n hx hb dL_law_330 rfl (lv_at hl 5 rfl) ?_
  refine w_arg C hS hl (k := 1) (i := i) (j := 3) rfl (by omega) (by decide) dL_law_331 dL_law_333 dL_law_334 dL_law_335 ?_
  refine w_calli F hKM hMo hS hAM [.int (xs (i + 1)), .int (xs (i + 2)), .int (xs (i + 3))] (c_X7_note l D cI cZ (s.heap.size + 136) SM (xs (i + 1)) (xs (i + 2)) (xs (i + 3)) v2 SM1 hfm) wd_925 wd_926 wd_927 wd_9 wd_928 wM_o rfl hd_X7_note rfl rfl ⟨Nat.le_of_ble_eq_true rfl, Nat.le_of_ble_eq_true rfl⟩ rfl hl (rest := []) rfl (Nat.le_of_ble_eq_true rfl) dL_law_336 hrm (fun H2 locs2 hMo hfr hS => ?_)
  have hP : va_P D vwCl (wC cI cO s.heap.size S1) H2 := wk_kept hP wC_D (fun q h1 h2 => by unfold AC at h1; unfold AM at h2; omega) hfr
  have hO : va_P D vwCl (oW cJ (s.heap.size + 160) (ou r fl)) H2 := wk_kept hO oW_D (fun q h1 h2 => by unfold AM at h2; omega) hfr
  exact w_tail C ⟨Nat.le_of_ble_eq_true rfl, Nat.le_of_ble_eq_true rfl⟩ hrm (G := (aNot G (xs (i + 1)) (xs (i + 2)) (xs (i + 3))).2) ⟨hP, hO, hMo, hS, hRC1, hRM1⟩ hm hne hl dL_law_339 dL_law_341 dL_law_342 dL_law_345 dL_law_347 (by decide) dL_law_352 dL_law_354 (by decide) dL_law_357 dL_law_358 dL_law_359 dL_law_360 dL_law_362 dL_law_363 dL_law_364 (by decide) dL_law_369 (by decide) (fun H3 locs3 ls3 hW3 hl3 => kk H3 locs3 ls3 S1 (ou r fl) SM1 (aNot G (xs (i + 1)) (xs (i + 2)) (xs (i + 3))).2 hW3 hl3)
set_option maxRecDepth 100000 in
set_option maxHeartbeats 4000000 in
theorem case_move {p : Program} {l : Launch} {e : Env} {s : State} {m : MethodId} {args : Array Value} {below : List Frame} {meth : Method} {c : Code} {H : Heap} {locs : List Loc} {cells slots : Nat} {Q : State → Prop} {ls : Array Slot} {D : va_G} {cI cO cJ cZ : ClassId} {bs L i : Nat} {xs : Nat → Int32} {S SM : St} {fl : Nat → Int64} {G : Hs} (C : LC p l s m args c D cI cO cJ cZ bs L xs) (hW : LSt D cI cO cJ cZ s H locs S fl SM G) (hi : i + 5 ≤ L) (hl : lv_has ls 7 (ltop s bs i)) (hrm : cells + 5 ≤ room_1.cells ∧ slots + 30 ≤ room_1.slots) (kk : ∀ (H1 : Heap) (locs1 : List Loc) (ls1 : Array Slot) (S1 : St) (fl1 : Nat → Int64) (SM1 : St) (G1 : Hs), LSt D cI cO cJ cZ s H1 locs1 S1 fl1 SM1 G1 → lv_has ls1 7 (ltop s bs i) → W p l e room_1 s m args below meth c H1 locs1 (cells + 5) (slots + 30) Q (F0 m 1078 ls1 [])) : W p l e room_1 s m args below meth c H locs cells slots Q (F0 m 372 ls []) := by
  obtain ⟨F, hfl, hX, hN, hK, hKJ, hKM, hXs, hbl, hL⟩ := id C
  obtain ⟨hP, hO, hMo, hS, hRC, hRM⟩ := hW
  have hx := F.1
  have hb := F.2.1
  refine lv_aload_n hx hb dL_law_372 rfl (lv_at hl 3 rfl) ?_
  refine lv_aload_n hx hb dL_law_373 rfl (lv_at hl 4 rfl) ?_
  refine w_arg C hS hl (k := 0) (i := i) (j := 1) rfl (by omega) (by decide) dL_law_374 dL_law_376 dL_law_377 dL_law_378 ?_
  refine lv_aload_n hx hb dL_law_379 rfl (lv_at hl 4 rfl) ?_
  refine w_arg C hS hl (k := 0) (i := i) (j := 2) rfl (by omega) (by decide) dL_law_380 dL_law_382 dL_law_383 dL_law_384 ?_
  refine lv_aload_n hx hb dL_law_385 rfl (lv_at hl 4 rfl) ?_
  refine w_arg C hS hl (k := 0) (i := i) (j := 3) rfl (by omega) (by decide) dL_law_386 dL_law_388 dL_law_389 dL_law_390 ?_
  obtain ⟨⟨r, S1⟩, hf, hq, hRC1⟩ := cMov (x1 := (xs (i + 1))) (x2 := (xs (i + 2))) (x3 := (xs (i + 3))) hRC
  obtain ⟨SM1, hfm, hm, hRM1⟩ := mMov (x1 := (xs (i + 1))) (x2 := (xs (i + 2))) (x3 := (xs (i + 3))) hRM
  have hcod : ∀ e, r = .inl e → e ∈ [1, 4, 3] := fun e h => k_mov (H := G) (x1 := (xs (i + 1))) (x2 := (xs (i + 2))) (x3 := (xs (i + 3))) e (by rw [← hq, h]; rfl)
  have hcod2 : ∀ e9, r = .inl e9 → e9 = 1 ∨ e9 = 4 ∨ e9 = 3 := fun e9 h => by simpa using hcod e9 h
  have hne : ∀ e, r = .inl e → ¬ nI (mcR e) = 0 := fun e h => by
    rcases hcod2 e h with rfl | rfl | rfl <;> decide
  refine w_callL F hK hKJ hP hO hS hX hN hAL (fun q h1 h2 => by unfold A0L at h2; omega) [.ref (s.heap.size + 0), .int (xs (i + 1)), .int (xs (i + 2)), .int (xs (i + 3))] (c_L_move l hfl D cI cO cJ s.heap.size (s.heap.size + 160) hoL S fl (xs (i + 1)) (xs (i + 2)) (xs (i + 3)) r S1 hf hcod2) wd_575 wd_576 wd_0 wd_577 hd_L_move rfl rfl ⟨Nat.le_of_ble_eq_true rfl, Nat.le_of_ble_eq_true rfl⟩ rfl hl (rest := []) rfl (Nat.le_of_ble_eq_true rfl) dL_law_391 ⟨Nat.le_trans (Nat.add_le_add_left (by decide) _) hrm.1, Nat.le_trans (Nat.add_le_add_left (by decide) _) hrm.2⟩ (fun H1 locs1 hP hO hfr hS => ?_)
  have hMo : va_P D vwCl (wM cI cZ (s.heap.size + 136) SM) H1 := wk_kept hMo wM_D (fun q h1 h2 => by unfold AM at h1; rcases h2 with h2 | h2 <;> (try unfold AC at h2) <;> omega) hfr
  refine W.widen (k := cells + 5) (n := slots + 30) (Nat.add_le_add_left (by decide) _) (Nat.add_le_add_left (by decide) _) ?_
  refine lv_istore (lv' := (5, .int (kc mcR r)) :: ltop s bs i) hx hb dL_law_394 hl (by decide) rfl (fun ls hl => ?_)
  refine lv_aload_n hx hb dL_law_396 rfl (lv_at hl 3 rfl) ?_
  refine lv_aload_n hx hb dL_law_397 rfl (lv_at hl 5 rfl) ?_
  refine w_arg C hS hl (k := 1) (i := i) (j := 1) rfl (by omega) (by decide) dL_law_398 dL_law_400 dL_law_401 dL_law_402 ?_
  refine lv_aload_n hx hb dL_law_403 rfl (lv_at hl 5 rfl) ?_
  refine w_arg C hS hl (k := 1) (i := i) (j := 2) rfl (by omega) (by decide) dL_law_404 dL_law_406 dL_law_407 dL_law_408 ?_
  refine lv_aload_n hx hb dL_law_409 rfl (lv_at hl 5 rfl) ?_
  refine w_arg C hS hl (k := 1) (i := i) (j := 3) rfl (by omega) (by decide) dL_law_410 dL_law_412 dL_law_413 dL_law_414 ?_
  refine w_callv F hKM hMo hS hAM [.int (xs (i + 1)), .int (xs (i + 2)), .int (xs (i + 3))] (c_X7_move l D cI cZ (s.heap.size + 136) SM (xs (i + 1)) (xs (i + 2)) (xs (i + 3)) SM1 hfm) wd_929 wd_930 wd_931 wd_9 wd_932 wM_o rfl hd_X7_move rfl rfl ⟨Nat.le_of_ble_eq_true rfl, Nat.le_of_ble_eq_true rfl⟩ rfl hl (rest := []) rfl (Nat.le_of_ble_eq_true rfl) dL_law_415 hrm (fun H2 locs2 hMo hfr hS => ?_)
  have hP : va_P D vwCl (wC cI cO s.heap.size S1) H2 := wk_kept hP wC_D (fun q h1 h2 => by unfold AC at h1; unfold AM at h2; omega) hfr
  have hO : va_P D vwCl (oW cJ (s.heap.size + 160) fl) H2 := wk_kept hO oW_D (fun q h1 h2 => by unfold AM at h2; omega) hfr
  have hth : gi SM1 0 = kc mcR r := by
    cases r with
    | inl e => exact hm.1 e (by rw [← hq]; rfl)
    | inr w => exact (hm.2 0 (by rw [← hq]; rfl)).1
  refine lv_aload_n hx hb dL_law_418 rfl (lv_at hl 3 rfl) ?_
  refine w_calli F hKM hMo hS hAM [] (c_X7_thrown l D cI cZ (s.heap.size + 136) SM1 (gi SM1 0) rfl) wd_847 wd_848 wd_849 wd_9 wd_850 wM_o rfl hd_X7_thrown rfl rfl ⟨Nat.le_of_ble_eq_true rfl, Nat.le_of_ble_eq_true rfl⟩ rfl hl (rest := []) rfl (Nat.le_of_ble_eq_true rfl) dL_law_419 hrm (fun H3 locs3 hMo hfr hS => ?_)
  have hP : va_P D vwCl (wC cI cO s.heap.size S1) H3 := wk_kept hP wC_D (fun q h1 h2 => by unfold AC at h1; unfold AM at h2; omega) hfr
  have hO : va_P D vwCl (oW cJ (s.heap.size + 160) fl) H3 := wk_kept hO oW_D (fun q h1 h2 => by unfold AM at h2; omega) hfr
  refine lv_iload hx hb dL_law_422 (lv_at hl 0 rfl) ?_
  refine lv_icmp_eq (tgt := 429) hx hb dL_law_424 (by decide) (fun _ => ?_) (fun q => absurd hth q)
  refine lv_goto (tgt := 1078) hx hb dL_law_429 (by decide) ?_
  exact kk H3 locs3 ls S1 fl SM1 (aMov G (xs (i + 1)) (xs (i + 2)) (xs (i + 3))).2 ⟨hP, hO, hMo, hS, hRC1, hRM1⟩ (lv_sub hl [1, 2, 3, 4, 5] rfl)
set_option maxRecDepth 100000 in
set_option maxHeartbeats 4000000 in
theorem case_sync {p : Program} {l : Launch} {e : Env} {s : State} {m : MethodId} {args : Array Value} {below : List Frame} {meth : Method} {c : Code} {H : Heap} {locs : List Loc} {cells slots : Nat} {Q : State → Prop} {ls : Array Slot} {D : va_G} {cI cO cJ cZ : ClassId} {bs L i : Nat} {xs : Nat → Int32} {S SM : St} {fl : Nat → Int64} {G : Hs} (C : LC p l s m args c D cI cO cJ cZ bs L xs) (hW : LSt D cI cO cJ cZ s H locs S fl SM G) (hi : i + 5 ≤ L) (hl : lv_has ls 7 (ltop s bs i)) (hrm : cells + 5 ≤ room_1.cells ∧ slots + 30 ≤ room_1.slots) (kk : ∀ (H1 : Heap) (locs1 : List Loc) (ls1 : Array Slot) (S1 : St) (fl1 : Nat → Int64) (SM1 : St) (G1 : Hs), LSt D cI cO cJ cZ s H1 locs1 S1 fl1 SM1 G1 → lv_has ls1 7 (ltop s bs i) → W p l e room_1 s m args below meth c H1 locs1 (cells + 5) (slots + 30) Q (F0 m 1078 ls1 [])) : W p l e room_1 s m args below meth c H locs cells slots Q (F0 m 432 ls []) := by
  obtain ⟨F, hfl, hX, hN, hK, hKJ, hKM, hXs, hbl, hL⟩ := id C
  obtain ⟨hP, hO, hMo, hS, hRC, hRM⟩ := hW
  have hx := F.1
  have hb := F.2.1
  refine lv_aload_n hx hb dL_law_432 rfl (lv_at hl 3 rfl) ?_
  refine lv_aload_n hx hb dL_law_433 rfl (lv_at hl 4 rfl) ?_
  refine w_arg C hS hl (k := 0) (i := i) (j := 1) rfl (by omega) (by decide) dL_law_434 dL_law_436 dL_law_437 dL_law_438 ?_
  refine lv_aload_n hx hb dL_law_439 rfl (lv_at hl 4 rfl) ?_
  refine w_arg C hS hl (k := 0) (i := i) (j := 2) rfl (by omega) (by decide) dL_law_440 dL_law_442 dL_law_443 dL_law_444 ?_
  obtain ⟨⟨r, S1⟩, hf, hq, hRC1⟩ := cSyn (x1 := (xs (i + 1))) (x2 := (xs (i + 2))) hRC
  have hq : r = (aSyn G (xs (i + 1)) (xs (i + 2))).1 := hq
  obtain ⟨⟨v2, SM1⟩, hfm, hm, hRM1⟩ := mSyn (x1 := (xs (i + 1))) (x2 := (xs (i + 2))) hRM
  have hm : mres mcI r v2 SM1 := by rw [hq]; exact hm
  have hcod : ∀ e, r = .inl e → e ∈ [1] := fun e h => k_syn (H := G) (x1 := (xs (i + 1))) (x2 := (xs (i + 2))) e (by rw [← hq]; exact h)
  have hcod2 : ∀ e9, r = .inl e9 → e9 = 1 := fun e9 h => by simpa using hcod e9 h
  have hne : ∀ e, r = .inl e → ¬ nI (mcI e) = 0 := fun e h => by
    rcases hcod2 e h with rfl <;> decide
  refine lv_aload_n hx hb dL_law_445 rfl (lv_at hl 1 rfl) ?_
  refine w_callL F hK hKJ hP hO hS hX hN hAL (fun q h1 h2 => by unfold A0L at h2; omega) [.ref (s.heap.size + 0), .int (xs (i + 1)), .int (xs (i + 2)), .ref (s.heap.size + 160)] (c_L_sync l hfl D cI cO cJ s.heap.size (s.heap.size + 160) hoL S fl (xs (i + 1)) (xs (i + 2)) r S1 hf hcod2) wd_588 wd_589 wd_0 wd_590 hd_L_sync rfl rfl ⟨Nat.le_of_ble_eq_true rfl, Nat.le_of_ble_eq_true rfl⟩ rfl hl (rest := []) rfl (Nat.le_of_ble_eq_true rfl) dL_law_446 ⟨Nat.le_trans (Nat.add_le_add_left (by decide) _) hrm.1, Nat.le_trans (Nat.add_le_add_left (by decide) _) hrm.2⟩ (fun H1 locs1 hP hO hfr hS => ?_)
  have hMo : va_P D vwCl (wM cI cZ (s.heap.size + 136) SM) H1 := wk_kept hMo wM_D (fun q h1 h2 => by unfold AM at h1; rcases h2 with h2 | h2 <;> (try unfold AC at h2) <;> omega) hfr
  refine W.widen (k := cells + 5) (n := slots + 30) (Nat.add_le_add_left (by decide) _) (Nat.add_le_add_left (by decide) _) ?_
  refine lv_istore (lv' := (5, .int (kc mcI r)) :: ltop s bs i) hx hb dL_law_449 hl (by decide) rfl (fun ls hl => ?_)
  refine lv_aload_n hx hb dL_law_451 rfl (lv_at hl 3 rfl) ?_
  refine lv_aload_n hx hb dL_law_452 rfl (lv_at hl 5 rfl) ?_
  refine w_arg C hS hl (k := 1) (i := i) (j := 1) rfl (by omega) (by decide) dL_law_453 dL_law_455 dL_law_456 dL_law_457 ?_
  refine lv_aload_n hx hb dL_law_458 rfl (lv_at hl 5 rfl) ?_
  refine w_arg C hS hl (k := 1) (i := i) (j := 2) rfl (by omega) (by decide) dL_law_459 dL_law_461 dL_law_462 dL_law_463 ?_
  refine w_calli F hKM hMo hS hAM [.int (xs (i + 1)), .int (xs (i + 2))] (c_X7_sync l D cI cZ (s.heap.size + 136) SM (xs (i + 1)) (xs (i + 2)) v2 SM1 hfm) wd_933 wd_934 wd_935 wd_9 wd_936 wM_o rfl hd_X7_sync rfl rfl ⟨Nat.le_of_ble_eq_true rfl, Nat.le_of_ble_eq_true rfl⟩ rfl hl (rest := []) rfl (Nat.le_of_ble_eq_true rfl) dL_law_464 hrm (fun H2 locs2 hMo hfr hS => ?_)
  have hP : va_P D vwCl (wC cI cO s.heap.size S1) H2 := wk_kept hP wC_D (fun q h1 h2 => by unfold AC at h1; unfold AM at h2; omega) hfr
  have hO : va_P D vwCl (oW cJ (s.heap.size + 160) (ou r fl)) H2 := wk_kept hO oW_D (fun q h1 h2 => by unfold AM at h2; omega) hfr
  exact w_tail C ⟨Nat.le_of_ble_eq_true rfl, Nat.le_of_ble_eq_true rfl⟩ hrm (G := (aSyn G (xs (i + 1)) (xs (i + 2))).2) ⟨hP, hO, hMo, hS, hRC1, hRM1⟩ hm hne hl dL_law_467 dL_law_469 dL_law_470 dL_law_473 dL_law_475 (by decide) dL_law_480 dL_law_482 (by decide) dL_law_485 dL_law_486 dL_law_487 dL_law_488 dL_law_490 dL_law_491 dL_law_492 (by decide) dL_law_497 (by decide) (fun H3 locs3 ls3 hW3 hl3 => kk H3 locs3 ls3 S1 (ou r fl) SM1 (aSyn G (xs (i + 1)) (xs (i + 2))).2 hW3 hl3)
set_option maxRecDepth 100000 in
set_option maxHeartbeats 4000000 in
theorem case_print {p : Program} {l : Launch} {e : Env} {s : State} {m : MethodId} {args : Array Value} {below : List Frame} {meth : Method} {c : Code} {H : Heap} {locs : List Loc} {cells slots : Nat} {Q : State → Prop} {ls : Array Slot} {D : va_G} {cI cO cJ cZ : ClassId} {bs L i : Nat} {xs : Nat → Int32} {S SM : St} {fl : Nat → Int64} {G : Hs} (C : LC p l s m args c D cI cO cJ cZ bs L xs) (hW : LSt D cI cO cJ cZ s H locs S fl SM G) (hi : i + 5 ≤ L) (hl : lv_has ls 7 (ltop s bs i)) (hrm : cells + 5 ≤ room_1.cells ∧ slots + 30 ≤ room_1.slots) (kk : ∀ (H1 : Heap) (locs1 : List Loc) (ls1 : Array Slot) (S1 : St) (fl1 : Nat → Int64) (SM1 : St) (G1 : Hs), LSt D cI cO cJ cZ s H1 locs1 S1 fl1 SM1 G1 → lv_has ls1 7 (ltop s bs i) → W p l e room_1 s m args below meth c H1 locs1 (cells + 5) (slots + 30) Q (F0 m 1078 ls1 [])) : W p l e room_1 s m args below meth c H locs cells slots Q (F0 m 500 ls []) := by
  obtain ⟨F, hfl, hX, hN, hK, hKJ, hKM, hXs, hbl, hL⟩ := id C
  obtain ⟨hP, hO, hMo, hS, hRC, hRM⟩ := hW
  have hx := F.1
  have hb := F.2.1
  refine lv_aload_n hx hb dL_law_500 rfl (lv_at hl 3 rfl) ?_
  obtain ⟨⟨r, S1⟩, hf, hq, hRC1⟩ := cPri hRC
  have hq : r = (aPri G).1 := hq
  obtain ⟨⟨v2, SM1⟩, hfm, hm, hRM1⟩ := mPri hRM
  have hm : mres mcP r v2 SM1 := by rw [hq]; exact hm
  have hcod : ∀ e, r = .inl e → e ∈ [3] := fun e h => k_pri (H := G) e (by rw [← hq]; exact h)
  have hcod2 : ∀ e9, r = .inl e9 → e9 = 3 := fun e9 h => by simpa using hcod e9 h
  have hne : ∀ e, r = .inl e → ¬ nI (mcP e) = 0 := fun e h => by
    rcases hcod2 e h with rfl <;> decide
  refine lv_aload_n hx hb dL_law_501 rfl (lv_at hl 1 rfl) ?_
  refine w_callL F hK hKJ hP hO hS hX hN hAL (fun q h1 h2 => by unfold A0L at h2; omega) [.ref (s.heap.size + 0), .ref (s.heap.size + 160)] (c_L_print l hfl D cI cO cJ s.heap.size (s.heap.size + 160) hoL S fl r S1 hf hcod2) wd_601 wd_602 wd_0 wd_603 hd_L_print rfl rfl ⟨Nat.le_of_ble_eq_true rfl, Nat.le_of_ble_eq_true rfl⟩ rfl hl (rest := []) rfl (Nat.le_of_ble_eq_true rfl) dL_law_502 ⟨Nat.le_trans (Nat.add_le_add_left (by decide) _) hrm.1, Nat.le_trans (Nat.add_le_add_left (by decide) _) hrm.2⟩ (fun H1 locs1 hP hO hfr hS => ?_)
  have hMo : va_P D vwCl (wM cI cZ (s.heap.size + 136) SM) H1 := wk_kept hMo wM_D (fun q h1 h2 => by unfold AM at h1; rcases h2 with h2 | h2 <;> (try unfold AC at h2) <;> omega) hfr
  refine W.widen (k := cells + 5) (n := slots + 30) (Nat.add_le_add_left (by decide) _) (Nat.add_le_add_left (by decide) _) ?_
  refine lv_istore (lv' := (5, .int (kc mcP r)) :: ltop s bs i) hx hb dL_law_505 hl (by decide) rfl (fun ls hl => ?_)
  refine lv_aload_n hx hb dL_law_507 rfl (lv_at hl 3 rfl) ?_
  refine w_calli F hKM hMo hS hAM [] (c_X7_print l D cI cZ (s.heap.size + 136) SM v2 SM1 hfm) wd_937 wd_938 wd_939 wd_9 wd_940 wM_o rfl hd_X7_print rfl rfl ⟨Nat.le_of_ble_eq_true rfl, Nat.le_of_ble_eq_true rfl⟩ rfl hl (rest := []) rfl (Nat.le_of_ble_eq_true rfl) dL_law_508 hrm (fun H2 locs2 hMo hfr hS => ?_)
  have hP : va_P D vwCl (wC cI cO s.heap.size S1) H2 := wk_kept hP wC_D (fun q h1 h2 => by unfold AC at h1; unfold AM at h2; omega) hfr
  have hO : va_P D vwCl (oW cJ (s.heap.size + 160) (ou r fl)) H2 := wk_kept hO oW_D (fun q h1 h2 => by unfold AM at h2; omega) hfr
  exact w_tail C ⟨Nat.le_of_ble_eq_true rfl, Nat.le_of_ble_eq_true rfl⟩ hrm (G := (aPri G).2) ⟨hP, hO, hMo, hS, hRC1, hRM1⟩ hm hne hl dL_law_511 dL_law_513 dL_law_514 dL_law_517 dL_law_519 (by decide) dL_law_524 dL_law_526 (by decide) dL_law_529 dL_law_530 dL_law_531 dL_law_532 dL_law_534 dL_law_535 dL_law_536 (by decide) dL_law_541 (by decide) (fun H3 locs3 ls3 hW3 hl3 => kk H3 locs3 ls3 S1 (ou r fl) SM1 (aPri G).2 hW3 hl3)
set_option maxRecDepth 100000 in
set_option maxHeartbeats 4000000 in
theorem case_sheets {p : Program} {l : Launch} {e : Env} {s : State} {m : MethodId} {args : Array Value} {below : List Frame} {meth : Method} {c : Code} {H : Heap} {locs : List Loc} {cells slots : Nat} {Q : State → Prop} {ls : Array Slot} {D : va_G} {cI cO cJ cZ : ClassId} {bs L i : Nat} {xs : Nat → Int32} {S SM : St} {fl : Nat → Int64} {G : Hs} (C : LC p l s m args c D cI cO cJ cZ bs L xs) (hW : LSt D cI cO cJ cZ s H locs S fl SM G) (hi : i + 5 ≤ L) (hl : lv_has ls 7 (ltop s bs i)) (hrm : cells + 5 ≤ room_1.cells ∧ slots + 30 ≤ room_1.slots) (kk : ∀ (H1 : Heap) (locs1 : List Loc) (ls1 : Array Slot) (S1 : St) (fl1 : Nat → Int64) (SM1 : St) (G1 : Hs), LSt D cI cO cJ cZ s H1 locs1 S1 fl1 SM1 G1 → lv_has ls1 7 (ltop s bs i) → W p l e room_1 s m args below meth c H1 locs1 (cells + 5) (slots + 30) Q (F0 m 1078 ls1 [])) : W p l e room_1 s m args below meth c H locs cells slots Q (F0 m 544 ls []) := by
  obtain ⟨F, hfl, hX, hN, hK, hKJ, hKM, hXs, hbl, hL⟩ := id C
  obtain ⟨hP, hO, hMo, hS, hRC, hRM⟩ := hW
  have hx := F.1
  have hb := F.2.1
  obtain ⟨r, hf, hq0⟩ := cShe hRC
  have hq : (Sum.inr r : Nat ⊕ Int32) = (aShe G).1 := congrArg Prod.fst hq0
  have hG : G = (aShe G).2 := congrArg Prod.snd hq0
  have hRC1 : RC S (aShe G).2 := by rw [← hG]; exact hRC
  obtain ⟨⟨v2, SM1⟩, hfm, hm, hRM1⟩ := mShe hRM
  have hm : mres mcI (.inr r) v2 SM1 := by rw [hq]; exact hm
  refine lv_aload_n hx hb dL_law_544 rfl (lv_at hl 3 rfl) ?_
  have hrm0 : cells ≤ room_1.cells ∧ slots ≤ room_1.slots := ⟨Nat.le_trans (Nat.le_add_right _ _) hrm.1, Nat.le_trans (Nat.le_add_right _ _) hrm.2⟩
  refine w_calli F hK hP hS hAC [] (c_X6_sheets l D cI cO s.heap.size S r hf) wd_194 wd_195 wd_196 wd_1 wd_197 wC_M rfl hd_X6_sheets rfl rfl ⟨Nat.le_of_ble_eq_true rfl, Nat.le_of_ble_eq_true rfl⟩ rfl hl (rest := []) rfl (Nat.le_of_ble_eq_true rfl) dL_law_545 hrm0 (fun H1 locs1 hP hfr hS => ?_)
  have hMo : va_P D vwCl (wM cI cZ (s.heap.size + 136) SM) H1 := wk_kept hMo wM_D (fun q h1 h2 => by unfold AM at h1; unfold AC at h2; omega) hfr
  have hO : va_P D vwCl (oW cJ (s.heap.size + 160) fl) H1 := wk_kept hO oW_D (fun q h1 h2 => by unfold AC at h2; omega) hfr
  refine lv_aload_n hx hb dL_law_548 rfl (lv_at hl 2 rfl) ?_
  refine w_calli F hKM hMo hS hAM [] (c_X7_sheets l D cI cZ (s.heap.size + 136) SM v2 SM1 hfm) wd_941 wd_942 wd_943 wd_9 wd_944 wM_o rfl hd_X7_sheets rfl rfl ⟨Nat.le_of_ble_eq_true rfl, Nat.le_of_ble_eq_true rfl⟩ rfl hl (rest := [.int r]) rfl (Nat.le_of_ble_eq_true rfl) dL_law_549 hrm0 (fun H2 locs2 hMo hfr hS => ?_)
  have hP : va_P D vwCl (wC cI cO s.heap.size S) H2 := wk_kept hP wC_D (fun q h1 h2 => by unfold AC at h1; unfold AM at h2; omega) hfr
  have hO : va_P D vwCl (oW cJ (s.heap.size + 160) fl) H2 := wk_kept hO oW_D (fun q h1 h2 => by unfold AM at h2; omega) hfr
  refine lv_icmp_eq (tgt := 1078) hx hb dL_law_552 (by decide) (fun _ => ?_) (fun q => absurd (hm.2 r rfl).2.symm q)
  refine W.widen (k := cells + 5) (n := slots + 30) (Nat.le_add_right _ _) (Nat.le_add_right _ _) ?_
  exact kk H2 locs2 ls S fl SM1 (aShe G).2 ⟨hP, hO, hMo, hS, hRC1, hRM1⟩ hl
set_option maxRecDepth 100000 in
set_option maxHeartbeats 4000000 in
theorem case_differs {p : Program} {l : Launch} {e : Env} {s : State} {m : MethodId} {args : Array Value} {below : List Frame} {meth : Method} {c : Code} {H : Heap} {locs : List Loc} {cells slots : Nat} {Q : State → Prop} {ls : Array Slot} {D : va_G} {cI cO cJ cZ : ClassId} {bs L i : Nat} {xs : Nat → Int32} {S SM : St} {fl : Nat → Int64} {G : Hs} (C : LC p l s m args c D cI cO cJ cZ bs L xs) (hW : LSt D cI cO cJ cZ s H locs S fl SM G) (hi : i + 5 ≤ L) (hl : lv_has ls 7 (ltop s bs i)) (hrm : cells + 5 ≤ room_1.cells ∧ slots + 30 ≤ room_1.slots) (kk : ∀ (H1 : Heap) (locs1 : List Loc) (ls1 : Array Slot) (S1 : St) (fl1 : Nat → Int64) (SM1 : St) (G1 : Hs), LSt D cI cO cJ cZ s H1 locs1 S1 fl1 SM1 G1 → lv_has ls1 7 (ltop s bs i) → W p l e room_1 s m args below meth c H1 locs1 (cells + 5) (slots + 30) Q (F0 m 1078 ls1 [])) : W p l e room_1 s m args below meth c H locs cells slots Q (F0 m 557 ls []) := by
  obtain ⟨F, hfl, hX, hN, hK, hKJ, hKM, hXs, hbl, hL⟩ := id C
  obtain ⟨hP, hO, hMo, hS, hRC, hRM⟩ := hW
  have hx := F.1
  have hb := F.2.1
  refine lv_aload_n hx hb dL_law_557 rfl (lv_at hl 3 rfl) ?_
  refine lv_aload_n hx hb dL_law_558 rfl (lv_at hl 4 rfl) ?_
  refine w_arg C hS hl (k := 0) (i := i) (j := 1) rfl (by omega) (by decide) dL_law_559 dL_law_561 dL_law_562 dL_law_563 ?_
  obtain ⟨r, hf, hq0⟩ := cDif (x1 := (xs (i + 1))) hRC
  have hq : r = (aDif G (xs (i + 1))).1 := congrArg Prod.fst hq0
  have hG : G = (aDif G (xs (i + 1))).2 := congrArg Prod.snd hq0
  have hRC1 : RC S (aDif G (xs (i + 1))).2 := by rw [← hG]; exact hRC
  obtain ⟨⟨v2, SM1⟩, hfm, hm, hRM1⟩ := mDif (x1 := (xs (i + 1))) hRM
  have hm : mres mcI r v2 SM1 := by rw [hq]; exact hm
  have hcod : ∀ e, r = .inl e → e ∈ [1] := fun e h => k_dif (H := G) (x1 := (xs (i + 1))) e (by rw [← hq]; exact h)
  have hcod2 : ∀ e9, r = .inl e9 → e9 = 1 := fun e9 h => by simpa using hcod e9 h
  have hne : ∀ e, r = .inl e → ¬ nI (mcI e) = 0 := fun e h => by
    rcases hcod2 e h with rfl <;> decide
  refine lv_aload_n hx hb dL_law_564 rfl (lv_at hl 1 rfl) ?_
  refine w_callL F hK hKJ hP hO hS hX hN hAL (fun q h1 h2 => by unfold A0L at h2; omega) [.ref (s.heap.size + 0), .int (xs (i + 1)), .ref (s.heap.size + 160)] (c_L_differs l hfl D cI cO cJ s.heap.size (s.heap.size + 160) hoL S fl (xs (i + 1)) r hf hcod2) wd_627 wd_628 wd_0 wd_629 hd_L_differs rfl rfl ⟨Nat.le_of_ble_eq_true rfl, Nat.le_of_ble_eq_true rfl⟩ rfl hl (rest := []) rfl (Nat.le_of_ble_eq_true rfl) dL_law_565 ⟨Nat.le_trans (Nat.add_le_add_left (by decide) _) hrm.1, Nat.le_trans (Nat.add_le_add_left (by decide) _) hrm.2⟩ (fun H1 locs1 hP hO hfr hS => ?_)
  have hMo : va_P D vwCl (wM cI cZ (s.heap.size + 136) SM) H1 := wk_kept hMo wM_D (fun q h1 h2 => by unfold AM at h1; rcases h2 with h2 | h2 <;> (try unfold AC at h2) <;> omega) hfr
  refine W.widen (k := cells + 5) (n := slots + 30) (Nat.add_le_add_left (by decide) _) (Nat.add_le_add_left (by decide) _) ?_
  refine lv_istore (lv' := (5, .int (kc mcI r)) :: ltop s bs i) hx hb dL_law_568 hl (by decide) rfl (fun ls hl => ?_)
  refine lv_aload_n hx hb dL_law_570 rfl (lv_at hl 3 rfl) ?_
  refine lv_aload_n hx hb dL_law_571 rfl (lv_at hl 5 rfl) ?_
  refine w_arg C hS hl (k := 1) (i := i) (j := 1) rfl (by omega) (by decide) dL_law_572 dL_law_574 dL_law_575 dL_law_576 ?_
  refine w_calli F hKM hMo hS hAM [.int (xs (i + 1))] (c_X7_differs l D cI cZ (s.heap.size + 136) SM (xs (i + 1)) v2 SM1 hfm) wd_945 wd_946 wd_947 wd_9 wd_948 wM_o rfl hd_X7_differs rfl rfl ⟨Nat.le_of_ble_eq_true rfl, Nat.le_of_ble_eq_true rfl⟩ rfl hl (rest := []) rfl (Nat.le_of_ble_eq_true rfl) dL_law_577 hrm (fun H2 locs2 hMo hfr hS => ?_)
  have hP : va_P D vwCl (wC cI cO s.heap.size S) H2 := wk_kept hP wC_D (fun q h1 h2 => by unfold AC at h1; unfold AM at h2; omega) hfr
  have hO : va_P D vwCl (oW cJ (s.heap.size + 160) (ou r fl)) H2 := wk_kept hO oW_D (fun q h1 h2 => by unfold AM at h2; omega) hfr
  exact w_tail C ⟨Nat.le_of_ble_eq_true rfl, Nat.le_of_ble_eq_true rfl⟩ hrm (G := (aDif G (xs (i + 1))).2) ⟨hP, hO, hMo, hS, hRC1, hRM1⟩ hm hne hl dL_law_580 dL_law_582 dL_law_583 dL_law_586 dL_law_588 (by decide) dL_law_593 dL_law_595 (by decide) dL_law_598 dL_law_599 dL_law_600 dL_law_601 dL_law_603 dL_law_604 dL_law_605 (by decide) dL_law_610 (by decide) (fun H3 locs3 ls3 hW3 hl3 => kk H3 locs3 ls3 S (ou r fl) SM1 (aDif G (xs (i + 1))).2 hW3 hl3)
set_option maxRecDepth 100000 in
set_option maxHeartbeats 4000000 in
theorem case_cost {p : Program} {l : Launch} {e : Env} {s : State} {m : MethodId} {args : Array Value} {below : List Frame} {meth : Method} {c : Code} {H : Heap} {locs : List Loc} {cells slots : Nat} {Q : State → Prop} {ls : Array Slot} {D : va_G} {cI cO cJ cZ : ClassId} {bs L i : Nat} {xs : Nat → Int32} {S SM : St} {fl : Nat → Int64} {G : Hs} (C : LC p l s m args c D cI cO cJ cZ bs L xs) (hW : LSt D cI cO cJ cZ s H locs S fl SM G) (hi : i + 5 ≤ L) (hl : lv_has ls 7 (ltop s bs i)) (hrm : cells + 5 ≤ room_1.cells ∧ slots + 30 ≤ room_1.slots) (kk : ∀ (H1 : Heap) (locs1 : List Loc) (ls1 : Array Slot) (S1 : St) (fl1 : Nat → Int64) (SM1 : St) (G1 : Hs), LSt D cI cO cJ cZ s H1 locs1 S1 fl1 SM1 G1 → lv_has ls1 7 (ltop s bs i) → W p l e room_1 s m args below meth c H1 locs1 (cells + 5) (slots + 30) Q (F0 m 1078 ls1 [])) : W p l e room_1 s m args below meth c H locs cells slots Q (F0 m 613 ls []) := by
  obtain ⟨F, hfl, hX, hN, hK, hKJ, hKM, hXs, hbl, hL⟩ := id C
  obtain ⟨hP, hO, hMo, hS, hRC, hRM⟩ := hW
  have hx := F.1
  have hb := F.2.1
  obtain ⟨r, hf, hq0⟩ := cCos hRC
  have hq : (Sum.inr r : Nat ⊕ Int32) = (aCos G).1 := congrArg Prod.fst hq0
  have hG : G = (aCos G).2 := congrArg Prod.snd hq0
  have hRC1 : RC S (aCos G).2 := by rw [← hG]; exact hRC
  obtain ⟨⟨v2, SM1⟩, hfm, hm, hRM1⟩ := mCos hRM
  have hm : mres mcI (.inr r) v2 SM1 := by rw [hq]; exact hm
  refine lv_aload_n hx hb dL_law_613 rfl (lv_at hl 3 rfl) ?_
  have hrm0 : cells ≤ room_1.cells ∧ slots ≤ room_1.slots := ⟨Nat.le_trans (Nat.le_add_right _ _) hrm.1, Nat.le_trans (Nat.le_add_right _ _) hrm.2⟩
  refine w_calli F hK hP hS hAC [] (c_X6_cost l D cI cO s.heap.size S r hf) wd_206 wd_207 wd_208 wd_1 wd_209 wC_M rfl hd_X6_cost rfl rfl ⟨Nat.le_of_ble_eq_true rfl, Nat.le_of_ble_eq_true rfl⟩ rfl hl (rest := []) rfl (Nat.le_of_ble_eq_true rfl) dL_law_614 hrm0 (fun H1 locs1 hP hfr hS => ?_)
  have hMo : va_P D vwCl (wM cI cZ (s.heap.size + 136) SM) H1 := wk_kept hMo wM_D (fun q h1 h2 => by unfold AM at h1; unfold AC at h2; omega) hfr
  have hO : va_P D vwCl (oW cJ (s.heap.size + 160) fl) H1 := wk_kept hO oW_D (fun q h1 h2 => by unfold AC at h2; omega) hfr
  refine lv_aload_n hx hb dL_law_617 rfl (lv_at hl 2 rfl) ?_
  refine w_calli F hKM hMo hS hAM [] (c_X7_cost l D cI cZ (s.heap.size + 136) SM v2 SM1 hfm) wd_953 wd_954 wd_955 wd_9 wd_956 wM_o rfl hd_X7_cost rfl rfl ⟨Nat.le_of_ble_eq_true rfl, Nat.le_of_ble_eq_true rfl⟩ rfl hl (rest := [.int r]) rfl (Nat.le_of_ble_eq_true rfl) dL_law_618 hrm0 (fun H2 locs2 hMo hfr hS => ?_)
  have hP : va_P D vwCl (wC cI cO s.heap.size S) H2 := wk_kept hP wC_D (fun q h1 h2 => by unfold AC at h1; unfold AM at h2; omega) hfr
  have hO : va_P D vwCl (oW cJ (s.heap.size + 160) fl) H2 := wk_kept hO oW_D (fun q h1 h2 => by unfold AM at h2; omega) hfr
  refine lv_icmp_eq (tgt := 1078) hx hb dL_law_621 (by decide) (fun _ => ?_) (fun q => absurd (hm.2 r rfl).2.symm q)
  refine W.widen (k := cells + 5) (n := slots + 30) (Nat.le_add_right _ _) (Nat.le_add_right _ _) ?_
  exact kk H2 locs2 ls S fl SM1 (aCos G).2 ⟨hP, hO, hMo, hS, hRC1, hRM1⟩ hl
set_option maxRecDepth 100000 in
set_option maxHeartbeats 4000000 in
theorem case_lines {p : Program} {l : Launch} {e : Env} {s : State} {m : MethodId} {args : Array Value} {below : List Frame} {meth : Method} {c : Code} {H : Heap} {locs : List Loc} {cells slots : Nat} {Q : State → Prop} {ls : Array Slot} {D : va_G} {cI cO cJ cZ : ClassId} {bs L i : Nat} {xs : Nat → Int32} {S SM : St} {fl : Nat → Int64} {G : Hs} (C : LC p l s m args c D cI cO cJ cZ bs L xs) (hW : LSt D cI cO cJ cZ s H locs S fl SM G) (hi : i + 5 ≤ L) (hl : lv_has ls 7 (ltop s bs i)) (hrm : cells + 5 ≤ room_1.cells ∧ slots + 30 ≤ room_1.slots) (kk : ∀ (H1 : Heap) (locs1 : List Loc) (ls1 : Array Slot) (S1 : St) (fl1 : Nat → Int64) (SM1 : St) (G1 : Hs), LSt D cI cO cJ cZ s H1 locs1 S1 fl1 SM1 G1 → lv_has ls1 7 (ltop s bs i) → W p l e room_1 s m args below meth c H1 locs1 (cells + 5) (slots + 30) Q (F0 m 1078 ls1 [])) : W p l e room_1 s m args below meth c H locs cells slots Q (F0 m 626 ls []) := by
  obtain ⟨F, hfl, hX, hN, hK, hKJ, hKM, hXs, hbl, hL⟩ := id C
  obtain ⟨hP, hO, hMo, hS, hRC, hRM⟩ := hW
  have hx := F.1
  have hb := F.2.1
  refine lv_aload_n hx hb dL_law_626 rfl (lv_at hl 3 rfl) ?_
  refine lv_aload_n hx hb dL_law_627 rfl (lv_at hl 4 rfl) ?_
  refine w_arg C hS hl (k := 0) (i := i) (j := 1) rfl (by omega) (by decide) dL_law_628 dL_law_630 dL_law_631 dL_law_632 ?_
  obtain ⟨r, hf, hq0⟩ := cLin (x1 := (xs (i + 1))) hRC
  have hq : r = (aLin G (xs (i + 1))).1 := congrArg Prod.fst hq0
  have hG : G = (aLin G (xs (i + 1))).2 := congrArg Prod.snd hq0
  have hRC1 : RC S (aLin G (xs (i + 1))).2 := by rw [← hG]; exact hRC
  obtain ⟨⟨v2, SM1⟩, hfm, hm, hRM1⟩ := mLin (x1 := (xs (i + 1))) hRM
  have hm : mres mcI r v2 SM1 := by rw [hq]; exact hm
  have hcod : ∀ e, r = .inl e → e ∈ [1] := fun e h => k_lin (H := G) (x1 := (xs (i + 1))) e (by rw [← hq]; exact h)
  have hcod2 : ∀ e9, r = .inl e9 → e9 = 1 := fun e9 h => by simpa using hcod e9 h
  have hne : ∀ e, r = .inl e → ¬ nI (mcI e) = 0 := fun e h => by
    rcases hcod2 e h with rfl <;> decide
  refine lv_aload_n hx hb dL_law_633 rfl (lv_at hl 1 rfl) ?_
  refine w_callL F hK hKJ hP hO hS hX hN hAL (fun q h1 h2 => by unfold A0L at h2; omega) [.ref (s.heap.size + 0), .int (xs (i + 1)), .ref (s.heap.size + 160)] (c_L_lines l hfl D cI cO cJ s.heap.size (s.heap.size + 160) hoL S fl (xs (i + 1)) r hf hcod2) wd_637 wd_638 wd_0 wd_639 hd_L_lines rfl rfl ⟨Nat.le_of_ble_eq_true rfl, Nat.le_of_ble_eq_true rfl⟩ rfl hl (rest := []) rfl (Nat.le_of_ble_eq_true rfl) dL_law_634 ⟨Nat.le_trans (Nat.add_le_add_left (by decide) _) hrm.1, Nat.le_trans (Nat.add_le_add_left (by decide) _) hrm.2⟩ (fun H1 locs1 hP hO hfr hS => ?_)
  have hMo : va_P D vwCl (wM cI cZ (s.heap.size + 136) SM) H1 := wk_kept hMo wM_D (fun q h1 h2 => by unfold AM at h1; rcases h2 with h2 | h2 <;> (try unfold AC at h2) <;> omega) hfr
  refine W.widen (k := cells + 5) (n := slots + 30) (Nat.add_le_add_left (by decide) _) (Nat.add_le_add_left (by decide) _) ?_
  refine lv_istore (lv' := (5, .int (kc mcI r)) :: ltop s bs i) hx hb dL_law_637 hl (by decide) rfl (fun ls hl => ?_)
  refine lv_aload_n hx hb dL_law_639 rfl (lv_at hl 3 rfl) ?_
  refine lv_aload_n hx hb dL_law_640 rfl (lv_at hl 5 rfl) ?_
  refine w_arg C hS hl (k := 1) (i := i) (j := 1) rfl (by omega) (by decide) dL_law_641 dL_law_643 dL_law_644 dL_law_645 ?_
  refine w_calli F hKM hMo hS hAM [.int (xs (i + 1))] (c_X7_lines l D cI cZ (s.heap.size + 136) SM (xs (i + 1)) v2 SM1 hfm) wd_957 wd_958 wd_959 wd_9 wd_960 wM_o rfl hd_X7_lines rfl rfl ⟨Nat.le_of_ble_eq_true rfl, Nat.le_of_ble_eq_true rfl⟩ rfl hl (rest := []) rfl (Nat.le_of_ble_eq_true rfl) dL_law_646 hrm (fun H2 locs2 hMo hfr hS => ?_)
  have hP : va_P D vwCl (wC cI cO s.heap.size S) H2 := wk_kept hP wC_D (fun q h1 h2 => by unfold AC at h1; unfold AM at h2; omega) hfr
  have hO : va_P D vwCl (oW cJ (s.heap.size + 160) (ou r fl)) H2 := wk_kept hO oW_D (fun q h1 h2 => by unfold AM at h2; omega) hfr
  exact w_tail C ⟨Nat.le_of_ble_eq_true rfl, Nat.le_of_ble_eq_true rfl⟩ hrm (G := (aLin G (xs (i + 1))).2) ⟨hP, hO, hMo, hS, hRC1, hRM1⟩ hm hne hl dL_law_649 dL_law_651 dL_law_652 dL_law_655 dL_law_657 (by decide) dL_law_662 dL_law_664 (by decide) dL_law_667 dL_law_668 dL_law_669 dL_law_670 dL_law_672 dL_law_673 dL_law_674 (by decide) dL_law_679 (by decide) (fun H3 locs3 ls3 hW3 hl3 => kk H3 locs3 ls3 S (ou r fl) SM1 (aLin G (xs (i + 1))).2 hW3 hl3)
set_option maxRecDepth 100000 in
set_option maxHeartbeats 4000000 in
theorem case_lineAt {p : Program} {l : Launch} {e : Env} {s : State} {m : MethodId} {args : Array Value} {below : List Frame} {meth : Method} {c : Code} {H : Heap} {locs : List Loc} {cells slots : Nat} {Q : State → Prop} {ls : Array Slot} {D : va_G} {cI cO cJ cZ : ClassId} {bs L i : Nat} {xs : Nat → Int32} {S SM : St} {fl : Nat → Int64} {G : Hs} (C : LC p l s m args c D cI cO cJ cZ bs L xs) (hW : LSt D cI cO cJ cZ s H locs S fl SM G) (hi : i + 5 ≤ L) (hl : lv_has ls 7 (ltop s bs i)) (hrm : cells + 5 ≤ room_1.cells ∧ slots + 30 ≤ room_1.slots) (kk : ∀ (H1 : Heap) (locs1 : List Loc) (ls1 : Array Slot) (S1 : St) (fl1 : Nat → Int64) (SM1 : St) (G1 : Hs), LSt D cI cO cJ cZ s H1 locs1 S1 fl1 SM1 G1 → lv_has ls1 7 (ltop s bs i) → W p l e room_1 s m args below meth c H1 locs1 (cells + 5) (slots + 30) Q (F0 m 1078 ls1 [])) : W p l e room_1 s m args below meth c H locs cells slots Q (F0 m 682 ls []) := by
  obtain ⟨F, hfl, hX, hN, hK, hKJ, hKM, hXs, hbl, hL⟩ := id C
  obtain ⟨hP, hO, hMo, hS, hRC, hRM⟩ := hW
  have hx := F.1
  have hb := F.2.1
  refine lv_aload_n hx hb dL_law_682 rfl (lv_at hl 3 rfl) ?_
  refine lv_aload_n hx hb dL_law_683 rfl (lv_at hl 4 rfl) ?_
  refine w_arg C hS hl (k := 0) (i := i) (j := 1) rfl (by omega) (by decide) dL_law_684 dL_law_686 dL_law_687 dL_law_688 ?_
  refine lv_aload_n hx hb dL_law_689 rfl (lv_at hl 4 rfl) ?_
  refine w_arg C hS hl (k := 0) (i := i) (j := 2) rfl (by omega) (by decide) dL_law_690 dL_law_692 dL_law_693 dL_law_694 ?_
  refine lv_aload_n hx hb dL_law_695 rfl (lv_at hl 4 rfl) ?_
  refine w_arg C hS hl (k := 0) (i := i) (j := 3) rfl (by omega) (by decide) dL_law_696 dL_law_698 dL_law_699 dL_law_700 ?_
  obtain ⟨r, hf, hq0⟩ := cLat (x1 := (xs (i + 1))) (x2 := (xs (i + 2))) (x3 := (xs (i + 3))) hRC
  have hq : r = (aLat G (xs (i + 1)) (xs (i + 2)) (xs (i + 3))).1 := congrArg Prod.fst hq0
  have hG : G = (aLat G (xs (i + 1)) (xs (i + 2)) (xs (i + 3))).2 := congrArg Prod.snd hq0
  have hRC1 : RC S (aLat G (xs (i + 1)) (xs (i + 2)) (xs (i + 3))).2 := by rw [← hG]; exact hRC
  obtain ⟨⟨v2, SM1⟩, hfm, hm, hRM1⟩ := mLat (x1 := (xs (i + 1))) (x2 := (xs (i + 2))) (x3 := (xs (i + 3))) hRM
  have hm : mres mcI r v2 SM1 := by rw [hq]; exact hm
  have hcod : ∀ e, r = .inl e → e ∈ [1, 2] := fun e h => k_lat (H := G) (x1 := (xs (i + 1))) (x2 := (xs (i + 2))) (x3 := (xs (i + 3))) e (by rw [← hq]; exact h)
  have hcod2 : ∀ e9, r = .inl e9 → e9 = 1 ∨ e9 = 2 := fun e9 h => by simpa using hcod e9 h
  have hne : ∀ e, r = .inl e → ¬ nI (mcI e) = 0 := fun e h => by
    rcases hcod2 e h with rfl | rfl <;> decide
  refine lv_aload_n hx hb dL_law_701 rfl (lv_at hl 1 rfl) ?_
  refine w_callL F hK hKJ hP hO hS hX hN hAL (fun q h1 h2 => by unfold A0L at h2; omega) [.ref (s.heap.size + 0), .int (xs (i + 1)), .int (xs (i + 2)), .int (xs (i + 3)), .ref (s.heap.size + 160)] (c_L_lineAt l hfl D cI cO cJ s.heap.size (s.heap.size + 160) hoL S fl (xs (i + 1)) (xs (i + 2)) (xs (i + 3)) r hf hcod2) wd_644 wd_645 wd_0 wd_646 hd_L_lineAt rfl rfl ⟨Nat.le_of_ble_eq_true rfl, Nat.le_of_ble_eq_true rfl⟩ rfl hl (rest := []) rfl (Nat.le_of_ble_eq_true rfl) dL_law_702 ⟨Nat.le_trans (Nat.add_le_add_left (by decide) _) hrm.1, Nat.le_trans (Nat.add_le_add_left (by decide) _) hrm.2⟩ (fun H1 locs1 hP hO hfr hS => ?_)
  have hMo : va_P D vwCl (wM cI cZ (s.heap.size + 136) SM) H1 := wk_kept hMo wM_D (fun q h1 h2 => by unfold AM at h1; rcases h2 with h2 | h2 <;> (try unfold AC at h2) <;> omega) hfr
  refine W.widen (k := cells + 5) (n := slots + 30) (Nat.add_le_add_left (by decide) _) (Nat.add_le_add_left (by decide) _) ?_
  refine lv_istore (lv' := (5, .int (kc mcI r)) :: ltop s bs i) hx hb dL_law_705 hl (by decide) rfl (fun ls hl => ?_)
  refine lv_aload_n hx hb dL_law_707 rfl (lv_at hl 3 rfl) ?_
  refine lv_aload_n hx hb dL_law_708 rfl (lv_at hl 5 rfl) ?_
  refine w_arg C hS hl (k := 1) (i := i) (j := 1) rfl (by omega) (by decide) dL_law_709 dL_law_711 dL_law_712 dL_law_713 ?_
  refine lv_aload_n hx hb dL_law_714 rfl (lv_at hl 5 rfl) ?_
  refine w_arg C hS hl (k := 1) (i := i) (j := 2) rfl (by omega) (by decide) dL_law_715 dL_law_717 dL_law_718 dL_law_719 ?_
  refine lv_aload_n hx hb dL_law_720 rfl (lv_at hl 5 rfl) ?_
  refine w_arg C hS hl (k := 1) (i := i) (j := 3) rfl (by omega) (by decide) dL_law_721 dL_law_723 dL_law_724 dL_law_725 ?_
  refine w_calli F hKM hMo hS hAM [.int (xs (i + 1)), .int (xs (i + 2)), .int (xs (i + 3))] (c_X7_lineAt l D cI cZ (s.heap.size + 136) SM (xs (i + 1)) (xs (i + 2)) (xs (i + 3)) v2 SM1 hfm) wd_961 wd_962 wd_963 wd_9 wd_964 wM_o rfl hd_X7_lineAt rfl rfl ⟨Nat.le_of_ble_eq_true rfl, Nat.le_of_ble_eq_true rfl⟩ rfl hl (rest := []) rfl (Nat.le_of_ble_eq_true rfl) dL_law_726 hrm (fun H2 locs2 hMo hfr hS => ?_)
  have hP : va_P D vwCl (wC cI cO s.heap.size S) H2 := wk_kept hP wC_D (fun q h1 h2 => by unfold AC at h1; unfold AM at h2; omega) hfr
  have hO : va_P D vwCl (oW cJ (s.heap.size + 160) (ou r fl)) H2 := wk_kept hO oW_D (fun q h1 h2 => by unfold AM at h2; omega) hfr
  exact w_tail C ⟨Nat.le_of_ble_eq_true rfl, Nat.le_of_ble_eq_true rfl⟩ hrm (G := (aLat G (xs (i + 1)) (xs (i + 2)) (xs (i + 3))).2) ⟨hP, hO, hMo, hS, hRC1, hRM1⟩ hm hne hl dL_law_729 dL_law_731 dL_law_732 dL_law_735 dL_law_737 (by decide) dL_law_742 dL_law_744 (by decide) dL_law_747 dL_law_748 dL_law_749 dL_law_750 dL_law_752 dL_law_753 dL_law_754 (by decide) dL_law_759 (by decide) (fun H3 locs3 ls3 hW3 hl3 => kk H3 locs3 ls3 S (ou r fl) SM1 (aLat G (xs (i + 1)) (xs (i + 2)) (xs (i + 3))).2 hW3 hl3)
set_option maxRecDepth 100000 in
set_option maxHeartbeats 4000000 in
theorem case_lineAnew {p : Program} {l : Launch} {e : Env} {s : State} {m : MethodId} {args : Array Value} {below : List Frame} {meth : Method} {c : Code} {H : Heap} {locs : List Loc} {cells slots : Nat} {Q : State → Prop} {ls : Array Slot} {D : va_G} {cI cO cJ cZ : ClassId} {bs L i : Nat} {xs : Nat → Int32} {S SM : St} {fl : Nat → Int64} {G : Hs} (C : LC p l s m args c D cI cO cJ cZ bs L xs) (hW : LSt D cI cO cJ cZ s H locs S fl SM G) (hi : i + 5 ≤ L) (hl : lv_has ls 7 (ltop s bs i)) (hrm : cells + 5 ≤ room_1.cells ∧ slots + 30 ≤ room_1.slots) (kk : ∀ (H1 : Heap) (locs1 : List Loc) (ls1 : Array Slot) (S1 : St) (fl1 : Nat → Int64) (SM1 : St) (G1 : Hs), LSt D cI cO cJ cZ s H1 locs1 S1 fl1 SM1 G1 → lv_has ls1 7 (ltop s bs i) → W p l e room_1 s m args below meth c H1 locs1 (cells + 5) (slots + 30) Q (F0 m 1078 ls1 [])) : W p l e room_1 s m args below meth c H locs cells slots Q (F0 m 762 ls []) := by
  obtain ⟨F, hfl, hX, hN, hK, hKJ, hKM, hXs, hbl, hL⟩ := id C
  obtain ⟨hP, hO, hMo, hS, hRC, hRM⟩ := hW
  have hx := F.1
  have hb := F.2.1
  refine lv_aload_n hx hb dL_law_762 rfl (lv_at hl 3 rfl) ?_
  refine lv_aload_n hx hb dL_law_763 rfl (lv_at hl 4 rfl) ?_
  refine w_arg C hS hl (k := 0) (i := i) (j := 1) rfl (by omega) (by decide) dL_law_764 dL_law_766 dL_law_767 dL_law_768 ?_
  refine lv_aload_n hx hb dL_law_769 rfl (lv_at hl 4 rfl) ?_
  refine w_arg C hS hl (k := 0) (i := i) (j := 2) rfl (by omega) (by decide) dL_law_770 dL_law_772 dL_law_773 dL_law_774 ?_
  obtain ⟨⟨r, S1⟩, hf, hq0, hRC0⟩ := cAne (x1 := (xs (i + 1))) (x2 := (xs (i + 2))) hRC
  have hq : r = (aAne G (xs (i + 1)) (xs (i + 2))).1 := congrArg Prod.fst hq0
  have hG : G = (aAne G (xs (i + 1)) (xs (i + 2))).2 := congrArg Prod.snd hq0
  have hRC1 : RC S1 (aAne G (xs (i + 1)) (xs (i + 2))).2 := by rw [← hG]; exact hRC0
  obtain ⟨⟨v2, SM1⟩, hfm, hm, hRM1⟩ := mAne (x1 := (xs (i + 1))) (x2 := (xs (i + 2))) hRM
  have hm : mres mcI r v2 SM1 := by rw [hq]; exact hm
  have hcod : ∀ e, r = .inl e → e ∈ [1] := fun e h => k_ane (H := G) (x1 := (xs (i + 1))) (x2 := (xs (i + 2))) e (by rw [← hq]; exact h)
  have hcod2 : ∀ e9, r = .inl e9 → e9 = 1 := fun e9 h => by simpa using hcod e9 h
  have hne : ∀ e, r = .inl e → ¬ nI (mcI e) = 0 := fun e h => by
    rcases hcod2 e h with rfl <;> decide
  refine lv_aload_n hx hb dL_law_775 rfl (lv_at hl 1 rfl) ?_
  refine w_callL F hK hKJ hP hO hS hX hN hAL (fun q h1 h2 => by unfold A0L at h2; omega) [.ref (s.heap.size + 0), .int (xs (i + 1)), .int (xs (i + 2)), .ref (s.heap.size + 160)] (c_L_lineAnew l hfl D cI cO cJ s.heap.size (s.heap.size + 160) hoL S fl (xs (i + 1)) (xs (i + 2)) r S1 hf hcod2) wd_671 wd_672 wd_0 wd_673 hd_L_lineAnew rfl rfl ⟨Nat.le_of_ble_eq_true rfl, Nat.le_of_ble_eq_true rfl⟩ rfl hl (rest := []) rfl (Nat.le_of_ble_eq_true rfl) dL_law_776 ⟨Nat.le_trans (Nat.add_le_add_left (by decide) _) hrm.1, Nat.le_trans (Nat.add_le_add_left (by decide) _) hrm.2⟩ (fun H1 locs1 hP hO hfr hS => ?_)
  have hMo : va_P D vwCl (wM cI cZ (s.heap.size + 136) SM) H1 := wk_kept hMo wM_D (fun q h1 h2 => by unfold AM at h1; rcases h2 with h2 | h2 <;> (try unfold AC at h2) <;> omega) hfr
  refine W.widen (k := cells + 5) (n := slots + 30) (Nat.add_le_add_left (by decide) _) (Nat.add_le_add_left (by decide) _) ?_
  refine lv_istore (lv' := (5, .int (kc mcI r)) :: ltop s bs i) hx hb dL_law_779 hl (by decide) rfl (fun ls hl => ?_)
  refine lv_aload_n hx hb dL_law_781 rfl (lv_at hl 3 rfl) ?_
  refine lv_aload_n hx hb dL_law_782 rfl (lv_at hl 5 rfl) ?_
  refine w_arg C hS hl (k := 1) (i := i) (j := 1) rfl (by omega) (by decide) dL_law_783 dL_law_785 dL_law_786 dL_law_787 ?_
  refine lv_aload_n hx hb dL_law_788 rfl (lv_at hl 5 rfl) ?_
  refine w_arg C hS hl (k := 1) (i := i) (j := 2) rfl (by omega) (by decide) dL_law_789 dL_law_791 dL_law_792 dL_law_793 ?_
  refine w_calli F hKM hMo hS hAM [.int (xs (i + 1)), .int (xs (i + 2))] (c_X7_lineAnew l D cI cZ (s.heap.size + 136) SM (xs (i + 1)) (xs (i + 2)) v2 SM1 hfm) wd_965 wd_966 wd_967 wd_9 wd_968 wM_o rfl hd_X7_lineAnew rfl rfl ⟨Nat.le_of_ble_eq_true rfl, Nat.le_of_ble_eq_true rfl⟩ rfl hl (rest := []) rfl (Nat.le_of_ble_eq_true rfl) dL_law_794 hrm (fun H2 locs2 hMo hfr hS => ?_)
  have hP : va_P D vwCl (wC cI cO s.heap.size S1) H2 := wk_kept hP wC_D (fun q h1 h2 => by unfold AC at h1; unfold AM at h2; omega) hfr
  have hO : va_P D vwCl (oW cJ (s.heap.size + 160) (ou r fl)) H2 := wk_kept hO oW_D (fun q h1 h2 => by unfold AM at h2; omega) hfr
  exact w_tail C ⟨Nat.le_of_ble_eq_true rfl, Nat.le_of_ble_eq_true rfl⟩ hrm (G := (aAne G (xs (i + 1)) (xs (i + 2))).2) ⟨hP, hO, hMo, hS, hRC1, hRM1⟩ hm hne hl dL_law_797 dL_law_799 dL_law_800 dL_law_803 dL_law_805 (by decide) dL_law_810 dL_law_812 (by decide) dL_law_815 dL_law_816 dL_law_817 dL_law_818 dL_law_820 dL_law_821 dL_law_822 (by decide) dL_law_827 (by decide) (fun H3 locs3 ls3 hW3 hl3 => kk H3 locs3 ls3 S1 (ou r fl) SM1 (aAne G (xs (i + 1)) (xs (i + 2))).2 hW3 hl3)
set_option maxRecDepth 100000 in
set_option maxHeartbeats 4000000 in
theorem case_noteAt {p : Program} {l : Launch} {e : Env} {s : State} {m : MethodId} {args : Array Value} {below : List Frame} {meth : Method} {c : Code} {H : Heap} {locs : List Loc} {cells slots : Nat} {Q : State → Prop} {ls : Array Slot} {D : va_G} {cI cO cJ cZ : ClassId} {bs L i : Nat} {xs : Nat → Int32} {S SM : St} {fl : Nat → Int64} {G : Hs} (C : LC p l s m args c D cI cO cJ cZ bs L xs) (hW : LSt D cI cO cJ cZ s H locs S fl SM G) (hi : i + 5 ≤ L) (hl : lv_has ls 7 (ltop s bs i)) (hrm : cells + 5 ≤ room_1.cells ∧ slots + 30 ≤ room_1.slots) (kk : ∀ (H1 : Heap) (locs1 : List Loc) (ls1 : Array Slot) (S1 : St) (fl1 : Nat → Int64) (SM1 : St) (G1 : Hs), LSt D cI cO cJ cZ s H1 locs1 S1 fl1 SM1 G1 → lv_has ls1 7 (ltop s bs i) → W p l e room_1 s m args below meth c H1 locs1 (cells + 5) (slots + 30) Q (F0 m 1078 ls1 [])) : W p l e room_1 s m args below meth c H locs cells slots Q (F0 m 830 ls []) := by
  obtain ⟨F, hfl, hX, hN, hK, hKJ, hKM, hXs, hbl, hL⟩ := id C
  obtain ⟨hP, hO, hMo, hS, hRC, hRM⟩ := hW
  have hx := F.1
  have hb := F.2.1
  refine lv_aload_n hx hb dL_law_830 rfl (lv_at hl 3 rfl) ?_
  refine lv_aload_n hx hb dL_law_831 rfl (lv_at hl 4 rfl) ?_
  refine w_arg C hS hl (k := 0) (i := i) (j := 1) rfl (by omega) (by decide) dL_law_832 dL_law_834 dL_law_835 dL_law_836 ?_
  refine lv_aload_n hx hb dL_law_837 rfl (lv_at hl 4 rfl) ?_
  refine w_arg C hS hl (k := 0) (i := i) (j := 2) rfl (by omega) (by decide) dL_law_838 dL_law_840 dL_law_841 dL_law_842 ?_
  obtain ⟨r, hf, hq0⟩ := cNat (x1 := (xs (i + 1))) (x2 := (xs (i + 2))) hRC
  have hq : r = (aNat G (xs (i + 1)) (xs (i + 2))).1 := congrArg Prod.fst hq0
  have hG : G = (aNat G (xs (i + 1)) (xs (i + 2))).2 := congrArg Prod.snd hq0
  have hRC1 : RC S (aNat G (xs (i + 1)) (xs (i + 2))).2 := by rw [← hG]; exact hRC
  obtain ⟨⟨v2, SM1⟩, hfm, hm, hRM1⟩ := mNat (x1 := (xs (i + 1))) (x2 := (xs (i + 2))) hRM
  have hm : mres mcI r v2 SM1 := by rw [hq]; exact hm
  have hcod : ∀ e, r = .inl e → e ∈ [1] := fun e h => k_nat (H := G) (x1 := (xs (i + 1))) (x2 := (xs (i + 2))) e (by rw [← hq]; exact h)
  have hcod2 : ∀ e9, r = .inl e9 → e9 = 1 := fun e9 h => by simpa using hcod e9 h
  have hne : ∀ e, r = .inl e → ¬ nI (mcI e) = 0 := fun e h => by
    rcases hcod2 e h with rfl <;> decide
  refine lv_aload_n hx hb dL_law_843 rfl (lv_at hl 1 rfl) ?_
  refine w_callL F hK hKJ hP hO hS hX hN hAL (fun q h1 h2 => by unfold A0L at h2; omega) [.ref (s.heap.size + 0), .int (xs (i + 1)), .int (xs (i + 2)), .ref (s.heap.size + 160)] (c_L_noteAt l hfl D cI cO cJ s.heap.size (s.heap.size + 160) hoL S fl (xs (i + 1)) (xs (i + 2)) r hf hcod2) wd_700 wd_701 wd_0 wd_702 hd_L_noteAt rfl rfl ⟨Nat.le_of_ble_eq_true rfl, Nat.le_of_ble_eq_true rfl⟩ rfl hl (rest := []) rfl (Nat.le_of_ble_eq_true rfl) dL_law_844 ⟨Nat.le_trans (Nat.add_le_add_left (by decide) _) hrm.1, Nat.le_trans (Nat.add_le_add_left (by decide) _) hrm.2⟩ (fun H1 locs1 hP hO hfr hS => ?_)
  have hMo : va_P D vwCl (wM cI cZ (s.heap.size + 136) SM) H1 := wk_kept hMo wM_D (fun q h1 h2 => by unfold AM at h1; rcases h2 with h2 | h2 <;> (try unfold AC at h2) <;> omega) hfr
  refine W.widen (k := cells + 5) (n := slots + 30) (Nat.add_le_add_left (by decide) _) (Nat.add_le_add_left (by decide) _) ?_
  refine lv_istore (lv' := (5, .int (kc mcI r)) :: ltop s bs i) hx hb dL_law_847 hl (by decide) rfl (fun ls hl => ?_)
  refine lv_aload_n hx hb dL_law_849 rfl (lv_at hl 3 rfl) ?_
  refine lv_aload_n hx hb dL_law_850 rfl (lv_at hl 5 rfl) ?_
  refine w_arg C hS hl (k := 1) (i := i) (j := 1) rfl (by omega) (by decide) dL_law_851 dL_law_853 dL_law_854 dL_law_855 ?_
  refine lv_aload_n hx hb dL_law_856 rfl (lv_at hl 5 rfl) ?_
  refine w_arg C hS hl (k := 1) (i := i) (j := 2) rfl (by omega) (by decide) dL_law_857 dL_law_859 dL_law_860 dL_law_861 ?_
  refine w_calli F hKM hMo hS hAM [.int (xs (i + 1)), .int (xs (i + 2))] (c_X7_noteAt l D cI cZ (s.heap.size + 136) SM (xs (i + 1)) (xs (i + 2)) v2 SM1 hfm) wd_969 wd_970 wd_971 wd_9 wd_972 wM_o rfl hd_X7_noteAt rfl rfl ⟨Nat.le_of_ble_eq_true rfl, Nat.le_of_ble_eq_true rfl⟩ rfl hl (rest := []) rfl (Nat.le_of_ble_eq_true rfl) dL_law_862 hrm (fun H2 locs2 hMo hfr hS => ?_)
  have hP : va_P D vwCl (wC cI cO s.heap.size S) H2 := wk_kept hP wC_D (fun q h1 h2 => by unfold AC at h1; unfold AM at h2; omega) hfr
  have hO : va_P D vwCl (oW cJ (s.heap.size + 160) (ou r fl)) H2 := wk_kept hO oW_D (fun q h1 h2 => by unfold AM at h2; omega) hfr
  exact w_tail C ⟨Nat.le_of_ble_eq_true rfl, Nat.le_of_ble_eq_true rfl⟩ hrm (G := (aNat G (xs (i + 1)) (xs (i + 2))).2) ⟨hP, hO, hMo, hS, hRC1, hRM1⟩ hm hne hl dL_law_865 dL_law_867 dL_law_868 dL_law_871 dL_law_873 (by decide) dL_law_878 dL_law_880 (by decide) dL_law_883 dL_law_884 dL_law_885 dL_law_886 dL_law_888 dL_law_889 dL_law_890 (by decide) dL_law_895 (by decide) (fun H3 locs3 ls3 hW3 hl3 => kk H3 locs3 ls3 S (ou r fl) SM1 (aNat G (xs (i + 1)) (xs (i + 2))).2 hW3 hl3)
set_option maxRecDepth 100000 in
set_option maxHeartbeats 4000000 in
theorem case_pages {p : Program} {l : Launch} {e : Env} {s : State} {m : MethodId} {args : Array Value} {below : List Frame} {meth : Method} {c : Code} {H : Heap} {locs : List Loc} {cells slots : Nat} {Q : State → Prop} {ls : Array Slot} {D : va_G} {cI cO cJ cZ : ClassId} {bs L i : Nat} {xs : Nat → Int32} {S SM : St} {fl : Nat → Int64} {G : Hs} (C : LC p l s m args c D cI cO cJ cZ bs L xs) (hW : LSt D cI cO cJ cZ s H locs S fl SM G) (hi : i + 5 ≤ L) (hl : lv_has ls 7 (ltop s bs i)) (hrm : cells + 5 ≤ room_1.cells ∧ slots + 30 ≤ room_1.slots) (kk : ∀ (H1 : Heap) (locs1 : List Loc) (ls1 : Array Slot) (S1 : St) (fl1 : Nat → Int64) (SM1 : St) (G1 : Hs), LSt D cI cO cJ cZ s H1 locs1 S1 fl1 SM1 G1 → lv_has ls1 7 (ltop s bs i) → W p l e room_1 s m args below meth c H1 locs1 (cells + 5) (slots + 30) Q (F0 m 1078 ls1 [])) : W p l e room_1 s m args below meth c H locs cells slots Q (F0 m 898 ls []) := by
  obtain ⟨F, hfl, hX, hN, hK, hKJ, hKM, hXs, hbl, hL⟩ := id C
  obtain ⟨hP, hO, hMo, hS, hRC, hRM⟩ := hW
  have hx := F.1
  have hb := F.2.1
  refine lv_aload_n hx hb dL_law_898 rfl (lv_at hl 3 rfl) ?_
  refine lv_aload_n hx hb dL_law_899 rfl (lv_at hl 4 rfl) ?_
  refine w_arg C hS hl (k := 0) (i := i) (j := 1) rfl (by omega) (by decide) dL_law_900 dL_law_902 dL_law_903 dL_law_904 ?_
  obtain ⟨r, hf, hq0⟩ := cPag (x1 := (xs (i + 1))) hRC
  have hq : r = (aPag G (xs (i + 1))).1 := congrArg Prod.fst hq0
  have hG : G = (aPag G (xs (i + 1))).2 := congrArg Prod.snd hq0
  have hRC1 : RC S (aPag G (xs (i + 1))).2 := by rw [← hG]; exact hRC
  obtain ⟨⟨v2, SM1⟩, hfm, hm, hRM1⟩ := mPag (x1 := (xs (i + 1))) hRM
  have hm : mres mcI r v2 SM1 := by rw [hq]; exact hm
  have hcod : ∀ e, r = .inl e → e ∈ [1] := fun e h => k_pag (H := G) (x1 := (xs (i + 1))) e (by rw [← hq]; exact h)
  have hcod2 : ∀ e9, r = .inl e9 → e9 = 1 := fun e9 h => by simpa using hcod e9 h
  have hne : ∀ e, r = .inl e → ¬ nI (mcI e) = 0 := fun e h => by
    rcases hcod2 e h with rfl <;> decide
  refine lv_aload_n hx hb dL_law_905 rfl (lv_at hl 1 rfl) ?_
  refine w_callL F hK hKJ hP hO hS hX hN hAL (fun q h1 h2 => by unfold A0L at h2; omega) [.ref (s.heap.size + 0), .int (xs (i + 1)), .ref (s.heap.size + 160)] (c_L_pages l hfl D cI cO cJ s.heap.size (s.heap.size + 160) hoL S fl (xs (i + 1)) r hf hcod2) wd_708 wd_709 wd_0 wd_710 hd_L_pages rfl rfl ⟨Nat.le_of_ble_eq_true rfl, Nat.le_of_ble_eq_true rfl⟩ rfl hl (rest := []) rfl (Nat.le_of_ble_eq_true rfl) dL_law_906 ⟨Nat.le_trans (Nat.add_le_add_left (by decide) _) hrm.1, Nat.le_trans (Nat.add_le_add_left (by decide) _) hrm.2⟩ (fun H1 locs1 hP hO hfr hS => ?_)
  have hMo : va_P D vwCl (wM cI cZ (s.heap.size + 136) SM) H1 := wk_kept hMo wM_D (fun q h1 h2 => by unfold AM at h1; rcases h2 with h2 | h2 <;> (try unfold AC at h2) <;> omega) hfr
  refine W.widen (k := cells + 5) (n := slots + 30) (Nat.add_le_add_left (by decide) _) (Nat.add_le_add_left (by decide) _) ?_
  refine lv_istore (lv' := (5, .int (kc mcI r)) :: ltop s bs i) hx hb dL_law_909 hl (by decide) rfl (fun ls hl => ?_)
  refine lv_aload_n hx hb dL_law_911 rfl (lv_at hl 3 rfl) ?_
  refine lv_aload_n hx hb dL_law_912 rfl (lv_at hl 5 rfl) ?_
  refine w_arg C hS hl (k := 1) (i := i) (j := 1) rfl (by omega) (by decide) dL_law_913 dL_law_915 dL_law_916 dL_law_917 ?_
  refine w_calli F hKM hMo hS hAM [.int (xs (i + 1))] (c_X7_pages l D cI cZ (s.heap.size + 136) SM (xs (i + 1)) v2 SM1 hfm) wd_973 wd_974 wd_975 wd_9 wd_976 wM_o rfl hd_X7_pages rfl rfl ⟨Nat.le_of_ble_eq_true rfl, Nat.le_of_ble_eq_true rfl⟩ rfl hl (rest := []) rfl (Nat.le_of_ble_eq_true rfl) dL_law_918 hrm (fun H2 locs2 hMo hfr hS => ?_)
  have hP : va_P D vwCl (wC cI cO s.heap.size S) H2 := wk_kept hP wC_D (fun q h1 h2 => by unfold AC at h1; unfold AM at h2; omega) hfr
  have hO : va_P D vwCl (oW cJ (s.heap.size + 160) (ou r fl)) H2 := wk_kept hO oW_D (fun q h1 h2 => by unfold AM at h2; omega) hfr
  exact w_tail C ⟨Nat.le_of_ble_eq_true rfl, Nat.le_of_ble_eq_true rfl⟩ hrm (G := (aPag G (xs (i + 1))).2) ⟨hP, hO, hMo, hS, hRC1, hRM1⟩ hm hne hl dL_law_921 dL_law_923 dL_law_924 dL_law_927 dL_law_929 (by decide) dL_law_934 dL_law_936 (by decide) dL_law_939 dL_law_940 dL_law_941 dL_law_942 dL_law_944 dL_law_945 dL_law_946 (by decide) dL_law_951 (by decide) (fun H3 locs3 ls3 hW3 hl3 => kk H3 locs3 ls3 S (ou r fl) SM1 (aPag G (xs (i + 1))).2 hW3 hl3)
set_option maxRecDepth 100000 in
set_option maxHeartbeats 4000000 in
theorem case_aheadAnew {p : Program} {l : Launch} {e : Env} {s : State} {m : MethodId} {args : Array Value} {below : List Frame} {meth : Method} {c : Code} {H : Heap} {locs : List Loc} {cells slots : Nat} {Q : State → Prop} {ls : Array Slot} {D : va_G} {cI cO cJ cZ : ClassId} {bs L i : Nat} {xs : Nat → Int32} {S SM : St} {fl : Nat → Int64} {G : Hs} (C : LC p l s m args c D cI cO cJ cZ bs L xs) (hW : LSt D cI cO cJ cZ s H locs S fl SM G) (hi : i + 5 ≤ L) (hl : lv_has ls 7 (ltop s bs i)) (hrm : cells + 5 ≤ room_1.cells ∧ slots + 30 ≤ room_1.slots) (kk : ∀ (H1 : Heap) (locs1 : List Loc) (ls1 : Array Slot) (S1 : St) (fl1 : Nat → Int64) (SM1 : St) (G1 : Hs), LSt D cI cO cJ cZ s H1 locs1 S1 fl1 SM1 G1 → lv_has ls1 7 (ltop s bs i) → W p l e room_1 s m args below meth c H1 locs1 (cells + 5) (slots + 30) Q (F0 m 1078 ls1 [])) : W p l e room_1 s m args below meth c H locs cells slots Q (F0 m 954 ls []) := by
  obtain ⟨F, hfl, hX, hN, hK, hKJ, hKM, hXs, hbl, hL⟩ := id C
  obtain ⟨hP, hO, hMo, hS, hRC, hRM⟩ := hW
  have hx := F.1
  have hb := F.2.1
  refine lv_aload_n hx hb dL_law_954 rfl (lv_at hl 3 rfl) ?_
  refine lv_aload_n hx hb dL_law_955 rfl (lv_at hl 4 rfl) ?_
  refine w_arg C hS hl (k := 0) (i := i) (j := 1) rfl (by omega) (by decide) dL_law_956 dL_law_958 dL_law_959 dL_law_960 ?_
  refine lv_aload_n hx hb dL_law_961 rfl (lv_at hl 4 rfl) ?_
  refine w_arg C hS hl (k := 0) (i := i) (j := 2) rfl (by omega) (by decide) dL_law_962 dL_law_964 dL_law_965 dL_law_966 ?_
  obtain ⟨r, hf, hq0⟩ := cAhe (x1 := (xs (i + 1))) (x2 := (xs (i + 2))) hRC
  have hq : r = (aAhe G (xs (i + 1)) (xs (i + 2))).1 := congrArg Prod.fst hq0
  have hG : G = (aAhe G (xs (i + 1)) (xs (i + 2))).2 := congrArg Prod.snd hq0
  have hRC1 : RC S (aAhe G (xs (i + 1)) (xs (i + 2))).2 := by rw [← hG]; exact hRC
  obtain ⟨⟨v2, SM1⟩, hfm, hm, hRM1⟩ := mAhe (x1 := (xs (i + 1))) (x2 := (xs (i + 2))) hRM
  have hm : mres mcI r v2 SM1 := by rw [hq]; exact hm
  have hcod : ∀ e, r = .inl e → e ∈ [1] := fun e h => k_ahe (H := G) (x1 := (xs (i + 1))) (x2 := (xs (i + 2))) e (by rw [← hq]; exact h)
  have hcod2 : ∀ e9, r = .inl e9 → e9 = 1 := fun e9 h => by simpa using hcod e9 h
  have hne : ∀ e, r = .inl e → ¬ nI (mcI e) = 0 := fun e h => by
    rcases hcod2 e h with rfl <;> decide
  refine lv_aload_n hx hb dL_law_967 rfl (lv_at hl 1 rfl) ?_
  refine w_callL F hK hKJ hP hO hS hX hN hAL (fun q h1 h2 => by unfold A0L at h2; omega) [.ref (s.heap.size + 0), .int (xs (i + 1)), .int (xs (i + 2)), .ref (s.heap.size + 160)] (c_L_aheadAnew l hfl D cI cO cJ s.heap.size (s.heap.size + 160) hoL S fl (xs (i + 1)) (xs (i + 2)) r hf hcod2) wd_716 wd_717 wd_0 wd_718 hd_L_aheadAnew rfl rfl ⟨Nat.le_of_ble_eq_true rfl, Nat.le_of_ble_eq_true rfl⟩ rfl hl (rest := []) rfl (Nat.le_of_ble_eq_true rfl) dL_law_968 ⟨Nat.le_trans (Nat.add_le_add_left (by decide) _) hrm.1, Nat.le_trans (Nat.add_le_add_left (by decide) _) hrm.2⟩ (fun H1 locs1 hP hO hfr hS => ?_)
  have hMo : va_P D vwCl (wM cI cZ (s.heap.size + 136) SM) H1 := wk_kept hMo wM_D (fun q h1 h2 => by unfold AM at h1; rcases h2 with h2 | h2 <;> (try unfold AC at h2) <;> omega) hfr
  refine W.widen (k := cells + 5) (n := slots + 30) (Nat.add_le_add_left (by decide) _) (Nat.add_le_add_left (by decide) _) ?_
  refine lv_istore (lv' := (5, .int (kc mcI r)) :: ltop s bs i) hx hb dL_law_971 hl (by decide) rfl (fun ls hl => ?_)
  refine lv_aload_n hx hb dL_law_973 rfl (lv_at hl 3 rfl) ?_
  refine lv_aload_n hx hb dL_law_974 rfl (lv_at hl 5 rfl) ?_
  refine w_arg C hS hl (k := 1) (i := i) (j := 1) rfl (by omega) (by decide) dL_law_975 dL_law_977 dL_law_978 dL_law_979 ?_
  refine lv_aload_n hx hb dL_law_980 rfl (lv_at hl 5 rfl) ?_
  refine w_arg C hS hl (k := 1) (i := i) (j := 2) rfl (by omega) (by decide) dL_law_981 dL_law_983 dL_law_984 dL_law_985 ?_
  refine w_calli F hKM hMo hS hAM [.int (xs (i + 1)), .int (xs (i + 2))] (c_X7_aheadAnew l D cI cZ (s.heap.size + 136) SM (xs (i + 1)) (xs (i + 2)) v2 SM1 hfm) wd_977 wd_978 wd_979 wd_9 wd_980 wM_o rfl hd_X7_aheadAnew rfl rfl ⟨Nat.le_of_ble_eq_true rfl, Nat.le_of_ble_eq_true rfl⟩ rfl hl (rest := []) rfl (Nat.le_of_ble_eq_true rfl) dL_law_986 hrm (fun H2 locs2 hMo hfr hS => ?_)
  have hP : va_P D vwCl (wC cI cO s.heap.size S) H2 := wk_kept hP wC_D (fun q h1 h2 => by unfold AC at h1; unfold AM at h2; omega) hfr
  have hO : va_P D vwCl (oW cJ (s.heap.size + 160) (ou r fl)) H2 := wk_kept hO oW_D (fun q h1 h2 => by unfold AM at h2; omega) hfr
  exact w_tail C ⟨Nat.le_of_ble_eq_true rfl, Nat.le_of_ble_eq_true rfl⟩ hrm (G := (aAhe G (xs (i + 1)) (xs (i + 2))).2) ⟨hP, hO, hMo, hS, hRC1, hRM1⟩ hm hne hl dL_law_989 dL_law_991 dL_law_992 dL_law_995 dL_law_997 (by decide) dL_law_1002 dL_law_1004 (by decide) dL_law_1007 dL_law_1008 dL_law_1009 dL_law_1010 dL_law_1012 dL_law_1013 dL_law_1014 (by decide) dL_law_1019 (by decide) (fun H3 locs3 ls3 hW3 hl3 => kk H3 locs3 ls3 S (ou r fl) SM1 (aAhe G (xs (i + 1)) (xs (i + 2))).2 hW3 hl3)
set_option maxRecDepth 100000 in
set_option maxHeartbeats 4000000 in
theorem case_known {p : Program} {l : Launch} {e : Env} {s : State} {m : MethodId} {args : Array Value} {below : List Frame} {meth : Method} {c : Code} {H : Heap} {locs : List Loc} {cells slots : Nat} {Q : State → Prop} {ls : Array Slot} {D : va_G} {cI cO cJ cZ : ClassId} {bs L i : Nat} {xs : Nat → Int32} {S SM : St} {fl : Nat → Int64} {G : Hs} (C : LC p l s m args c D cI cO cJ cZ bs L xs) (hW : LSt D cI cO cJ cZ s H locs S fl SM G) (hi : i + 5 ≤ L) (hl : lv_has ls 7 (ltop s bs i)) (hrm : cells + 5 ≤ room_1.cells ∧ slots + 30 ≤ room_1.slots) (kk : ∀ (H1 : Heap) (locs1 : List Loc) (ls1 : Array Slot) (S1 : St) (fl1 : Nat → Int64) (SM1 : St) (G1 : Hs), LSt D cI cO cJ cZ s H1 locs1 S1 fl1 SM1 G1 → lv_has ls1 7 (ltop s bs i) → W p l e room_1 s m args below meth c H1 locs1 (cells + 5) (slots + 30) Q (F0 m 1078 ls1 [])) : W p l e room_1 s m args below meth c H locs cells slots Q (F0 m 1022 ls []) := by
  obtain ⟨F, hfl, hX, hN, hK, hKJ, hKM, hXs, hbl, hL⟩ := id C
  obtain ⟨hP, hO, hMo, hS, hRC, hRM⟩ := hW
  have hx := F.1
  have hb := F.2.1
  refine lv_aload_n hx hb dL_law_1022 rfl (lv_at hl 3 rfl) ?_
  refine lv_aload_n hx hb dL_law_1023 rfl (lv_at hl 4 rfl) ?_
  refine w_arg C hS hl (k := 0) (i := i) (j := 1) rfl (by omega) (by decide) dL_law_1024 dL_law_1026 dL_law_1027 dL_law_1028 ?_
  obtain ⟨r, hf, hq0⟩ := cKno (x1 := (xs (i + 1))) hRC
  have hq : r = (aKno G (xs (i + 1))).1 := congrArg Prod.fst hq0
  have hG : G = (aKno G (xs (i + 1))).2 := congrArg Prod.snd hq0
  have hRC1 : RC S (aKno G (xs (i + 1))).2 := by rw [← hG]; exact hRC
  obtain ⟨⟨v2, SM1⟩, hfm, hm, hRM1⟩ := mKno (x1 := (xs (i + 1))) hRM
  have hm : mres mcI r v2 SM1 := by rw [hq]; exact hm
  have hcod : ∀ e, r = .inl e → e ∈ [1] := fun e h => k_kno (H := G) (x1 := (xs (i + 1))) e (by rw [← hq]; exact h)
  have hcod2 : ∀ e9, r = .inl e9 → e9 = 1 := fun e9 h => by simpa using hcod e9 h
  have hne : ∀ e, r = .inl e → ¬ nI (mcI e) = 0 := fun e h => by
    rcases hcod2 e h with rfl <;> decide
  refine lv_aload_n hx hb dL_law_1029 rfl (lv_at hl 1 rfl) ?_
  refine w_callL F hK hKJ hP hO hS hX hN hAL (fun q h1 h2 => by unfold A0L at h2; omega) [.ref (s.heap.size + 0), .int (xs (i + 1)), .ref (s.heap.size + 160)] (c_L_known l hfl D cI cO cJ s.heap.size (s.heap.size + 160) hoL S fl (xs (i + 1)) r hf hcod2) wd_735 wd_736 wd_0 wd_737 hd_L_known rfl rfl ⟨Nat.le_of_ble_eq_true rfl, Nat.le_of_ble_eq_true rfl⟩ rfl hl (rest := []) rfl (Nat.le_of_ble_eq_true rfl) dL_law_1030 ⟨Nat.le_trans (Nat.add_le_add_left (by decide) _) hrm.1, Nat.le_trans (Nat.add_le_add_left (by decide) _) hrm.2⟩ (fun H1 locs1 hP hO hfr hS => ?_)
  have hMo : va_P D vwCl (wM cI cZ (s.heap.size + 136) SM) H1 := wk_kept hMo wM_D (fun q h1 h2 => by unfold AM at h1; rcases h2 with h2 | h2 <;> (try unfold AC at h2) <;> omega) hfr
  refine W.widen (k := cells + 5) (n := slots + 30) (Nat.add_le_add_left (by decide) _) (Nat.add_le_add_left (by decide) _) ?_
  refine lv_istore (lv' := (5, .int (kc mcI r)) :: ltop s bs i) hx hb dL_law_1033 hl (by decide) rfl (fun ls hl => ?_)
  refine lv_aload_n hx hb dL_law_1035 rfl (lv_at hl 3 rfl) ?_
  refine lv_aload_n hx hb dL_law_1036 rfl (lv_at hl 5 rfl) ?_
  refine w_arg C hS hl (k := 1) (i := i) (j := 1) rfl (by omega) (by decide) dL_law_1037 dL_law_1039 dL_law_1040 dL_law_1041 ?_
  refine w_calli F hKM hMo hS hAM [.int (xs (i + 1))] (c_X7_known l D cI cZ (s.heap.size + 136) SM (xs (i + 1)) v2 SM1 hfm) wd_981 wd_982 wd_983 wd_9 wd_984 wM_o rfl hd_X7_known rfl rfl ⟨Nat.le_of_ble_eq_true rfl, Nat.le_of_ble_eq_true rfl⟩ rfl hl (rest := []) rfl (Nat.le_of_ble_eq_true rfl) dL_law_1042 hrm (fun H2 locs2 hMo hfr hS => ?_)
  have hP : va_P D vwCl (wC cI cO s.heap.size S) H2 := wk_kept hP wC_D (fun q h1 h2 => by unfold AC at h1; unfold AM at h2; omega) hfr
  have hO : va_P D vwCl (oW cJ (s.heap.size + 160) (ou r fl)) H2 := wk_kept hO oW_D (fun q h1 h2 => by unfold AM at h2; omega) hfr
  exact w_tail C ⟨Nat.le_of_ble_eq_true rfl, Nat.le_of_ble_eq_true rfl⟩ hrm (G := (aKno G (xs (i + 1))).2) ⟨hP, hO, hMo, hS, hRC1, hRM1⟩ hm hne hl dL_law_1045 dL_law_1047 dL_law_1048 dL_law_1051 dL_law_1053 (by decide) dL_law_1058 dL_law_1060 (by decide) dL_law_1063 dL_law_1064 dL_law_1065 dL_law_1066 dL_law_1068 dL_law_1069 dL_law_1070 (by decide) dL_law_1075 (by decide) (fun H3 locs3 ls3 hW3 hl3 => kk H3 locs3 ls3 S (ou r fl) SM1 (aKno G (xs (i + 1))).2 hW3 hl3)
