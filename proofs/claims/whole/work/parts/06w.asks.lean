/-! THE CLASS ANSWERS AS THE HISTORY SAYS: getting deeds, the press, questions -/
section ASKS
variable {S : St} {H : Hs} {z : Nat}
theorem Hc_90 (hW : WF H) (hz : z < 4) : Hc H z ≤ 90 := by
  have := (hW.2.2.2.2.2.2.2.2 z hz).2.2.2
  have := hW.1.2
  omega
theorem cSyn {x1 x2 : Int32} (hR : RC S H) : OK (f_X6_sync S x1 x2) (fun q => q.1 = (aSyn H x1 x2).1 ∧ RC q.2 (aSyn H x1 x2).2) := by
  unfold f_X6_sync aSyn
  by_cases h1 : isS x1
  · by_cases h2 : isS x2
    · rw [pif_neg (fun q => q ⟨h1, h2⟩)]
      obtain ⟨a, ha, rfl⟩ := h1
      obtain ⟨b, hb, rfl⟩ := h2
      rw [cN_nI (by omega), cN_nI (by omega)]
      refine OK_cxr (siteOf_yes ha) (OK_cxr (siteOf_yes hb) ?_)
      obtain ⟨a1, a2, a3⟩ := hR.2.2.1 a ha
      obtain ⟨b1, b2, b3⟩ := hR.2.2.1 b hb
      have wa := hR.1.2.2.2.2.2.2.2.2 a ha
      have wb := hR.1.2.2.2.2.2.2.2.2 b hb
      have la := RC_lt hR ha
      have lb := RC_lt hR hb
      have ca := Hc_90 hR.1 ha
      have cb := Hc_90 hR.1 hb
      refine OK_cl2 (P := fun v S1 => v = nI (((kn H a).filter (fun x => decide (x ∉ kn H b))).length) ∧ SiteOK S1 b H (kn H b ++ (kn H a).filter (fun x => decide (x ∉ kn H b))) ∧ LayOK S1 b H (kn H b ++ (kn H a).filter (fun x => decide (x ∉ kn H b))) ∧ Cau H (kn H b ++ (kn H a).filter (fun x => decide (x ∉ kn H b))) ∧ gi S1 (oS b) = nI (max (Hc H b) (Hc H a)) ∧ offP (sitK b) S S1) (takeAll_ok hb ha hR.1 hR.2.1 b1 a1.1 (fun e => by rw [e]) lb wb.1 la wa.1 wb.2.2.1 wa.2.2.1 b3 a3 (by omega) (by omega)) ?_
      rintro v S1 ⟨rfl, d1, d2, d3, d4, d5⟩
      have hW2 := WF_syn hR.1 ha hb
      have hE : Ext H (synH H a b) := synH_ext
      have hlt : ∀ d ∈ kn H b ++ (kn H a).filter (fun x => decide (x ∉ kn H b)), d < Hn H := fun d hd => by
        rcases List.mem_append.mp hd with q | q
        · exact lb d q
        · exact la d (List.mem_filter.mp q).1
      have hb4 : oS b = 21 + 27 * b := rfl
      have hL : Led S1 (synH H a b) := by
        have h0 : Led S1 H := Led_offP d5 (fun k hk q => by unfold sitK at q; omega) hR.2.1
        exact h0
      have hkb : kn (synH H a b) b = kn H b ++ (kn H a).filter (fun x => decide (x ∉ kn H b)) := if_pos rfl
      have hcb : Hc (synH H a b) b = max (Hc H b) (Hc H a) := if_pos ⟨rfl, rfl⟩
      refine OK_some ⟨rfl, hW2, hL, fun z hz => ?_, Press_offP d5 (fun j hj q => by unfold sitK at q; rcases hj with r | r | r <;> omega) hR.2.2.2.1, hR.2.2.2.2⟩
      by_cases e : z = b
      · rw [e]
        dsimp only
        rw [hkb, hcb]
        exact ⟨SiteOK_ext hR.1 hlt hE d1, LayOK_ext hE hR.1 hlt d1.2.2.2.1 d2, d4⟩
      · refine RC_stay hE hW2 d5 hR hL hz (if_neg e) (if_neg (fun q => e q.2)) (fun j h1 h2 q => ?_)
        have : oS z = 21 + 27 * z := rfl
        unfold sitK at q
        omega
    · rw [pif_pos (fun q => h2 q.2)]
      obtain ⟨a, ha, rfl⟩ := h1
      exact OK_cxr (siteOf_yes ha) (OK_cxl (siteOf_no h2) (OK_some ⟨rfl, hR⟩))
  · rw [pif_pos (fun q => h1 q.1)]
    exact OK_cxl (siteOf_no h1) (OK_some ⟨rfl, hR⟩)
theorem cPri (hR : RC S H) : OK (f_X6_print S) (fun q => q.1 = (aPri H).1 ∧ RC q.2 (aPri H).2) := by
  unfold f_X6_print aPri
  obtain ⟨a1, a2, a3⟩ := hR.2.2.1 0 (by omega)
  have hO := RC_O hR (z := 0) (by omega)
  obtain ⟨h0, Q, hQ1, hQ2⟩ := a2
  have hsz := szP_le hR.1 hO
  have hQ9 := np_le hQ1
  obtain ⟨p1, p2, p3⟩ := hR.2.2.2.2
  rw [hasPage_eq hR.2.2.2.1 hQ2 p2 (by omega), npg_eq hQ1]
  refine OK_cl (OK_some rfl) ?_
  rintro v4 rfl
  by_cases h : (pr H).length < Q
  · rw [if_pos h, pif_pos h]
    refine OK_pos (by decide) ?_
    refine OK_cl2 (P := fun v S1 => v = nI ((pgL H (kn H 0) (pr H).length).length + (pgL H (kn H 0) ((pr H).length + 1)).length) ∧ PressK S1 (pr H ++ [pgL H (kn H 0) (pr H).length, pgL H (kn H 0) ((pr H).length + 1)]) ∧ offP prs S S1) (printSheet_ok hR.1 hO ⟨h0, Q, hQ1, hQ2⟩ hR.2.2.2.1 hR.2.2.2.2 (by omega)) ?_
    rintro v S1 ⟨rfl, d1, d2⟩
    have hL1 : Led S1 H := Led_offP d2 (fun k hk q => by rcases q with r | r | r <;> omega) hR.2.1
    have hE : Ext H (prH H (pr H ++ [pgL H (kn H 0) (pr H).length, pgL H (kn H 0) ((pr H).length + 1)])) := Ext_rf (H := H)
    refine OK_some ⟨rfl, hR.1, hL1, fun z hz => ?_, d1, ?_⟩
    · refine RC_stay hE hR.1 d2 hR hL1 hz rfl rfl (fun j h1 h2 q => ?_)
      have : oS z = 21 + 27 * z := rfl
      rcases q with r | r | r <;> omega
    · refine ⟨?_, ?_, fun pg hpg => ?_⟩
      · show (pr H ++ [_, _]).length % 2 = 0
        rw [List.length_append]
        show ((pr H).length + 2) % 2 = 0
        omega
      · show (pr H ++ [_, _]).length ≤ 90
        rw [List.length_append]
        show (pr H).length + 2 ≤ 90
        omega
      · rcases List.mem_append.mp hpg with q | q
        · exact p3 pg q
        · rcases List.mem_cons.mp q with rfl | q
          · exact pgL_ok hR.1 hO _
          · have : pg = pgL H (kn H 0) ((pr H).length + 1) := by simpa using q
            rw [this]
            exact pgL_ok hR.1 hO _
  · rw [if_neg h, pif_neg h]
    exact OK_neg (by decide) (OK_some ⟨rfl, hR⟩)
theorem half_eq {n : Nat} (h : n ≤ 90) : nI n / (2 : Int32) = nI (n / 2) := by
  have key : ∀ m : Fin 91, nI m.val / (2 : Int32) = nI (m.val / 2) := by decide +kernel
  exact key ⟨n, by omega⟩
theorem cShe (hR : RC S H) : OK (f_X6_sheets S) (fun v => (.inr v, H) = aShe H) := by
  unfold f_X6_sheets f_X3_sheetCount
  rw [size_eq, hR.2.2.2.1.1.1, List.length_map]
  refine OK_cl (OK_cl (P := fun v => v = nI (pr H).length) (OK_some rfl) (Q := fun v => v = nI ((pr H).length / 2)) ?_) ?_
  · rintro v rfl
    refine OK_nz (by decide) (OK_some ?_)
    exact half_eq hR.2.2.2.2.2.1
  · rintro v rfl
    exact OK_some rfl
theorem pageCount_pr (hR : RC S H) : f_X3_pageCount S = some (nI (pr H).length) := by
  unfold f_X3_pageCount cl
  rw [size_eq, hR.2.2.2.1.1.1, List.length_map]
  rfl
theorem cDif {x1 : Int32} (hR : RC S H) : OK (f_X6_differs S x1) (fun v => (v, H) = aDif H x1) := by
  unfold f_X6_differs aDif
  have h90 := hR.2.2.2.2.2.1
  refine OK_jnQ (x1 < 0 ∨ ¬ x1 < nI (pr H).length) (fun h => ?_) (fun j hj => ?_)
  · rw [pif_pos h]
    exact OK_some rfl
  · refine OK_ite (fun c => hj (Or.inl c)) (fun c => ?_)
    rw [pageCount_pr hR]
    refine OK_cl (OK_some rfl) ?_
    rintro v9 rfl
    refine OK_ite (fun c1 => ?_) (fun c1 => hj (Or.inr c1))
    rw [pif_neg (fun q => q.elim c (fun q => q c1))]
    obtain ⟨p, hp, rfl⟩ := nI_of c
    have hlt := (nI_ltI hp (by omega)).mp c1
    rw [difference_eq hR.1 (RC_O hR (z := 0) (by omega)) (hR.2.2.1 0 (by omega)).2.1 hR.2.2.2.1 hR.2.2.2.2 hlt, cN_nI hp]
    refine OK_cl (OK_some rfl) ?_
    rintro v30 rfl
    exact OK_some rfl
theorem cCos (hR : RC S H) : OK (f_X6_cost S) (fun v => (.inr v, H) = aCos H) := by
  unfold f_X6_cost aCos
  rw [bill_eq hR.1 (RC_O hR (z := 0) (by omega)) (hR.2.2.1 0 (by omega)).2.1 hR.2.2.2.1 hR.2.2.2.2]
  refine OK_cl (OK_some rfl) ?_
  rintro v rfl
  exact OK_some rfl
theorem lineCountZ (hR : RC S H) (hz : z < 4) : f_X0_lineCount S z = some (nI (szP H (kn H z))) := by
  unfold f_X0_lineCount cl
  rw [size_eq, lay_size (hR.2.2.1 z hz).2.1.1]
  rfl
theorem cLin {x1 : Int32} (hR : RC S H) : OK (f_X6_lines S x1) (fun v => (v, H) = aLin H x1) := by
  unfold f_X6_lines aLin
  by_cases h1 : isS x1
  · obtain ⟨z, hz, rfl⟩ := h1
    rw [pif_neg (fun q => q ⟨z, hz, rfl⟩), cN_nI (by omega)]
    refine OK_cxr (siteOf_yes hz) ?_
    rw [lineCountZ hR hz]
    refine OK_cl (OK_some rfl) ?_
    rintro v rfl
    exact OK_some rfl
  · rw [pif_pos h1]
    exact OK_cxl (siteOf_no h1) (OK_some rfl)
theorem nought_yes {x : Int32} (h : ¬ x < 0) : f_X6_checkFromNought S x = some (.inr ()) := by
  obtain ⟨j, hj, rfl⟩ := nI_of h
  unfold f_X6_checkFromNought
  rw [if_pos (nI_pos' hj)]
theorem nought_no {x : Int32} (h : x < 0) : f_X6_checkFromNought S x = some (.inl 1) := by
  unfold f_X6_checkFromNought
  rw [if_neg]
  intro q
  rw [Int32.lt_iff_toInt_lt] at h
  rw [Int32.le_iff_toInt_le] at q
  omega
theorem cLat {x1 x2 x3 : Int32} (hR : RC S H) : OK (f_X6_lineAt S x1 x2 x3) (fun v => (v, H) = aLat H x1 x2 x3) := by
  unfold f_X6_lineAt aLat
  by_cases h1 : isS x1
  · obtain ⟨z, hz, rfl⟩ := h1
    rw [pif_neg (fun q => q ⟨z, hz, rfl⟩), cN_nI (by omega)]
    refine OK_cxr (siteOf_yes hz) ?_
    by_cases h2 : x2 < 0
    · rw [pif_pos h2]
      exact OK_cxl (nought_no h2) (OK_some rfl)
    · rw [pif_neg h2]
      refine OK_cxr (nought_yes h2) ?_
      refine OK_jnQ (x3 < 0 ∨ ¬ x3 ≤ 4) (fun h => ?_) (fun j hj => ?_)
      · rw [pif_pos h]
        exact OK_some rfl
      · refine OK_ite (fun c => hj (Or.inl c)) (fun c => OK_ite (fun c1 => ?_) (fun c1 => hj (Or.inr c1)))
        rw [pif_neg (fun q => q.elim c (fun q => q c1))]
        obtain ⟨k, hk, rfl⟩ := nI_of h2
        rw [lineCountZ hR hz, cN_nI hk]
        refine OK_cl (OK_some rfl) ?_
        rintro v37 rfl
        have hO := RC_O hR hz
        have hLy := (hR.2.2.1 z hz).2.1
        have hsz := szP_le hR.1 hO
        refine OK_ite (fun c2 => ?_) (fun c2 => ?_)
        · have hks := (nI_ltI hk (by omega)).mp c2
          obtain ⟨x, hx⟩ : ∃ x, x = (tl H (kn H z))[k]'hks := ⟨_, rfl⟩
          have hw : what H (kn H z) k x3 = if x3 = 0 then nI x else if x3 = 1 then nI (va H x) else if x3 = 2 then nI (rP H (kn H z) k) else if x3 = 3 then (if bP H (kn H z) k = true then 1 else 0) else nI (pgO H (kn H z) k) := by
            unfold what
            rw [List.getElem?_eq_getElem (l := tl H (kn H z)) hks, ← hx]
          have hli := line_eq hR.1 hO hLy.1 hks
          rw [← hx] at hli
          have hxl : x < HL H := tl_lt hO (hx ▸ List.getElem_mem hks)
          rw [hw]
          refine OK_ite (fun e => ?_) (fun e => ?_)
          · rw [if_pos e, hli]
            refine OK_cl (OK_some rfl) ?_
            rintro v rfl
            exact OK_some rfl
          rw [if_neg e]
          refine OK_ite (fun e => ?_) (fun e => ?_)
          · rw [if_pos e, hli]
            refine OK_cl (OK_some rfl) ?_
            rintro v rfl
            rw [valueOf_eq hR.1 hR.2.1 hxl]
            refine OK_cl (OK_some rfl) ?_
            rintro v rfl
            exact OK_some rfl
          rw [if_neg e]
          refine OK_ite (fun e => ?_) (fun e => ?_)
          · rw [if_pos e, rows_eq hR.1 hO hLy.1 hks]
            refine OK_cl (OK_some rfl) ?_
            rintro v rfl
            exact OK_some rfl
          rw [if_neg e]
          refine OK_ite (fun e => ?_) (fun e => ?_)
          · rw [if_pos e, layBegins_eq hR.1 hO hLy.1 hks]
            refine OK_cl (OK_some rfl) ?_
            rintro v rfl
            by_cases b : bP H (kn H z) k = true
            · rw [if_pos b]
              exact OK_neg (by decide) (OK_some rfl)
            · rw [if_neg b]
              exact OK_pos rfl (OK_some rfl)
          rw [if_neg e]
          refine OK_cl (pageOf_ok hR.1 hO hLy hks) ?_
          rintro v ⟨p, rfl, p1, p2⟩
          rw [pgO_eq ⟨p1, p2⟩]
          exact OK_some rfl
        · have hks : szP H (kn H z) ≤ k := by
            rcases Nat.lt_or_ge k (szP H (kn H z)) with q | q
            · exact absurd (nI_lt q (by omega)) c2
            · exact q
          unfold what
          rw [List.getElem?_eq_none (l := tl H (kn H z)) hks]
          exact OK_some rfl
  · rw [pif_pos h1]
    exact OK_cxl (siteOf_no h1) (OK_some rfl)
theorem RC_scr {S1 : St} (hR : RC S H) (hz : z < 4) (ho : offP (scr z) S S1) : RC S1 H := by
  have hzT : oT z = oS z + 5 := rfl
  have hzS : oS z = 21 + 27 * z := rfl
  refine ⟨hR.1, Led_offP ho (fun k hk q => by rcases q with r | r <;> omega) hR.2.1, fun w hw => ?_, Press_offP ho (fun j hj q => by rcases q with r | r <;> rcases hj with t | t | t <;> omega) hR.2.2.2.1, hR.2.2.2.2⟩
  obtain ⟨⟨a1, a2, a3⟩, b, c⟩ := hR.2.2.1 w hw
  have hwT : oT w = oS w + 5 := rfl
  have hwS : oS w = 21 + 27 * w := rfl
  have hwL : oL w = oS w + 18 := rfl
  refine ⟨⟨offP_V ho (fun q => by rcases q with r | r <;> omega) a1, ?_, TextOK_offP ho (fun j hj q => by rcases q with r | r <;> rcases hj with t | t | t | t <;> omega) a3⟩, LayOK_offP ho (fun j hj q => by rcases q with r | r <;> rcases hj with t | t | t | t <;> omega) b, ?_⟩
  · rw [(ho (oS w + 3) (fun q => by rcases q with r | r <;> omega)).2]
    exact a2
  · rw [(ho (oS w) (fun q => by rcases q with r | r <;> omega)).1]
    exact c
theorem cAne {x1 x2 : Int32} (hR : RC S H) : OK (f_X6_lineAnew S x1 x2) (fun q => (q.1, H) = aAne H x1 x2 ∧ RC q.2 H) := by
  unfold f_X6_lineAnew aAne
  by_cases h1 : isS x1
  · obtain ⟨z, hz, rfl⟩ := h1
    rw [pif_neg (fun q => q ⟨z, hz, rfl⟩), cN_nI (by omega)]
    refine OK_cxr (siteOf_yes hz) ?_
    by_cases h2 : x2 < 0
    · rw [pif_pos h2]
      exact OK_cxl (nought_no h2) (OK_some ⟨rfl, hR⟩)
    · rw [pif_neg h2]
      refine OK_cxr (nought_yes h2) ?_
      obtain ⟨j, hj, rfl⟩ := nI_of h2
      rw [cN_nI hj]
      refine OK_cl2 (P := fun v S1 => v = opt (tl H (kn H z))[j]? ∧ offP (scr z) S S1) (findAnew_ok hz hR.1 hR.2.1 (hR.2.2.1 z hz).1.2.2 (hR.1.2.2.2.2.2.2.2.2 z hz).2.2.1 hj) ?_
      rintro v S1 ⟨rfl, d⟩
      exact OK_some ⟨rfl, RC_scr hR hz d⟩
  · rw [pif_pos h1]
    exact OK_cxl (siteOf_no h1) (OK_some ⟨rfl, hR⟩)
theorem cNat {x1 x2 : Int32} (hR : RC S H) : OK (f_X6_noteAt S x1 x2) (fun v => (v, H) = aNat H x1 x2) := by
  unfold f_X6_noteAt aNat
  by_cases h1 : isS x1
  · obtain ⟨z, hz, rfl⟩ := h1
    rw [pif_neg (fun q => q ⟨z, hz, rfl⟩), cN_nI (by omega)]
    refine OK_cxr (siteOf_yes hz) ?_
    by_cases h2 : NK H (kn H z) x2
    · rw [pif_neg (fun q => q h2)]
      refine OK_cxr (checkNote_yes hR hz h2) ?_
      obtain ⟨m, rfl, hk⟩ := h2
      have hm := kN_90 hR.1 hk
      have hT := (hR.2.2.1 z hz).1.2.2
      rw [cN_nI (by omega), lineOfNote_eq hz hR.1 hT hm hk (bst_in hR.1 (RC_lt hR hz) (hR.1.2.2.2.2.2.2.2.2 z hz).2.2.1 (RC_O hR hz) (best_ex hR.1 hk))]
      refine OK_cl (OK_some rfl) ?_
      rintro v rfl
      exact OK_some rfl
    · rw [pif_pos h2]
      exact OK_cxl (checkNote_no hR hz h2) (OK_some rfl)
  · rw [pif_pos h1]
    exact OK_cxl (siteOf_no h1) (OK_some rfl)
theorem cPag {x1 : Int32} (hR : RC S H) : OK (f_X6_pages S x1) (fun v => (v, H) = aPag H x1) := by
  unfold f_X6_pages aPag
  by_cases h1 : isS x1
  · obtain ⟨z, hz, rfl⟩ := h1
    rw [pif_neg (fun q => q ⟨z, hz, rfl⟩), cN_nI (by omega)]
    refine OK_cxr (siteOf_yes hz) ?_
    obtain ⟨-, Q, hQ1, hQ2⟩ := (hR.2.2.1 z hz).2.1
    rw [pageCount_eq hQ2, npg_eq hQ1]
    refine OK_cl (OK_some rfl) ?_
    rintro v rfl
    exact OK_some rfl
  · rw [pif_pos h1]
    exact OK_cxl (siteOf_no h1) (OK_some rfl)
theorem cAhe {x1 x2 : Int32} (hR : RC S H) : OK (f_X6_aheadAnew S x1 x2) (fun v => (v, H) = aAhe H x1 x2) := by
  unfold f_X6_aheadAnew aAhe
  by_cases h1 : isS x1
  · obtain ⟨z, hz, rfl⟩ := h1
    rw [pif_neg (fun q => q ⟨z, hz, rfl⟩), cN_nI (by omega)]
    refine OK_cxr (siteOf_yes hz) ?_
    by_cases h2 : x2 < 0
    · rw [pif_pos h2]
      exact OK_cxl (nought_no h2) (OK_some rfl)
    · rw [pif_neg h2]
      refine OK_cxr (nought_yes h2) ?_
      obtain ⟨j, hj, rfl⟩ := nI_of h2
      rw [cN_nI hj, countAheadAnew_eq hR.1 (RC_O hR hz) (hR.2.2.1 z hz).2.1.1 hj]
      refine OK_cl (OK_some rfl) ?_
      rintro v rfl
      exact OK_some rfl
  · rw [pif_pos h1]
    exact OK_cxl (siteOf_no h1) (OK_some rfl)
theorem cKno {x1 : Int32} (hR : RC S H) : OK (f_X6_known S x1) (fun v => (v, H) = aKno H x1) := by
  unfold f_X6_known aKno
  by_cases h1 : isS x1
  · obtain ⟨z, hz, rfl⟩ := h1
    rw [pif_neg (fun q => q ⟨z, hz, rfl⟩), cN_nI (by omega)]
    refine OK_cxr (siteOf_yes hz) ?_
    unfold f_X4_deedCount
    rw [size_eq, (hR.2.2.1 z hz).1.1.1, List.length_map]
    refine OK_cl (OK_cl (OK_some rfl) (P := fun v => v = nI (kn H z).length) (Q := fun v => v = nI (kn H z).length) ?_) ?_
    · rintro v rfl
      exact OK_some rfl
    · rintro v rfl
      exact OK_some rfl
  · rw [pif_pos h1]
    exact OK_cxl (siteOf_no h1) (OK_some rfl)
end ASKS
