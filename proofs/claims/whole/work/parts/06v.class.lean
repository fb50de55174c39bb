/-! THE CLASS ANSWERS AS THE HISTORY SAYS: deeds -/
theorem OK_cxl {α R : Type} {x : Option (Nat ⊕ α)} {kt : Nat → Option R} {k : α → Option R} {e : Nat} {P : R → Prop} (h : x = some (.inl e)) (h1 : OK (kt e) P) : OK (cx x kt k) P := by rw [h]; exact h1
theorem OK_cxr {α R : Type} {x : Option (Nat ⊕ α)} {kt : Nat → Option R} {k : α → Option R} {a : α} {P : R → Prop} (h : x = some (.inr a)) (h1 : OK (k a) P) : OK (cx x kt k) P := by rw [h]; exact h1
theorem OK_jnQ {R : Type} {k : Option R} {body : Option R → Option R} {P : R → Prop} (Q : Prop) (hk : Q → OK k P) (hb : ∀ j, (Q → OK j P) → OK (body j) P) : OK (jn k body) P := hb k hk
theorem cN_nI {n : Nat} (h : n < 2 ^ 31) : cN (nI n) = n := nI_clamp h
theorem neg_cases (x : Int32) : x < 0 ∨ ∃ j, j < 2 ^ 31 ∧ x = nI j := by
  by_cases h : x < 0
  · exact Or.inl h
  · exact Or.inr (nI_of h)
theorem siteOf_yes {S : St} {z : Nat} (hz : z < 4) : f_X6_siteOf S (nI z) = some (.inr z) := by
  unfold f_X6_siteOf jn
  dsimp only
  rw [show (4 : Int32) = nI 4 from rfl, if_neg (nI_pos (by omega)), if_pos (nI_lt (b := 4) hz (by omega))]
  unfold ck
  rw [if_neg (nI_in (by omega) (by omega)), nI_clamp (by omega)]
theorem siteOf_no {S : St} {x : Int32} (h : ¬ isS x) : f_X6_siteOf S x = some (.inl 1) := by
  unfold f_X6_siteOf jn
  dsimp only
  rcases neg_cases x with h0 | ⟨j, hj, rfl⟩
  · rw [if_pos h0]
  · rw [if_neg (nI_pos hj), if_neg]
    intro h4
    have := (nI_ltI (b := 4) hj (by omega)).mp h4
    exact h ⟨j, this, rfl⟩
section CLS
variable {S : St} {H : Hs} {z : Nat}
theorem kL_90 {l : List Nat} {y : Nat} (hW : WF H) (h : kL H l y) : y < 90 := by
  have := h.1
  have := hW.1
  omega
theorem kN_90 {l : List Nat} {y : Nat} (hW : WF H) (h : kN H l y) : y < 90 := by
  have := h.1
  have := hW.1
  omega
theorem LK_nI {l : List Nat} {y : Nat} (hW : WF H) (hy : y < 2 ^ 31) : LK H l (nI y) ↔ kL H l y := by
  constructor
  · rintro ⟨w, e, h⟩
    have := kL_90 hW h
    rw [nI_inj hy (by omega) e]
    exact h
  · intro h
    exact ⟨y, rfl, h⟩
theorem LT_nI {l : List Nat} {y : Nat} (hW : WF H) (hy : y < 2 ^ 31) : LT H l (nI y) ↔ thL H l y = true := by
  constructor
  · rintro ⟨w, e, h⟩
    have := kL_90 hW (thL_iff.mp h).1
    rw [nI_inj hy (by omega) e]
    exact h
  · intro h
    exact ⟨y, rfl, h⟩
theorem NK_nI {l : List Nat} {y : Nat} (hW : WF H) (hy : y < 2 ^ 31) : NK H l (nI y) ↔ kN H l y := by
  constructor
  · rintro ⟨w, e, h⟩
    have := kN_90 hW h
    rw [nI_inj hy (by omega) e]
    exact h
  · intro h
    exact ⟨y, rfl, h⟩
theorem ln_T {i : Nat} (hz : z < 4) (hi : i < 13) : ln (oT z + i) = 90 := by
  have hzT : oT z = 26 + 27 * z := by unfold oT oS; omega
  unfold ln
  rw [if_neg (by omega)]
theorem knowsLine_any {x : Int32} (hR : RC S H) (hz : z < 4) : (LK H (kn H z) x → f_X5_knowsLine S z x = some 1) ∧ (¬ LK H (kn H z) x → f_X5_knowsLine S z x = some 0) := by
  have hT := (hR.2.2.1 z hz).1.2.2
  constructor
  · rintro ⟨y, rfl, h⟩
    exact (knowsLine_eq hT (kL_90 hR.1 h)).1 h
  · intro h
    rcases at_any (S := S) (k := oT z + 7) x with h1 | ⟨i, hi, rfl, -⟩
    · unfold f_X5_knowsLine
      rw [h1]
      unfold cl
      rw [Option.bind_some, if_pos rfl]
    · rw [ln_T hz (by omega)] at hi
      exact (knowsLine_eq hT hi).2 (fun q => h ⟨i, rfl, q⟩)
theorem checkLine_yes {x : Int32} (hR : RC S H) (hz : z < 4) (h : LK H (kn H z) x) : f_X6_checkLineIsKnown S z x = some (.inr ()) := by
  unfold f_X6_checkLineIsKnown cl
  rw [(knowsLine_any hR hz).1 h, Option.bind_some, if_pos (by decide)]
theorem checkLine_no {x : Int32} (hR : RC S H) (hz : z < 4) (h : ¬ LK H (kn H z) x) : f_X6_checkLineIsKnown S z x = some (.inl 1) := by
  unfold f_X6_checkLineIsKnown cl
  rw [(knowsLine_any hR hz).2 h, Option.bind_some, if_neg (by decide)]
theorem checkThere {x : Int32} (hR : RC S H) (hz : z < 4) (hk : LK H (kn H z) x) : (LT H (kn H z) x → f_X6_checkLineIsThere S z x = some (.inr ())) ∧ (¬ LT H (kn H z) x → f_X6_checkLineIsThere S z x = some (.inl 4)) := by
  obtain ⟨y, rfl, hk⟩ := hk
  have hy := kL_90 hR.1 hk
  rw [LT_nI hR.1 (by omega)]
  unfold f_X6_checkLineIsThere cl
  rw [hasThere_eq (hR.2.2.1 z hz).1.2.2 hy, Option.bind_some]
  refine ⟨fun h => ?_, fun h => ?_⟩
  · rw [if_pos h, if_pos (by decide)]
  · rw [if_neg h, if_neg (by decide)]
theorem knowsNote_any {x : Int32} (hR : RC S H) (hz : z < 4) : (NK H (kn H z) x → f_X5_knowsNote S z x = some 1) ∧ (¬ NK H (kn H z) x → f_X5_knowsNote S z x = some 0) := by
  have hT := (hR.2.2.1 z hz).1.2.2
  constructor
  · rintro ⟨y, rfl, h⟩
    exact (knowsNote_eq hR.1 hT (RC_lt hR hz) (kN_90 hR.1 h)).1 h
  · intro h
    have hbig : ∀ i, i < 90 → x = nI i → f_X5_knowsNote S z x = some 0 := by
      rintro i hi rfl
      exact (knowsNote_eq hR.1 hT (RC_lt hR hz) hi).2 (fun q => h ⟨i, rfl, q⟩)
    rcases at_any (S := S) (k := oT z + 9) x with h1 | ⟨i, hi, rfl, -⟩
    · unfold f_X5_knowsNote
      rw [h1]
      unfold cl
      rw [Option.bind_some, if_pos rfl]
    · rw [ln_T hz (by omega)] at hi
      exact hbig i hi rfl
theorem checkNote_yes {x : Int32} (hR : RC S H) (hz : z < 4) (h : NK H (kn H z) x) : f_X6_checkNoteIsKnown S z x = some (.inr ()) := by
  unfold f_X6_checkNoteIsKnown cl
  rw [(knowsNote_any hR hz).1 h, Option.bind_some, if_pos (by decide)]
theorem checkNote_no {x : Int32} (hR : RC S H) (hz : z < 4) (h : ¬ NK H (kn H z) x) : f_X6_checkNoteIsKnown S z x = some (.inl 1) := by
  unfold f_X6_checkNoteIsKnown cl
  rw [(knowsNote_any hR hz).2 h, Option.bind_some, if_neg (by decide)]
theorem checkRoom (hR : RC S H) : (Hn H < 90 → f_X6_checkRoomForDeed S = some (.inr ())) ∧ (¬ Hn H < 90 → f_X6_checkRoomForDeed S = some (.inl 3)) := by
  have h1 := hR.1.1.2
  unfold f_X6_checkRoomForDeed f_X1_deedCount cl
  rw [size_eq, isF_size hR.2.1.1, Option.bind_some, Option.bind_some, show (90 : Int32) = nI 90 from rfl]
  refine ⟨fun h => ?_, fun h => ?_⟩
  · rw [if_pos (nI_lt (b := 90) h (by omega))]
  · rw [if_neg (nI_nlt (b := 90) (by omega) (by omega))]
theorem nextStamp_eq {c : Nat} (h : gi S (oS z) = nI c) : f_X4_nextStamp S z = some (nI (4 * (c + 1) + z), si S (oS z) (nI (c + 1))) := by
  unfold f_X4_nextStamp lt
  dsimp only
  rw [gi_si_eq, h, nI_1]
  have e : nI (c + 1) * (4 : Int32) + nI z = nI (4 * (c + 1) + z) := by
    show nI (c + 1) * nI 4 + nI z = _
    rw [nI_mul, nI_add, Nat.mul_comm]
  rw [e]
theorem sp_new {H2 : Hs} {s k x m b v g r : Nat} (hN : New H s k x m b v g r H2) : sp H2 (Hn H) = 4 * (Hc H s + 1) + s := by
  obtain ⟨-, -, -, ⟨-, f2, f3, -, -⟩, -⟩ := hN
  unfold sp
  rw [f2, f3]
theorem bof_ok {l : List Nat} {x : Int32} (hW : WF H) (h : x = -1 ∨ LK H l x) : nI (bof x) - 1 = x ∧ (0 < bof x → kL H l (bof x - 1)) := by
  by_cases e : x = -1
  · have : bof x = 0 := if_pos e
    rw [this, e]
    exact ⟨by decide, fun q => absurd q (by decide)⟩
  · obtain ⟨y, rfl, hk⟩ := h.resolve_left e
    have hy := kL_90 hW hk
    have : bof (nI y) = y + 1 := by unfold bof; rw [if_neg e, cN_nI (by omega)]
    rw [this]
    exact ⟨nI_pred y, fun _ => hk⟩
theorem cIns {x1 x2 x3 x4 : Int32} (hR : RC S H) : OK (f_X6_insert S x1 x2 x3 x4) (fun q => q.1 = (aIns H x1 x2 x3 x4).1 ∧ RC q.2 (aIns H x1 x2 x3 x4).2) := by
  unfold f_X6_insert aIns
  by_cases h1 : isS x1
  · obtain ⟨z, hz, rfl⟩ := h1
    rw [pif_neg (fun q => q ⟨z, hz, rfl⟩), cN_nI (by omega)]
    refine OK_cxr (siteOf_yes hz) ?_
    refine OK_jnQ (x2 = -1 ∨ LK H (kn H z) x2) (fun h2 => ?_) (fun j hj => ?_)
    · rw [pif_neg (fun q => q h2)]
      refine OK_jnQ (x3 < 0 ∨ ¬ x3 ≤ 99) (fun h3 => ?_) (fun j hj => ?_)
      · rw [pif_pos h3]
        exact OK_some ⟨rfl, hR⟩
      · refine OK_ite (fun c => hj (Or.inl c)) (fun c => OK_ite (fun c1 => ?_) (fun c1 => hj (Or.inr c1)))
        rw [pif_neg (fun q => q.elim c (fun q => q c1))]
        by_cases h4 : Hn H < 90
        · rw [pif_neg (fun q => q h4)]
          refine OK_cxr ((checkRoom hR).1 h4) ?_
          obtain ⟨v, hv, rfl⟩ := nI_of2 (M := 99) (n := 99) rfl c c1
          rw [cN_nI (by omega)]
          obtain ⟨b1, b2⟩ := bof_ok hR.1 h2
          obtain ⟨g, hg⟩ : ∃ g, g = if x4 = 0 then 0 else 1 := ⟨_, rfl⟩
          have hg1 : g ≤ 1 := by rw [hg]; split <;> omega
          rw [← hg]
          have hN := New_addH H z 0 (HL H) 0 (bof x2) v g 0
          obtain ⟨H2, hH2⟩ : ∃ H2, H2 = addH H z 0 (HL H) 0 (bof x2) v g 0 := ⟨_, rfl⟩
          rw [← hH2] at hN ⊢
          have hM : May H z 0 (HL H) 0 (bof x2) v g 0 := ⟨hz, by omega, h4, fun _ => ⟨rfl, b2, by omega, hg1⟩, fun q => by omega, fun q => by omega, fun q => by omega⟩
          rw [nextStamp_eq (hR.2.2.1 z hz).2.2]
          refine OK_cl2 (P := fun a b => a = nI (4 * (Hc H z + 1) + z) ∧ b = si S (oS z) (nI (Hc H z + 1))) (OK_some ⟨rfl, rfl⟩) ?_
          rintro v45 S1 ⟨rfl, rfl⟩
          have ho1 : offP (dd z) S (si S (oS z) (nI (Hc H z + 1))) := off_si.P (Or.inr rfl)
          have hzS : oS z = 21 + 27 * z := rfl
          have hL1 : Led (si S (oS z) (nI (Hc H z + 1))) H := Led_offP (off_si.P (P := fun j => j = oS z) rfl) (fun k hk q => by omega) hR.2.1
          have esl : sl H2 (HL H) = 4 * (Hc H z + 1) + z := by
            unfold sl
            rw [(hN.2.2.2.2.1 rfl).1, sp_new hN]
          have hHL : HL H < 90 := by have := hR.1.1; omega
          refine OK_cl2 (P := fun a b => a = nI (HL H) ∧ LedL b H2 ∧ offP lkey (si S (oS z) (nI (Hc H z + 1))) b) (addLine_ok hR.1 hHL (Led_L hL1) hN (by rw [esl]) b1.symm rfl (by
            rw [hg]
            by_cases q : x4 = 0
            · exact Or.inl ⟨q, if_pos q⟩
            · exact Or.inr ⟨q, if_neg q⟩)) ?_
          rintro v60 S2 ⟨rfl, a1, a2⟩
          have hD2 : LedD S2 H := LedD_offP a2 ⟨by unfold lkey; omega, by unfold lkey; omega, by unfold lkey; omega, by unfold lkey; omega⟩ (Led_D hL1)
          have hN2 : LedN S2 H2 := LedN_same (LedN_offP a2 (by unfold lkey; omega) (Led_N hL1)) (by decide) hN
          obtain ⟨f1, f2, f3, f4, f5⟩ := hN.2.2.2.1
          refine OK_cl2 (P := fun a b => a = nI (Hn H) ∧ LedD b H2 ∧ offP dkey S2 b) (addDeed_ok hR.1 h4 hD2 hN (by rw [sp_new hN]) (by unfold subj; rw [f1, if_pos (by omega), f4]) (by unfold targ; rw [f1, if_pos rfl, f4, (hN.2.2.2.2.1 rfl).2.1, b1])) ?_
          rintro v77 S3 ⟨rfl, d1, d2⟩
          have ho3 : offP (dd z) S S3 := (ho1.tr (a2.mono (fun j hj => Or.inl (by unfold lkey at hj; omega)))).tr (d2.mono (fun j hj => Or.inl (by unfold dkey at hj; omega)))
          have hL3 : Led S3 H2 := Led_all d1 (LedL_offP d2 ⟨by unfold dkey; omega, by unfold dkey; omega, by unfold dkey; omega, by unfold dkey; omega⟩ a1) (LedN_offP d2 (by unfold dkey; omega) hN2)
          have hc3 : gi S3 (oS z) = nI (Hc H2 z) := by
            rw [(d2 (oS z) (by unfold dkey; omega)).1, (a2 (oS z) (by unfold lkey; omega)).1, gi_si_eq, hN.2.2.1.1]
          refine OK_cl (deed_ok hR hM hN hL3 ho3 hc3) ?_
          intro S4 hS4
          exact OK_some ⟨rfl, hS4⟩
        · rw [pif_pos h4]
          exact OK_cxl ((checkRoom hR).2 h4) (OK_some ⟨rfl, hR⟩)
    · refine OK_ite (fun c => hj (Or.inl c)) (fun c => ?_)
      by_cases h2 : LK H (kn H z) x2
      · exact OK_cxr (checkLine_yes hR hz h2) (hj (Or.inr h2))
      · rw [pif_pos (fun q => q.elim c h2)]
        exact OK_cxl (checkLine_no hR hz h2) (OK_some ⟨rfl, hR⟩)
  · rw [pif_pos h1]
    exact OK_cxl (siteOf_no h1) (OK_some ⟨rfl, hR⟩)
theorem cRem {x1 x2 : Int32} (hR : RC S H) : OK (f_X6_remove S x1 x2) (fun q => q.1 = (aRem H x1 x2).1 ∧ RC q.2 (aRem H x1 x2).2) := by
  unfold f_X6_remove aRem
  by_cases h1 : isS x1
  · obtain ⟨z, hz, rfl⟩ := h1
    rw [pif_neg (fun q => q ⟨z, hz, rfl⟩), cN_nI (by omega)]
    refine OK_cxr (siteOf_yes hz) ?_
    by_cases h2 : LK H (kn H z) x2
    · rw [pif_neg (fun q => q h2)]
      refine OK_cxr (checkLine_yes hR hz h2) ?_
      by_cases h3 : LT H (kn H z) x2
      · rw [pif_neg (fun q => q h3)]
        refine OK_cxr ((checkThere hR hz h2).1 h3) ?_
        by_cases h4 : Hn H < 90
        · rw [pif_neg (fun q => q h4)]
          refine OK_cxr ((checkRoom hR).1 h4) ?_
          obtain ⟨y, rfl, hk⟩ := h2
          have hy := kL_90 hR.1 hk
          rw [cN_nI (by omega)]
          have hN := New_addH H z 1 y 0 0 0 0 0
          obtain ⟨H2, hH2⟩ : ∃ H2, H2 = addH H z 1 y 0 0 0 0 0 := ⟨_, rfl⟩
          rw [← hH2] at hN ⊢
          have hM : May H z 1 y 0 0 0 0 0 := ⟨hz, by omega, h4, fun q => by omega, fun _ => hk, fun q => by omega, fun q => by omega⟩
          rw [nextStamp_eq (hR.2.2.1 z hz).2.2]
          refine OK_cl2 (P := fun a b => a = nI (4 * (Hc H z + 1) + z) ∧ b = si S (oS z) (nI (Hc H z + 1))) (OK_some ⟨rfl, rfl⟩) ?_
          rintro v45 S1 ⟨rfl, rfl⟩
          have ho1 : offP (dd z) S (si S (oS z) (nI (Hc H z + 1))) := off_si.P (Or.inr rfl)
          have hzS : oS z = 21 + 27 * z := rfl
          have hL1 : Led (si S (oS z) (nI (Hc H z + 1))) H := Led_offP (off_si.P (P := fun j => j = oS z) rfl) (fun k hk q => by omega) hR.2.1
          obtain ⟨f1, f2, f3, f4, f5⟩ := hN.2.2.2.1
          refine OK_cl2 (P := fun a b => a = nI (Hn H) ∧ LedD b H2 ∧ offP dkey (si S (oS z) (nI (Hc H z + 1))) b) (addDeed_ok hR.1 h4 (Led_D hL1) hN (by rw [sp_new hN]) (by unfold subj; rw [f1, if_pos (by omega), f4]) (by unfold targ; rw [f1]; rfl)) ?_
          rintro v77 S3 ⟨rfl, d1, d2⟩
          have ho3 : offP (dd z) S S3 := ho1.tr (d2.mono (fun j hj => Or.inl (by unfold dkey at hj; omega)))
          have hL3 : Led S3 H2 := Led_all d1 (LedL_offP d2 ⟨by unfold dkey; omega, by unfold dkey; omega, by unfold dkey; omega, by unfold dkey; omega⟩ (LedL_same hR.1 (Led_L hL1) (by decide) hN)) (LedN_offP d2 (by unfold dkey; omega) (LedN_same (Led_N hL1) (by decide) hN))
          have hc3 : gi S3 (oS z) = nI (Hc H2 z) := by
            rw [(d2 (oS z) (by unfold dkey; omega)).1, gi_si_eq, hN.2.2.1.1]
          refine OK_cl (deed_ok hR hM hN hL3 ho3 hc3) ?_
          intro S4 hS4
          have hly := (hS4.2.2.1 z hz).2.1.1
          have e : f_X0_lineCount S4 z = some (nI (szP H2 (kn H z ++ [Hn H]))) := by
            unfold f_X0_lineCount cl
            rw [size_eq, lay_size hly, hN.2.2.2.2.2.2.1.1]
            rfl
          rw [e]
          refine OK_cl (OK_some rfl) ?_
          rintro v44 rfl
          exact OK_some ⟨rfl, hS4⟩
        · rw [pif_pos h4]
          exact OK_cxl ((checkRoom hR).2 h4) (OK_some ⟨rfl, hR⟩)
      · rw [pif_pos h3]
        exact OK_cxl ((checkThere hR hz h2).2 h3) (OK_some ⟨rfl, hR⟩)
    · rw [pif_pos h2]
      exact OK_cxl (checkLine_no hR hz h2) (OK_some ⟨rfl, hR⟩)
  · rw [pif_pos h1]
    exact OK_cxl (siteOf_no h1) (OK_some ⟨rfl, hR⟩)
theorem cNot {x1 x2 x3 : Int32} (hR : RC S H) : OK (f_X6_note S x1 x2 x3) (fun q => q.1 = (aNot H x1 x2 x3).1 ∧ RC q.2 (aNot H x1 x2 x3).2) := by
  unfold f_X6_note aNot
  by_cases h1 : isS x1
  · obtain ⟨z, hz, rfl⟩ := h1
    rw [pif_neg (fun q => q ⟨z, hz, rfl⟩), cN_nI (by omega)]
    refine OK_cxr (siteOf_yes hz) ?_
    by_cases h2 : LK H (kn H z) x2
    · rw [pif_neg (fun q => q h2)]
      refine OK_cxr (checkLine_yes hR hz h2) ?_
      refine OK_jnQ (x3 < 1 ∨ ¬ x3 ≤ 3) (fun h5 => ?_) (fun j hj => ?_)
      · rw [pif_pos h5]
        exact OK_some ⟨rfl, hR⟩
      refine OK_ite (fun c => hj (Or.inl c)) (fun c => OK_ite (fun c1 => ?_) (fun c1 => hj (Or.inr c1)))
      rw [pif_neg (fun q => q.elim c (fun q => q c1))]
      by_cases h3 : LT H (kn H z) x2
      · rw [pif_neg (fun q => q h3)]
        refine OK_cxr ((checkThere hR hz h2).1 h3) ?_
        by_cases h4 : Hn H < 90
        · rw [pif_neg (fun q => q h4)]
          refine OK_cxr ((checkRoom hR).1 h4) ?_
          obtain ⟨y, rfl, hk⟩ := h2
          have hy := kL_90 hR.1 hk
          have h0 : ¬ x3 < 0 := by
            rcases neg_cases x3 with q | ⟨j9, hj9, rfl⟩
            · exfalso
              refine c ?_
              rw [Int32.lt_iff_toInt_lt] at q ⊢
              have e0 : (0 : Int32).toInt = 0 := by decide
              have e1 : (1 : Int32).toInt = 1 := by decide
              omega
            · exact nI_pos hj9
          obtain ⟨r, hr, rfl⟩ := nI_of2 (M := 3) (n := 3) rfl h0 c1
          have hr1 : 1 ≤ r := by
            rcases Nat.eq_zero_or_pos r with q | q
            · exact absurd (by rw [q]; decide) c
            · exact q
          rw [cN_nI (by omega), cN_nI (by omega)]
          have hN := New_addH H z 2 y (HN H) 0 0 0 r
          obtain ⟨H2, hH2⟩ : ∃ H2, H2 = addH H z 2 y (HN H) 0 0 0 r := ⟨_, rfl⟩
          rw [← hH2] at hN ⊢
          have hM : May H z 2 y (HN H) 0 0 0 r := ⟨hz, by omega, h4, fun q => by omega, fun _ => hk, fun _ => ⟨rfl, hr1, hr⟩, fun q => by omega⟩
          have hHN : HN H < 90 := by have := hR.1.1; omega
          refine OK_cl2 (P := fun a b => a = nI (HN H) ∧ LedN b H2 ∧ off 18 S b) (addNote_ok hHN (Led_N hR.2.1) hN rfl) ?_
          rintro v50 S0 ⟨rfl, a1, a2⟩
          have hzS : oS z = 21 + 27 * z := rfl
          have hck : gi S0 (oS z) = nI (Hc H z) := by
            rw [(a2 (oS z) (by omega)).1]
            exact (hR.2.2.1 z hz).2.2
          rw [nextStamp_eq hck]
          refine OK_cl2 (P := fun a b => a = nI (4 * (Hc H z + 1) + z) ∧ b = si S0 (oS z) (nI (Hc H z + 1))) (OK_some ⟨rfl, rfl⟩) ?_
          rintro v45 S1 ⟨rfl, rfl⟩
          have ho1 : offP (dd z) S (si S0 (oS z) (nI (Hc H z + 1))) := (a2.P (P := dd z) (Or.inl (by omega))).tr (off_si.P (Or.inr rfl))
          have hD1 : LedD (si S0 (oS z) (nI (Hc H z + 1))) H := LedD_offP ((a2.P (P := fun j => j = 18 ∨ j = oS z) (Or.inl rfl)).tr (off_si.P (Or.inr rfl))) ⟨by omega, by omega, by omega, by omega⟩ (Led_D hR.2.1)
          have hL1 : LedL (si S0 (oS z) (nI (Hc H z + 1))) H := LedL_offP ((a2.P (P := fun j => j = 18 ∨ j = oS z) (Or.inl rfl)).tr (off_si.P (Or.inr rfl))) ⟨by omega, by omega, by omega, by omega⟩ (Led_L hR.2.1)
          have hN1 : LedN (si S0 (oS z) (nI (Hc H z + 1))) H2 := LedN_offP (off_si.P (P := fun j => j = oS z) rfl) (by omega) a1
          obtain ⟨f1, f2, f3, f4, f5⟩ := hN.2.2.2.1
          refine OK_cl2 (P := fun a b => a = nI (Hn H) ∧ LedD b H2 ∧ offP dkey (si S0 (oS z) (nI (Hc H z + 1))) b) (addDeed_ok hR.1 h4 hD1 hN (by rw [sp_new hN]) (by unfold subj; rw [f1, if_neg (by omega), f5]) (by unfold targ; rw [f1, if_neg (by omega), if_neg (by omega), f4])) ?_
          rintro v77 S3 ⟨rfl, d1, d2⟩
          have ho3 : offP (dd z) S S3 := ho1.tr (d2.mono (fun j hj => Or.inl (by unfold dkey at hj; omega)))
          have hL3 : Led S3 H2 := Led_all d1 (LedL_offP d2 ⟨by unfold dkey; omega, by unfold dkey; omega, by unfold dkey; omega, by unfold dkey; omega⟩ (LedL_same hR.1 hL1 (by decide) hN)) (LedN_offP d2 (by unfold dkey; omega) hN1)
          have hc3 : gi S3 (oS z) = nI (Hc H2 z) := by
            rw [(d2 (oS z) (by unfold dkey; omega)).1, gi_si_eq, hN.2.2.1.1]
          refine OK_cl (deed_ok hR hM hN hL3 ho3 hc3) ?_
          intro S4 hS4
          exact OK_some ⟨rfl, hS4⟩
        · rw [pif_pos h4]
          exact OK_cxl ((checkRoom hR).2 h4) (OK_some ⟨rfl, hR⟩)
      · rw [pif_pos h3]
        exact OK_cxl ((checkThere hR hz h2).2 h3) (OK_some ⟨rfl, hR⟩)
    · rw [pif_pos h2]
      exact OK_cxl (checkLine_no hR hz h2) (OK_some ⟨rfl, hR⟩)
  · rw [pif_pos h1]
    exact OK_cxl (siteOf_no h1) (OK_some ⟨rfl, hR⟩)
/-- a void answer as a number -/
def vo (q : Nat ⊕ Unit) : Nat ⊕ Int32 := q.elim .inl (fun _ => .inr 0)
theorem cMov {x1 x2 x3 : Int32} (hR : RC S H) : OK (f_X6_move S x1 x2 x3) (fun q => vo q.1 = (aMov H x1 x2 x3).1 ∧ RC q.2 (aMov H x1 x2 x3).2) := by
  unfold f_X6_move aMov
  by_cases h1 : isS x1
  · obtain ⟨z, hz, rfl⟩ := h1
    rw [pif_neg (fun q => q ⟨z, hz, rfl⟩), cN_nI (by omega)]
    refine OK_cxr (siteOf_yes hz) ?_
    by_cases h5 : NK H (kn H z) x2
    · rw [pif_neg (fun q => q h5)]
      refine OK_cxr (checkNote_yes hR hz h5) ?_
      by_cases h2 : LK H (kn H z) x3
      · rw [pif_neg (fun q => q h2)]
        refine OK_cxr (checkLine_yes hR hz h2) ?_
        by_cases h3 : LT H (kn H z) x3
        · rw [pif_neg (fun q => q h3)]
          refine OK_cxr ((checkThere hR hz h2).1 h3) ?_
          by_cases h4 : Hn H < 90
          · rw [pif_neg (fun q => q h4)]
            refine OK_cxr ((checkRoom hR).1 h4) ?_
            obtain ⟨y, rfl, hk⟩ := h2
            obtain ⟨m, rfl, hkm⟩ := h5
            have hy := kL_90 hR.1 hk
            have hm := kN_90 hR.1 hkm
            rw [cN_nI (by omega), cN_nI (by omega)]
            have hN := New_addH H z 3 y m 0 0 0 0
            obtain ⟨H2, hH2⟩ : ∃ H2, H2 = addH H z 3 y m 0 0 0 0 := ⟨_, rfl⟩
            rw [← hH2] at hN ⊢
            have hM : May H z 3 y m 0 0 0 0 := ⟨hz, by omega, h4, fun q => by omega, fun _ => hk, fun q => by omega, fun _ => hkm⟩
            rw [nextStamp_eq (hR.2.2.1 z hz).2.2]
            refine OK_cl2 (P := fun a b => a = nI (4 * (Hc H z + 1) + z) ∧ b = si S (oS z) (nI (Hc H z + 1))) (OK_some ⟨rfl, rfl⟩) ?_
            rintro v45 S1 ⟨rfl, rfl⟩
            have ho1 : offP (dd z) S (si S (oS z) (nI (Hc H z + 1))) := off_si.P (Or.inr rfl)
            have hzS : oS z = 21 + 27 * z := rfl
            have hL1 : Led (si S (oS z) (nI (Hc H z + 1))) H := Led_offP (off_si.P (P := fun j => j = oS z) rfl) (fun k hk q => by omega) hR.2.1
            obtain ⟨f1, f2, f3, f4, f5⟩ := hN.2.2.2.1
            refine OK_cl2 (P := fun a b => a = nI (Hn H) ∧ LedD b H2 ∧ offP dkey (si S (oS z) (nI (Hc H z + 1))) b) (addDeed_ok hR.1 h4 (Led_D hL1) hN (by rw [sp_new hN]) (by unfold subj; rw [f1, if_neg (by omega), f5]) (by unfold targ; rw [f1, if_neg (by omega), if_neg (by omega), f4])) ?_
            rintro v77 S3 ⟨rfl, d1, d2⟩
            have ho3 : offP (dd z) S S3 := ho1.tr (d2.mono (fun j hj => Or.inl (by unfold dkey at hj; omega)))
            have hL3 : Led S3 H2 := Led_all d1 (LedL_offP d2 ⟨by unfold dkey; omega, by unfold dkey; omega, by unfold dkey; omega, by unfold dkey; omega⟩ (LedL_same hR.1 (Led_L hL1) (by decide) hN)) (LedN_offP d2 (by unfold dkey; omega) (LedN_same (Led_N hL1) (by decide) hN))
            have hc3 : gi S3 (oS z) = nI (Hc H2 z) := by
              rw [(d2 (oS z) (by unfold dkey; omega)).1, gi_si_eq, hN.2.2.1.1]
            refine OK_cl (deed_ok hR hM hN hL3 ho3 hc3) ?_
            intro S4 hS4
            exact OK_some ⟨rfl, hS4⟩
          · rw [pif_pos h4]
            exact OK_cxl ((checkRoom hR).2 h4) (OK_some ⟨rfl, hR⟩)
        · rw [pif_pos h3]
          exact OK_cxl ((checkThere hR hz h2).2 h3) (OK_some ⟨rfl, hR⟩)
      · rw [pif_pos h2]
        exact OK_cxl (checkLine_no hR hz h2) (OK_some ⟨rfl, hR⟩)
    · rw [pif_pos h5]
      exact OK_cxl (checkNote_no hR hz h5) (OK_some ⟨rfl, hR⟩)
  · rw [pif_pos h1]
    exact OK_cxl (siteOf_no h1) (OK_some ⟨rfl, hR⟩)
end CLS
