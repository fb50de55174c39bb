/-! THE LAYOUT of one site -/
def flg (H : Hs) (t : List Nat) : List Int32 := t.mapIdx (fun k x => if k = 0 ∨ bg H x = 1 then (1 : Int32) else 0)
def Lay0 (S : St) (z : Nat) (H : Hs) (l : List Nat) : Prop :=
  isV S (oL z + 1) ((tl H l).map nI) ∧ isV S (oL z + 3) (flg H (tl H l)) ∧ ∀ x ∈ tl H l, ga S (oL z + 5) x = nI (rwL H l x)
def LayOK (S : St) (z : Nat) (H : Hs) (l : List Nat) : Prop :=
  Lay0 S z H l ∧ ∃ P, (∀ p, p < P ↔ stP H l p < szP H l) ∧ isF S (oL z + 7) P (fun p => nI (stP H l p))
def lay (z j : Nat) : Prop := j = oL z + 1 ∨ j = oL z + 3 ∨ j = oL z + 5 ∨ j = oL z + 7
theorem Lay0_offP {P : Nat → Prop} {S S1 : St} {z : Nat} {H : Hs} {l : List Nat} (ho : offP P S S1) (hP : ∀ j, lay z j → ¬ P j) (h : Lay0 S z H l) : Lay0 S1 z H l := by
  obtain ⟨a1, a2, a3⟩ := h
  refine ⟨offP_V ho (hP _ (Or.inl rfl)) a1, offP_V ho (hP _ (Or.inr (Or.inl rfl))) a2, ?_⟩
  rw [(ho (oL z + 5) (hP _ (Or.inr (Or.inr (Or.inl rfl))))).2]
  exact a3
theorem LayOK_offP {P : Nat → Prop} {S S1 : St} {z : Nat} {H : Hs} {l : List Nat} (ho : offP P S S1) (hP : ∀ j, lay z j → ¬ P j) (h : LayOK S z H l) : LayOK S1 z H l := by
  obtain ⟨h0, Q, h1, h2⟩ := h
  exact ⟨Lay0_offP ho hP h0, Q, h1, offP_F ho (hP _ (Or.inr (Or.inr (Or.inr rfl)))) h2⟩
-- the views' own facts
theorem tl_mem {H : Hs} {l : List Nat} {x : Nat} (hO : OrdL H l (oo H l)) : x ∈ tl H l ↔ thL H l x = true := by
  unfold tl
  rw [List.mem_filter, hO.2.2]
  exact ⟨fun h => h.2, fun h => ⟨(thL_iff.mp h).1, h⟩⟩
theorem tl_nodup {H : Hs} {l : List Nat} (hO : OrdL H l (oo H l)) : (tl H l).Nodup := hO.2.1.sublist List.filter_sublist
theorem oo_lt {H : Hs} {l : List Nat} (hO : OrdL H l (oo H l)) {x : Nat} (h : x ∈ oo H l) : x < HL H := ((hO.2.2 x).mp h).1
theorem tl_lt {H : Hs} {l : List Nat} (hO : OrdL H l (oo H l)) {x : Nat} (h : x ∈ tl H l) : x < HL H := (thL_iff.mp ((tl_mem hO).mp h)).1.1
theorem oo_len {H : Hs} {l : List Nat} (hW : WF H) (hO : OrdL H l (oo H l)) : (oo H l).length ≤ HL H ∧ HL H ≤ 90 := by
  refine ⟨?_, by have := hW.1; omega⟩
  have := nd_len (b := List.range (HL H)) hO.2.1 (fun x hx => List.mem_range.mpr (oo_lt hO hx))
  simpa using this
theorem tl_len {H : Hs} {l : List Nat} (hW : WF H) (hO : OrdL H l (oo H l)) : (tl H l).length ≤ 90 := by
  have h1 : (tl H l).length ≤ (oo H l).length := List.length_filter_le _ _
  have := oo_len hW hO
  omega
theorem rwN_in {H : Hs} {l : List Nat} {x : Nat} : ∀ m, 1 ≤ rwN H l x m ∧ rwN H l x m ≤ 6 := by
  intro m
  induction m with
  | zero => simp [rwN]
  | succ m ih =>
    unfold rwN
    split <;> omega
theorem rP_in {H : Hs} {l : List Nat} {k : Nat} (h : k < szP H l) : 1 ≤ rP H l k ∧ rP H l k ≤ 6 := by
  unfold rP
  rw [List.getElem?_eq_getElem h]
  exact rwN_in _
theorem rP_eq {H : Hs} {l : List Nat} {k x : Nat} (h : (tl H l)[k]? = some x) : rP H l k = rwL H l x := by
  unfold rP; rw [h]
theorem bP_eq {H : Hs} {l : List Nat} {k x : Nat} (h : (tl H l)[k]? = some x) : bP H l k = (decide (k = 0) || decide (bg H x = 1)) := by
  unfold bP; rw [h]
theorem hasThere_eq {S : St} {z x : Nat} {H : Hs} {l : List Nat} (hT : TextOK S z H l) (hx : x < 90) : f_X5_hasThere S z (nI x) = some (if thL H l x = true then 1 else 0) := by
  have h1 := hT.2.2.1 x hx
  unfold f_X5_hasThere cl
  rw [at_eq (by have := ln_ge (oT z + 7); omega), Option.bind_some]
  by_cases hk : kL H l x
  · rw [h1.2 hk]
    by_cases ht : tkn H l x = true
    · have hth : ¬ thL H l x = true := fun q => by rw [(thL_iff.mp q).2] at ht; cases ht
      rw [if_pos ht, if_neg hth]
      decide
    · have hth : thL H l x = true := thL_iff.mpr ⟨hk, by simpa using ht⟩
      rw [if_neg ht, if_pos hth]
      decide
  · have hth : ¬ thL H l x = true := fun q => hk (thL_iff.mp q).1
    rw [h1.1 hk, if_neg hth]
    decide
theorem flg_at {H : Hs} {t : List Nat} {k x : Nat} (h : t[k]? = some x) : (flg H t)[k]? = some (if k = 0 ∨ bg H x = 1 then (1 : Int32) else 0) := by
  unfold flg
  rw [List.getElem?_mapIdx, h]
  rfl
theorem gather_ok {S : St} {z : Nat} {H : Hs} {l : List Nat} (hz : z < 4) (hW : WF H) (hL : Led S H) (hT : TextOK S z H l) :
    OK (f_X0_gatherLines S z) (fun S1 => isV S1 (oL z + 1) ((tl H l).map nI) ∧ isV S1 (oL z + 3) (flg H (tl H l)) ∧ (∀ x ∈ tl H l, ga S1 (oL z + 5) x = nI 1) ∧ offP (fun j => j = oL z + 1 ∨ j = oL z + 3 ∨ j = oL z + 5) S S1) := by
  have hO := hT.2.1
  have hol := oo_len hW hO
  have l1 := ln_ge (oL z + 1)
  have l3 := ln_ge (oL z + 3)
  have l5 := ln_ge (oL z + 5)
  have lt1 := ln_ge (oT z + 1)
  have hzT : oT z = 26 + 27 * z := by unfold oT oS; omega
  have hzL : oL z = 39 + 27 * z := by unfold oL oS; omega
  unfold f_X0_gatherLines
  rw [clear_eq]
  refine OK_cl (OK_some rfl) ?_
  rintro S4 rfl
  rw [clear_eq]
  refine OK_cl (OK_some rfl) ?_
  rintro S11 rfl
  have hoff0 : offP (fun j => j = oL z + 1 ∨ j = oL z + 3 ∨ j = oL z + 5) S (si (si S (oL z + 1) 0) (oL z + 3) 0) := (off_si.P (Or.inl rfl)).tr (off_si.P (Or.inr (Or.inl rfl)))
  refine Lp2_ok (fun y S2 => ∃ i, y = nI i ∧ i ≤ (oo H l).length ∧ offP (fun j => j = oL z + 1 ∨ j = oL z + 3 ∨ j = oL z + 5) S S2 ∧ isV S2 (oL z + 1) ((((oo H l).take i).filter (thL H l)).map nI) ∧ isV S2 (oL z + 3) (flg H (((oo H l).take i).filter (thL H l))) ∧ ∀ x ∈ ((oo H l).take i).filter (thL H l), ga S2 (oL z + 5) x = nI 1) (fun y _ => 90 - y.toNatClampNeg) ?_ FU _ _ ⟨0, rfl, Nat.zero_le _, hoff0, ?_, ?_, ?_⟩ (by rw [FU_1000]; omega)
  · rintro next y S2 ⟨i, rfl, h1, h2, h3, h4, h5⟩ hn
    have hT2 : TextOK S2 z H l := TextOK_offP h2 (fun j hj q => by rcases hj with r | r | r | r <;> omega) hT
    have hL2 : Led S2 H := Led_offP h2 (fun k hk q => by omega) hL
    unfold f_X5_lineCount
    rw [size_eq]
    refine OK_cl (OK_cl (OK_some rfl) (fun a ha => OK_some ha)) ?_
    rintro v21 rfl
    rw [hT2.1.1, List.length_map]
    refine OK_ite (fun c => ?_) (fun c => ?_)
    · have hi : i = (oo H l).length := by
        have := (nI_leI (by omega) (by omega)).mp c
        omega
      rw [hi, List.take_length] at h3 h4 h5
      exact OK_some ⟨h3, h4, h5, h2⟩
    · have hi : i < (oo H l).length := by
        rcases Nat.lt_or_ge i (oo H l).length with q | q
        · exact q
        · exact absurd (nI_le q (by omega)) c
      obtain ⟨x, hx⟩ : ∃ x, x = (oo H l)[i] := ⟨_, rfl⟩
      have hxo : x ∈ oo H l := by rw [hx]; exact List.getElem_mem hi
      have hxl := oo_lt hO hxo
      have hat := isV_at hT2.1 (i := i) (v := nI x) (by rw [List.getElem?_map, List.getElem?_eq_getElem hi, hx]; rfl)
      have htake : (oo H l).take (i + 1) = (oo H l).take i ++ [x] := by rw [List.take_succ, List.getElem?_eq_getElem hi, hx]; rfl
      unfold f_X5_line
      rw [at_eq (by omega), hat]
      refine OK_cl (OK_cl (OK_some rfl) (fun a ha => OK_some ha)) ?_
      rintro v32 rfl
      rw [hasThere_eq hT2 (by omega)]
      refine OK_cl (OK_some rfl) ?_
      rintro v41 rfl
      refine OK_jn ?_
      obtain ⟨t, ht⟩ : ∃ t, t = ((oo H l).take i).filter (thL H l) := ⟨_, rfl⟩
      rw [← ht] at h3 h4 h5
      have hxt : x ∉ t := by
        intro q
        rw [ht] at q
        have q1 := (List.mem_filter.mp q).1
        have hn9 : (oo H l).Nodup := hO.2.1
        rw [← List.take_append_drop (i + 1) (oo H l), htake, List.append_assoc] at hn9
        exact (List.nodup_append.mp hn9).2.2 x q1 x (by simp) rfl
      by_cases hth : thL H l x = true
      · rw [if_pos hth]
        have hfil : ((oo H l).take (i + 1)).filter (thL H l) = t ++ [x] := by
          rw [htake, List.filter_append, ← ht]
          simp [hth]
        have htl : (t ++ [x]).length ≤ (oo H l).length := by
          rw [← hfil]
          refine Nat.le_trans (List.length_filter_le _ _) ?_
          rw [List.length_take]
          omega
        simp at htl
        refine OK_neg (by decide) ?_
        rw [size_eq]
        refine OK_cl (OK_some rfl) ?_
        rintro v51 rfl
        -- what is added, whatever begins
        have fin : ∀ (v : Int32), v = (if t.length = 0 ∨ bg H x = 1 then (1 : Int32) else 0) → OK (cl (f_X2_add S2 (oL z + 1) (nI x)) fun S_79 => cl (f_X2_add S_79 (oL z + 3) v) fun S_95 => cl (f_X2_put S_95 (oL z + 5) (nI x) 1) fun S_104 => lt (nI i + 1) fun x1_107 => next x1_107 S_104) (fun S1 => isV S1 (oL z + 1) ((tl H l).map nI) ∧ isV S1 (oL z + 3) (flg H (tl H l)) ∧ (∀ x ∈ tl H l, ga S1 (oL z + 5) x = nI 1) ∧ offP (fun j => j = oL z + 1 ∨ j = oL z + 3 ∨ j = oL z + 5) S S1) := by
          intro v hv
          refine OK_cl (add_ok (v := nI x) h3 (by simp; omega)) ?_
          rintro S5 ⟨b1, b2⟩
          refine OK_cl (add_ok (v := v) (isV.off h4 b2 (by omega)) (by unfold flg; simp; omega)) ?_
          rintro S6 ⟨b3, b4⟩
          rw [put_eq (by omega)]
          refine OK_cl (OK_some rfl) ?_
          rintro S7 rfl
          refine OK_lt ?_
          rw [nI_1]
          refine hn _ _ ⟨i + 1, rfl, hi, ?_, ?_, ?_, ?_⟩ (by rw [nI_clamp (by omega), nI_clamp (by omega)]; omega)
          · exact ((h2.tr (b2.P (Or.inl rfl))).tr (b4.P (Or.inr (Or.inl rfl)))).tr (off_sa.P (Or.inr (Or.inr rfl)))
          · rw [hfil, List.map_append]
            exact isV.off (isV.off b1 b4 (by omega)) off_sa (by omega)
          · rw [hfil]
            have e : flg H (t ++ [x]) = flg H t ++ [v] := by
              unfold flg
              rw [List.mapIdx_concat, hv]
            rw [e]
            exact isV.off b3 off_sa (by omega)
          · rw [hfil, ga_sa_eq]
            intro w hw
            rcases List.mem_append.mp hw with q | q
            · rw [upd_ne (fun e : w = x => hxt (e ▸ q)), (b4 (oL z + 5) (by omega)).2, (b2 (oL z + 5) (by omega)).2]
              exact h5 w q
            · have e : w = x := by simpa using q
              rw [e, upd_eq]
              rfl
        refine OK_jn (OK_jn ?_)
        rw [h3.1, List.length_map]
        refine OK_ite (fun c1 => ?_) (fun c1 => ?_)
        · have ht0 : t.length = 0 := (nI_eq (b := 0) (by omega) (by omega)).mp c1
          refine OK_mono (fin 1 (by rw [if_pos (Or.inl ht0)])) (fun _ h => h)
        · have ht0 : ¬ t.length = 0 := fun q => c1 (by rw [q]; rfl)
          rw [beginsP_eq hW hL2 hxl]
          refine OK_cl (OK_some rfl) ?_
          rintro v62 rfl
          by_cases hb : bg H x = 1
          · rw [if_pos hb]
            refine OK_neg (by decide) ?_
            refine OK_mono (fin 1 (by rw [if_pos (Or.inr hb)])) (fun _ h => h)
          · rw [if_neg hb]
            refine OK_pos (by decide) ?_
            refine OK_mono (fin 0 (by rw [if_neg (by rintro (q | q); exact ht0 q; exact hb q)])) (fun _ h => h)
      · rw [if_neg hth]
        refine OK_pos (by decide) (OK_lt ?_)
        rw [nI_1]
        have hfil : ((oo H l).take (i + 1)).filter (thL H l) = t := by
          rw [htake, List.filter_append, ← ht]
          simp [hth]
        exact hn _ _ ⟨i + 1, rfl, hi, h2, by rw [hfil]; exact h3, by rw [hfil]; exact h4, by rw [hfil]; exact h5⟩ (by rw [nI_clamp (by omega), nI_clamp (by omega)]; omega)
  · rw [List.take_zero]
    refine isV.off isV_clear off_si (by omega)
  · rw [List.take_zero]
    exact isV_clear
  · rw [List.take_zero]
    intro x hx
    simp at hx
