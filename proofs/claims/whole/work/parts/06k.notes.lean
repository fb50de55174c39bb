/-! WHERE A NOTE IS, AND ITS ROWS -/
def opt (x : Option Nat) : Int32 := match x with
  | some y => nI y
  | none => -1
theorem takeWhile_take {o : List Nat} (hn : o.Nodup) {i x : Nat} (h : o[i]? = some x) : o.takeWhile (fun y => decide (y ≠ x)) = o.take i := by
  induction o generalizing i with
  | nil => simp at h
  | cons a o ih =>
    obtain ⟨n1, n2⟩ := List.nodup_cons.mp hn
    cases i with
    | zero =>
      have e : a = x := by simpa using h
      rw [List.takeWhile_cons, if_neg (by simp [e])]
      rfl
    | succ i =>
      have h' : o[i]? = some x := by simpa using h
      have hne : a ≠ x := fun e => n1 (e ▸ List.mem_of_getElem? h')
      rw [List.takeWhile_cons, if_pos (by simpa using hne), ih n2 h']
      rfl
theorem near_eq {t : Nat → Bool} {o : List Nat} (hn : o.Nodup) {i x : Nat} (h : o[i]? = some x) : near t o x = (((o.take (i + 1)).filter t).getLast?).or (o.filter t).head? := by
  unfold near
  rw [takeWhile_take hn h]
  have e : o.take (i + 1) = o.take i ++ [x] := by rw [List.take_succ, h]; rfl
  rw [e]
theorem lineOfNote_eq {S : St} {z m : Nat} {H : Hs} {l : List Nat} (hz : z < 4) (hW : WF H) (hT : TextOK S z H l) (hm : m < 90) (hk : kN H l m) (hin : dl H (bst H l m) ∈ oo H l) :
    f_X5_lineOfNote S z (nI m) = some (opt (lnote H l m)) := by
  have hO := hT.2.1
  have hol := oo_len hW hO
  obtain ⟨i, hi, hix⟩ := List.mem_iff_getElem.mp hin
  have hix' : (oo H l)[i]? = some (dl H (bst H l m)) := by rw [List.getElem?_eq_getElem hi, hix]
  have hlt : ∀ y ∈ oo H l, y < 90 := fun y hy => by have := oo_lt hO hy; omega
  have l1 := ln_ge (oT z + 1)
  suffices h9 : OK (f_X5_lineOfNote S z (nI m)) (fun r => r = opt (lnote H l m)) by
    obtain ⟨r, h1, rfl⟩ := h9
    exact h1
  have hnear : lnote H l m = ((((oo H l).take (i + 1)).filter (thL H l)).getLast?).or ((oo H l).filter (thL H l)).head? := near_eq hO.2.1 hix'
  rw [hnear]
  unfold f_X5_lineOfNote
  rw [at_eq (by have := ln_ge (oT z + 9); omega), ((hT.2.2.2 m hm).2 hk).2.1]
  refine OK_cl (OK_some rfl) ?_
  rintro v9 rfl
  rw [placeOf_eq _ hT.1 (by simp; omega), (plc_nI (fun y hy => by have := hlt y hy; omega) (by have := hlt _ hin; omega) hO.2.1).2 i hix']
  refine OK_cl (OK_some rfl) ?_
  rintro v12 rfl
  obtain ⟨t, ht⟩ : ∃ t, t = thL H l := ⟨_, rfl⟩
  obtain ⟨o, ho⟩ : ∃ o, o = oo H l := ⟨_, rfl⟩
  have hT1 := hT.1
  clear hix
  rw [← ht]
  rw [← ho] at hlt hol hi hix' hT1 ⊢
  refine Lp2_ok (fun a y => ∃ p, y = nI p ∧ p ≤ o.length ∧ a = opt (((o.take p).filter t).getLast?) ∧ (p ≤ i + 1 ∨ (o.take (p - 1)).filter t = [])) (fun _ y => 90 - y.toNatClampNeg) ?_ FU _ _ ⟨0, rfl, Nat.zero_le _, by simp [opt], Or.inl (Nat.zero_le _)⟩ (by rw [FU_1000]; omega)
  rintro next a y ⟨p, rfl, h1, h2, h3⟩ hn
  rw [size_eq]
  refine OK_cl (OK_some rfl) ?_
  rintro v27 rfl
  rw [hT1.1, List.length_map]
  -- what the answer is, when the walk stops at p
  have stop : (p = o.length ∨ (i < p ∧ ¬ ((o.take p).filter t).getLast? = none)) → a = opt ((((o.take (i + 1)).filter t).getLast?).or (o.filter t).head?) := by
    intro hs
    rw [h2]
    congr 1
    by_cases hp : p ≤ i + 1
    · have hp : p = i + 1 := by omega
      rw [hp]
      rw [hp] at hs
      rcases hs with hs | ⟨-, hs⟩
      · rw [hs, List.take_length]
        cases hl : o.filter t with
        | nil => rfl
        | cons w r =>
          rw [List.getLast?_cons]
          rfl
      · cases hl : (List.filter t (List.take (i + 1) o)).getLast? with
        | none => exact absurd hl hs
        | some w => rfl
    · have h3 := h3.resolve_left hp
      have e1 : (o.take (i + 1)).filter t = [] := by
        have e : o.take (i + 1) = (o.take (p - 1)).take (i + 1) := by rw [List.take_take, Nat.min_eq_left (by omega)]
        rw [List.filter_eq_nil_iff] at h3 ⊢
        intro w hw
        exact h3 w (List.mem_of_mem_take (e ▸ hw))
      rw [e1]
      show _ = (o.filter t).head?
      have hp1 : p - 1 < o.length := by omega
      have e2 : o.take p = o.take (p - 1) ++ [o[p - 1]] := by
        conv => lhs; rw [show p = p - 1 + 1 by omega]
        rw [List.take_succ, List.getElem?_eq_getElem hp1]
        rfl
      have e3 : (o.take p).filter t = [o[p - 1]].filter t := by rw [e2, List.filter_append, h3, List.nil_append]
      rw [e3]
      have e4 : o.filter t = [o[p - 1]].filter t ++ (o.drop p).filter t := by
        rw [← e3, ← List.filter_append, List.take_append_drop]
      rw [e4]
      by_cases hq : t o[p - 1] = true
      · have e5 : [o[p - 1]].filter t = [o[p - 1]] := by simp [hq]
        rw [e5]
        rfl
      · have e5 : [o[p - 1]].filter t = [] := by simp [hq]
        rw [e5]
        rw [e3, e5] at hs
        rcases hs with hs | ⟨-, hs⟩
        · rw [hs, List.drop_length]
          rfl
        · exact absurd rfl hs
  -- one more step
  have step : p < o.length → (p ≤ i ∨ ((o.take p).filter t).getLast? = none) → OK (cl (f_X2_at S (oT z + 1) (nI p)) fun v51 => cl (f_X5_hasThere S z v51) fun v54 => jn (fun x3_70 => lt (nI p + 1) fun x4_70 => next x3_70 x4_70) fun J70 => if v54 = 0 then J70 a else cl (f_X2_at S (oT z + 1) (nI p)) fun v66 => J70 v66) (fun r => r = opt ((((o.take (i + 1)).filter t).getLast?).or (o.filter t).head?)) := by
    intro hp hor
    have hat := isV_at hT1 (i := p) (v := nI (o[p]'hp)) (by rw [List.getElem?_map, List.getElem?_eq_getElem hp]; rfl)
    have hlp := hlt _ (List.getElem_mem hp)
    rw [at_eq (by omega), hat]
    refine OK_cl (OK_some rfl) ?_
    rintro v51 rfl
    rw [hasThere_eq hT hlp, ← ht]
    refine OK_cl (OK_some rfl) ?_
    rintro v54 rfl
    refine OK_jn ?_
    have e2 : o.take (p + 1) = o.take p ++ [o[p]] := by
      rw [List.take_succ, List.getElem?_eq_getElem hp]
      rfl
    have hor2 : p + 1 ≤ i + 1 ∨ (o.take (p + 1 - 1)).filter t = [] := by
      rcases hor with q | q
      · exact Or.inl (by omega)
      · exact Or.inr (by rw [Nat.add_sub_cancel]; exact List.getLast?_eq_none_iff.mp q)
    by_cases hq : t o[p] = true
    · rw [if_pos hq]
      refine OK_neg (by decide) ?_
      refine OK_cl (OK_some rfl) ?_
      rintro v66 rfl
      refine OK_lt ?_
      rw [nI_1]
      refine hn _ _ ⟨p + 1, rfl, hp, ?_, hor2⟩ (by rw [nI_clamp (by omega), nI_clamp (by omega)]; omega)
      rw [e2, List.filter_append]
      simp [hq, opt]
    · rw [if_neg hq]
      refine OK_pos (by decide) (OK_lt ?_)
      rw [nI_1]
      refine hn _ _ ⟨p + 1, rfl, hp, ?_, hor2⟩ (by rw [nI_clamp (by omega), nI_clamp (by omega)]; omega)
      rw [e2, List.filter_append, h2]
      simp [hq]
  refine OK_ite (fun c => ?_) (fun c => ?_)
  · refine OK_some (stop (Or.inl ?_))
    have := (nI_leI (by omega) (by omega)).mp c
    omega
  · have hp : p < o.length := by
      rcases Nat.lt_or_ge p o.length with q | q
      · exact q
      · exact absurd (nI_le q (by omega)) c
    refine OK_jn (OK_ite (fun c1 => ?_) (fun c1 => OK_ite (fun c2 => ?_) (fun c2 => ?_)))
    · exact step hp (Or.inl ((nI_leI (by omega) (by omega)).mp c1))
    · refine OK_some (stop (Or.inr ⟨?_, fun q => ?_⟩))
      · rcases Nat.lt_or_ge i p with q | q
        · exact q
        · exact absurd (nI_le q (by omega)) c1
      · rw [h2, q] at c2
        exact c2 rfl
    · refine step hp (Or.inr ?_)
      have c3 : a = -1 := Classical.not_not.mp c2
      rw [h2] at c3
      cases hl : ((o.take p).filter t).getLast? with
      | none => rfl
      | some w =>
        exfalso
        rw [hl] at c3
        have hw : w ∈ o := by
          have := List.mem_of_getLast? hl
          exact List.mem_of_mem_take (List.mem_filter.mp this).1
        exact nI_ne_neg1 (by have := hlt w hw; omega) c3
theorem near_mem {t : Nat → Bool} {o : List Nat} {x y : Nat} (hx : x ∈ o) (h : near t o x = some y) : y ∈ o.filter t := by
  unfold near at h
  have hsub : ∀ w, w ∈ o.takeWhile (fun y => decide (y ≠ x)) ++ [x] → w ∈ o := by
    intro w hw
    rcases List.mem_append.mp hw with q | q
    · exact (List.takeWhile_sublist _).subset q
    · have : w = x := by simpa using q
      rw [this]; exact hx
  cases hl : ((o.takeWhile (fun y => decide (y ≠ x)) ++ [x]).filter t).getLast? with
  | some w =>
    rw [hl] at h
    have e : w = y := by simpa using h
    subst e
    have := List.mem_filter.mp (List.mem_of_getLast? hl)
    exact List.mem_filter.mpr ⟨hsub _ this.1, this.2⟩
  | none =>
    rw [hl] at h
    have h : (o.filter t).head? = some y := by simpa using h
    exact List.mem_of_head? h
theorem knowsNote_eq {S : St} {z m : Nat} {H : Hs} {l : List Nat} (hW : WF H) (hT : TextOK S z H l) (hl : ∀ d ∈ l, d < Hn H) (hm : m < 90) : (kN H l m → f_X5_knowsNote S z (nI m) = some 1) ∧ (¬ kN H l m → f_X5_knowsNote S z (nI m) = some 0) := by
  have h1 := hT.2.2.2 m hm
  unfold f_X5_knowsNote cl
  rw [at_eq (by have := ln_ge (oT z + 9); omega), Option.bind_some]
  constructor
  · intro hk
    obtain ⟨b1, b2, b3⟩ := h1.2 hk
    have hb := hl _ b1.1.1
    have := hW.2.2.2.2.1 _ hb
    have := hW.1
    rw [b2, if_neg (nI_ne_neg1 (by omega))]
  · intro hk
    rw [(h1.1 hk).1]
    rfl
/-- the line that a known note wants is in the order -/
theorem bst_in {H : Hs} {l : List Nat} {m : Nat} (hW : WF H) (hl : ∀ d ∈ l, d < Hn H) (hc : Cau H l) (hO : OrdL H l (oo H l)) (hB : isBest H l m (bst H l m)) : dl H (bst H l m) ∈ oo H l := by
  rw [hO.2.2]
  obtain ⟨⟨b1, b2, b3⟩, -⟩ := hB
  refine ⟨(hW.2.2.2.2.1 _ (hl _ b1)).1, ?_⟩
  obtain ⟨u, v, e⟩ := List.append_of_mem b1
  have := hc u _ v e _ (Or.inr (Or.inl ⟨by omega, rfl⟩))
  have h9 : mb H (dl H (bst H l m)) ∈ u ++ bst H l m :: v := List.mem_append_left _ this
  rw [← e] at h9
  exact h9
theorem rwN_succ {H : Hs} {l : List Nat} {x m : Nat} : rwN H l x (m + 1) = if nb H m ∈ l ∧ lnote H l m = some x then min 6 (rwN H l x m + nr H m) else rwN H l x m := rfl
theorem addNotes_ok {S : St} {z : Nat} {H : Hs} {l : List Nat} (hz : z < 4) (hW : WF H) (hL : Led S H) (hT : TextOK S z H l) (hl : ∀ d ∈ l, d < Hn H) (hc : Cau H l) (h1 : ∀ x ∈ tl H l, ga S (oL z + 5) x = nI 1) :
    OK (f_X0_addNotes S z) (fun S1 => (∀ x ∈ tl H l, ga S1 (oL z + 5) x = nI (rwL H l x)) ∧ offP (fun j => j = oL z + 5) S S1) := by
  have hO := hT.2.1
  have hol := oo_len hW hO
  have h90 := hW.1
  have l5 := ln_ge (oL z + 5)
  have hzT : oT z = 26 + 27 * z := by unfold oT oS; omega
  have hzL : oL z = 39 + 27 * z := by unfold oL oS; omega
  have hone : ∀ (n : Nat) (v : Int32), nI n = v → nI n = v := fun _ _ h => h
  unfold f_X0_addNotes
  refine Lp2_ok (fun y S2 => ∃ m, y = nI m ∧ m ≤ HN H ∧ offP (fun j => j = oL z + 5) S S2 ∧ ∀ x ∈ tl H l, ga S2 (oL z + 5) x = nI (rwN H l x m)) (fun y _ => 90 - y.toNatClampNeg) ?_ FU _ _ ⟨0, rfl, Nat.zero_le _, offP.rf, h1⟩ (by rw [FU_1000]; omega)
  rintro next y S2 ⟨m, rfl, k1, k2, k3⟩ hn
  have hT2 : TextOK S2 z H l := TextOK_offP k2 (fun j hj q => by rcases hj with r | r | r | r <;> omega) hT
  have hL2 : Led S2 H := Led_offP k2 (fun k hk q => by omega) hL
  unfold f_X1_noteCount
  rw [size_eq, isF_size hL2.2.2.2.2.2.2.2.2]
  refine OK_cl (OK_cl (OK_some rfl) (fun a ha => OK_some ha)) ?_
  rintro v7 rfl
  refine OK_ite (fun c => ?_) (fun c => ?_)
  · have hm : m = HN H := by
      have := (nI_leI (by omega) (by omega)).mp c
      omega
    subst hm
    exact OK_some ⟨k3, k2⟩
  · have hm : m < HN H := by
      rcases Nat.lt_or_ge m (HN H) with q | q
      · exact q
      · exact absurd (nI_le q (by omega)) c
    by_cases hk : nb H m ∈ l
    · have hkn : kN H l m := ⟨hm, hk⟩
      have hB := ((hT2.2.2.2 m (by omega)).2 hkn).1
      have hin := bst_in hW hl hc hO hB
      rw [(knowsNote_eq hW hT2 hl (by omega)).1 hkn]
      refine OK_cl (OK_some rfl) ?_
      rintro v18 rfl
      refine OK_jn (OK_neg (by decide) ?_)
      rw [lineOfNote_eq hz hW hT2 (by omega) hkn hin]
      refine OK_cl (OK_some rfl) ?_
      rintro v29 rfl
      cases hln : lnote H l m with
      | none =>
        show OK (cl (f_X2_at S2 (oL z + 5) (-1)) _) _
        rw [at_m1]
        refine OK_cl (OK_some rfl) ?_
        rintro v38 rfl
        rw [rowsOfNote_eq hW hL2 hm]
        refine OK_cl (OK_some rfl) ?_
        rintro v46 rfl
        refine OK_lt ?_
        show OK (cl (f_X2_put S2 (oL z + 5) (-1) _) _) _
        rw [put_m1]
        refine OK_cl (OK_some rfl) ?_
        rintro S3 rfl
        refine OK_lt ?_
        rw [nI_1]
        refine hn _ _ ⟨m + 1, rfl, hm, k2, fun x hx => ?_⟩ (by rw [nI_clamp (by omega), nI_clamp (by omega)]; omega)
        rw [k3 x hx]
        rw [rwN_succ, if_neg (by rw [hln]; rintro ⟨-, q⟩; cases q)]
      | some y =>
        have hyt : y ∈ tl H l := near_mem hin hln
        have hy90 := tl_lt hO hyt
        have hrw := rwN_in (H := H) (l := l) (x := y) m
        obtain ⟨-, -, -, hr1, hr3⟩ := hW.2.2.2.1 m hm
        show OK (cl (f_X2_at S2 (oL z + 5) (nI y)) _) _
        rw [at_eq (by omega), k3 y hyt]
        refine OK_cl (OK_some rfl) ?_
        rintro v38 rfl
        rw [rowsOfNote_eq hW hL2 hm]
        refine OK_cl (OK_some rfl) ?_
        rintro v46 rfl
        refine OK_lt ?_
        rw [nI_add]
        have emin : (if (6 : Int32) < nI (rwN H l y m + nr H m) then (6 : Int32) else nI (rwN H l y m + nr H m)) = nI (min 6 (rwN H l y m + nr H m)) := by
          have h6 : (6 : Int32) < nI (rwN H l y m + nr H m) ↔ 6 < rwN H l y m + nr H m := nI_ltI (a := 6) (by omega) (by omega)
          by_cases q : 6 < rwN H l y m + nr H m
          · rw [if_pos (h6.mpr q), Nat.min_eq_left (by omega)]
            rfl
          · rw [if_neg (fun q2 => q (h6.mp q2)), Nat.min_eq_right (by omega)]
        rw [emin]
        show OK (cl (f_X2_put S2 (oL z + 5) (nI y) _) _) _
        rw [put_eq (by omega)]
        refine OK_cl (OK_some rfl) ?_
        rintro S3 rfl
        refine OK_lt ?_
        rw [nI_1]
        refine hn _ _ ⟨m + 1, rfl, hm, k2.tr (off_sa.P rfl), fun x hx => ?_⟩ (by rw [nI_clamp (by omega), nI_clamp (by omega)]; omega)
        rw [ga_sa_eq, rwN_succ]
        by_cases hxy : x = y
        · rw [hxy, upd_eq, if_pos ⟨hk, hln⟩]
        · rw [upd_ne hxy, if_neg (by rw [hln]; rintro ⟨-, q⟩; exact hxy (Option.some.inj q).symm)]
          exact k3 x hx
    · have hkn : ¬ kN H l m := fun q => hk q.2
      rw [(knowsNote_eq hW hT2 hl (by omega)).2 hkn]
      refine OK_cl (OK_some rfl) ?_
      rintro v18 rfl
      refine OK_jn (OK_pos rfl (OK_lt ?_))
      rw [nI_1]
      refine hn _ _ ⟨m + 1, rfl, hm, k2, fun x hx => ?_⟩ (by rw [nI_clamp (by omega), nI_clamp (by omega)]; omega)
      rw [k3 x hx, rwN_succ, if_neg (fun q => hk q.1)]
