theorem isV_len {S : St} {k : Nat} {vs : List Int32} (h : isV S k vs) : gi S k = nI vs.length := h.1
theorem isV_at {S : St} {k i : Nat} {vs : List Int32} {v : Int32} (h : isV S k vs) (hi : vs[i]? = some v) : ga S k i = v := h.2 i v hi
theorem putBetween_ok {S : St} {k p : Nat} {vs : List Int32} {v : Int32} (h : isV S k vs) (hp : p ≤ vs.length) (hl : vs.length < ln k) : OK (f_X2_putBetween S k (nI p) v) (fun S1 => isV S1 k (vs.insertIdx p v) ∧ off k S S1) := by
  have h5 := ln_le k
  unfold f_X2_putBetween
  refine OK_neg (nI_pos (by omega)) (OK_neg ?_ (OK_pos ?_ (OK_lt ?_)))
  · rw [h.1]; exact nI_nlt hp (by omega)
  · rw [h.1]; exact nI_lt hl (by omega)
  rw [h.1]
  refine Lp2_ok (fun x S2 => ∃ j, x = nI j ∧ p ≤ j ∧ j ≤ vs.length ∧ gi S2 k = nI vs.length ∧ off k S S2 ∧ (∀ i w, i < j → vs[i]? = some w → ga S2 k i = w) ∧ (∀ i w, j ≤ i → vs[i]? = some w → ga S2 k (i + 1) = w)) (fun x _ => x.toNatClampNeg) ?_ FU _ _ ⟨vs.length, rfl, hp, Nat.le_refl _, h.1, off.rf, fun i w _ hw => h.2 i w hw, fun i w hi hw => ?_⟩ (by rw [nI_clamp (by omega), FU_1000]; omega)
  · rintro next x S2 ⟨j, rfl, h1, h2, h3, h4, h6, h7⟩ hn
    refine OK_ite (fun c => ?_) (fun c => ?_)
    · have hj : j = p := by
        have := (nI_leI (by omega) (by omega)).mp c
        omega
      subst hj
      rw [put_eq (by omega)]
      refine OK_cl (P := fun S3 => S3 = sa S2 k j v) (OK_some rfl) ?_
      rintro S3 rfl
      refine OK_lt (OK_some ⟨⟨?_, ?_⟩, (h4.tr off_sa).tr off_si⟩)
      · rw [gi_si_eq, gi_sa, h3, List.length_insertIdx_of_le_length hp, nI_1]
      · intro i w hw
        rw [ga_si, ga_sa_eq]
        rw [List.getElem?_insertIdx] at hw
        split at hw
        · rw [upd_ne (by omega)]; exact h6 i w (by omega) hw
        · split at hw
          · rename_i q1 q2
            subst q2
            rw [if_pos hp] at hw
            cases hw
            exact upd_eq
          · obtain ⟨i', rfl⟩ : ∃ i', i = i' + 1 := ⟨i - 1, by omega⟩
            rw [upd_ne (by omega)]
            exact h7 i' w (by omega) hw
    · have hj : p < j := by
        rcases Nat.lt_or_ge p j with q | q
        · exact q
        · exact absurd (nI_le q (by omega)) c
      rw [show nI j - 1 = nI (j - 1) from nI_sub1 (by omega), at_eq (by omega)]
      refine OK_cl (P := fun w => w = ga S2 k (j - 1)) (OK_some rfl) ?_
      rintro w rfl
      rw [put_eq (by omega)]
      refine OK_cl (P := fun S3 => S3 = sa S2 k j (ga S2 k (j - 1))) (OK_some rfl) ?_
      rintro S3 rfl
      refine OK_lt ?_
      rw [nI_addm1 (by omega)]
      refine hn _ _ ⟨j - 1, rfl, by omega, by omega, by rw [gi_sa]; exact h3, h4.tr off_sa, fun i w hi hw => ?_, fun i w hi hw => ?_⟩ (by rw [nI_clamp (by omega), nI_clamp (by omega)]; omega)
      · rw [ga_sa_eq, upd_ne (by omega)]; exact h6 i w (by omega) hw
      · rw [ga_sa_eq]
        by_cases q : i + 1 = j
        · rw [q, upd_eq]
          have e : j - 1 = i := by omega
          rw [e]
          exact h6 i w (by omega) hw
        · rw [upd_ne q]; exact h7 i w (by omega) hw
  · exfalso
    have := (List.getElem?_eq_some_iff.mp hw).1
    omega
theorem add_ok {S : St} {k : Nat} {vs : List Int32} {v : Int32} (h : isV S k vs) (hl : vs.length < ln k) : OK (f_X2_add S k v) (fun S1 => isV S1 k (vs ++ [v]) ∧ off k S S1) := by
  unfold f_X2_add
  rw [h.1]
  refine OK_cl (putBetween_ok h (Nat.le_refl _) hl) ?_
  rintro S1 ⟨h1, h2⟩
  rw [List.insertIdx_length_self] at h1
  exact OK_some ⟨h1, h2⟩
/-- the place of a number, or NONE -/
def plc (vs : List Int32) (x : Int32) : Int32 := match vs.findIdx? (fun v => v == x) with
  | some i => nI i
  | none => -1
theorem placeOf_eq {S : St} {k : Nat} {vs : List Int32} (x : Int32) (h : isV S k vs) (hl : vs.length ≤ ln k) : f_X2_placeOf S k x = some (plc vs x) := by
  have h5 := ln_le k
  suffices h9 : OK (f_X2_placeOf S k x) (fun r => r = plc vs x) by
    obtain ⟨r, h1, rfl⟩ := h9
    exact h1
  unfold f_X2_placeOf
  refine Lp1_ok (fun y => ∃ j, y = nI j ∧ j ≤ vs.length ∧ ∀ i w, i < j → vs[i]? = some w → ¬ w = x) (fun y => vs.length - y.toNatClampNeg) ?_ FU _ ⟨0, rfl, Nat.zero_le _, fun i w hi => by omega⟩ (by rw [FU_1000]; omega)
  rintro next y ⟨j, rfl, h1, h2⟩ hn
  refine OK_ite (fun c => ?_) (fun c => ?_)
  · rw [h.1] at c
    have hj : j = vs.length := by
      have := (nI_leI (by omega) (by omega)).mp c
      omega
    refine OK_some ?_
    unfold plc
    rw [List.findIdx?_eq_none_iff.mpr]
    intro w hw
    obtain ⟨i, hi, rfl⟩ := List.mem_iff_getElem.mp hw
    have := h2 i _ (by omega) (List.getElem?_eq_getElem hi)
    simpa using this
  · have hj : j < vs.length := by
      rcases Nat.lt_or_ge j vs.length with q | q
      · exact q
      · exact absurd (by rw [h.1]; exact nI_le q (by omega)) c
    rw [at_eq (by omega)]
    refine OK_cl (P := fun w => w = ga S k j) (OK_some rfl) ?_
    rintro w rfl
    have hw := h.2 j _ (List.getElem?_eq_getElem hj)
    refine OK_ite (fun c1 => ?_) (fun c1 => ?_)
    · refine OK_lt ?_
      rw [nI_1]
      refine hn _ ⟨j + 1, rfl, hj, fun i w hi hw9 => ?_⟩ (by rw [nI_clamp (by omega), nI_clamp (by omega)]; omega)
      by_cases q : i = j
      · subst q
        rw [List.getElem?_eq_getElem hj] at hw9
        cases hw9
        rw [hw] at c1
        exact c1
      · exact h2 i w (by omega) hw9
    · refine OK_some ?_
      have c2 : ga S k j = x := Classical.not_not.mp c1
      unfold plc
      rw [List.findIdx?_eq_some_iff_getElem.mpr ⟨hj, ?_, ?_⟩]
      · simp [← hw, c2]
      · intro i hi
        have := h2 i _ hi (List.getElem?_eq_getElem (by omega))
        simpa using this
