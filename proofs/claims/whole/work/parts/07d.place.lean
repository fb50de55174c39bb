/-! WHERE THE MODEL SEES A NOTE, and its rows -/
section PLACE
variable {S : St} {H : Hs} {z : Nat}
theorem ArrOK_offP {P : Nat → Prop} {S1 : St} {l : List Nat} (ho : offP P S S1) (hP : ∀ j, 23 ≤ j → j ≤ 27 → ¬ P j) (h : ArrOK S H l) : ArrOK S1 H l := by
  obtain ⟨⟨a1, a2⟩, ⟨a3, a4⟩, a5⟩ := h
  refine ⟨⟨?_, PL_off a2 ho (hP _ (by omega) (by omega))⟩, ⟨?_, PL_off a4 ho (hP _ (by omega) (by omega))⟩, a5⟩
  · rw [(ho 23 (hP _ (by omega) (by omega))).1]; exact a1
  · rw [(ho 26 (hP _ (by omega) (by omega))).1]; exact a3
theorem opt_none {x : Option Nat} (h : ∀ y, x = some y → y < 2 ^ 31) : opt x = -1 ↔ x = none := by
  cases x with
  | none => exact ⟨fun _ => rfl, fun _ => rfl⟩
  | some y => exact ⟨fun q => absurd q (nI_ne_neg1 (h y rfl)), fun q => by cases q⟩
theorem m_placeOf {m : Nat} (hM : RM S H) (hz : z < 4) (hA : ArrOK S H (kn H z)) (hk : kN H (kn H z) m) : f_X7_placeOf S (nI z) (nI m) = some (opt (lnote H (kn H z) m)) := by
  have hbs := mbs hM
  have hW := hM.1
  have w9 := hW.2.2.2.2.2.2.2.2 z hz
  have hm90 := kN_90 hW hk
  obtain ⟨l, hl⟩ : ∃ l, l = kn H z := ⟨_, rfl⟩
  rw [← hl] at w9 hk hA ⊢
  have w4 := hW.2.2.2.1 m hk.1
  obtain ⟨⟨o1, o2⟩, ⟨t1, t2⟩, hO⟩ := hA
  have hol := oo_len hW hO
  suffices h9 : OK (f_X7_placeOf S (nI z) (nI m)) (fun v => v = opt (lnote H l m)) by
    obtain ⟨v, h1, rfl⟩ := h9
    exact h1
  unfold f_X7_placeOf
  rw [ck_eq hm90 (by omega), nI_clamp (by omega), (mN hM hk.1).1]
  refine OK_lt ?_
  refine Lp2_ok (fun x3 x4 => ∃ e t, x3 = nI e ∧ x4 = nI t ∧ t ≤ Hn H ∧ (e ∈ l ∧ 2 ≤ dk H e ∧ dn H e = m) ∧ sp H (nb H m) ≤ sp H e ∧ ∀ d, d < t → d ∈ l → dk H d = 3 → dn H d = m → sp H d ≤ sp H e) (fun _ x4 => 200 - x4.toNatClampNeg) ?_ FU _ _ ⟨nb H m, 0, rfl, rfl, Nat.zero_le _, ⟨hk.2, by omega, w4.2.2.1⟩, Nat.le_refl _, fun d h => by omega⟩ (by rw [FU_1000]; omega)
  rintro next x3 x4 ⟨e, t, rfl, rfl, k1, k2, k3, k4⟩ hn
  have hen := (w9.2.1 e k2.1).1
  obtain ⟨e1, e2, e3, e4, e5⟩ := mD hM hen
  have hdl := (hW.2.2.2.2.1 e hen).1
  rw [hM.2.1.1.1]
  refine OK_ite (fun c => ?_) (fun c => ?_)
  · have ht : t = Hn H := by
      have := (nI_leI (by omega) (by omega)).mp c
      omega
    have hB : isBest H l m e := by
      refine ⟨k2, fun d h1 h2 h3 => ?_⟩
      have hd := (w9.2.1 d h1).1
      have hk3 := (hW.2.1 d hd).1
      rcases Nat.lt_or_ge 2 (dk H d) with q | q
      · exact k4 d (by omega) h1 (by omega) h3
      · have h4 : nb H (dn H d) = d := (hW.2.2.2.2.1 d hd).2.2.2 (by omega)
        rw [h3] at h4
        rw [← h4]
        exact k3
    have hbe : bst H l m = e := bst_eq hW (fun d hd => (w9.2.1 d hd).1) hB
    have hin : dl H e ∈ oo H l := by
      have := bst_in hW (fun d hd => (w9.2.1 d hd).1) w9.2.2.1 hO (best_ex hW hk)
      rw [hbe] at this
      exact this
    obtain ⟨p, hp, hpe⟩ := List.mem_iff_getElem.mp hin
    have hpx : (oo H l)[p]? = some (dl H e) := by rw [List.getElem?_eq_getElem hp, hpe]
    have hln : lnote H l m = (((oo H l).take (p + 1)).filter (thL H l)).getLast?.or ((oo H l).filter (thL H l)).head? := by
      unfold lnote
      rw [hbe]
      exact near_eq hO.2.1 hpx
    refine Lp2_ok (fun a b => ∃ i, a = opt (((oo H l).take i).filter (thL H l)).getLast? ∧ b = nI i ∧ i ≤ p) (fun _ b => 200 - b.toNatClampNeg) ?_ FU _ _ ⟨0, rfl, rfl, Nat.zero_le _⟩ (by rw [FU_1000]; omega)
    rintro next2 a b ⟨i, rfl, rfl, i1⟩ hn2
    have hi : i < (oo H l).length := by omega
    rw [o1]
    refine OK_neg (fun q => by have := (nI_leI (by omega) (by omega)).mp q; omega) ?_
    obtain ⟨w, hw⟩ : ∃ w, w = (oo H l)[i] := ⟨_, rfl⟩
    have hwi : (oo H l)[i]? = some w := by rw [hw]; exact List.getElem?_eq_getElem hi
    have hwo : w ∈ oo H l := List.mem_of_getElem? hwi
    have hwk := (hO.2.2 w).mp hwo
    have hw90 := kL_90 hW hwk
    rw [ck_eq (by omega) (by omega), nI_clamp (by omega), o2 i w hwi, m_isThere hM hz hw90, ← hl]
    refine OK_cl (OK_some rfl) ?_
    rintro v125 rfl
    have htk : (oo H l).take (i + 1) = (oo H l).take i ++ [w] := by rw [List.take_succ, hwi]; rfl
    have rest : ∀ r, r = opt (((oo H l).take (i + 1)).filter (thL H l)).getLast? → OK (ck (nI i) 90 (ck (nI e) 90 (if ¬ nI w = ga S 5 (nI e).toNatClampNeg then lt (nI i + 1) fun x5_190 => next2 r x5_190 else if r = -1 then if gi S 26 ≤ 0 then some (-1) else ck 0 90 (some (ga S 27 (0 : Int32).toNatClampNeg)) else some r))) (fun v => v = opt (lnote H l m)) := by
      rintro r rfl
      rw [ck_eq (by omega) (by omega), ck_eq (by omega) (by omega), nI_clamp (by omega), e4]
      refine OK_ite (fun c1 => ?_) (fun c1 => ?_)
      · refine OK_lt ?_
        rw [nI_1]
        refine hn2 _ _ ⟨i + 1, rfl, rfl, ?_⟩ (by rw [nI_clamp (by omega), nI_clamp (by omega)]; omega)
        rcases Nat.eq_or_lt_of_le i1 with q | q
        · exfalso
          refine c1 ?_
          rw [q, hpx] at hwi
          injection hwi with hwi
          rw [hwi]
        · exact q
      · have hwe : w = dl H e := nI_inj (by omega) (by omega) (Decidable.byContradiction c1)
        have hip : i = p := nd_inj hO.2.1 hi hp (by rw [← hw, hpe, hwe])
        rw [hln, ← hip]
        have hbd : ∀ y, (((oo H l).take (i + 1)).filter (thL H l)).getLast? = some y → y < 2 ^ 31 := fun y hy => by
          have h1 := (List.mem_filter.mp (List.mem_of_getLast? hy)).2
          have := kL_90 hW (thL_iff.mp h1).1
          omega
        refine OK_ite (fun c2 => ?_) (fun c2 => ?_)
        · rw [(opt_none hbd).mp c2, Option.none_or]
          rw [t1]
          have htl : tl H l = (oo H l).filter (thL H l) := rfl
          refine OK_ite (fun c3 => ?_) (fun c3 => ?_)
          · have h0 : (tl H l).length = 0 := by
              have := (nI_leI (b := 0) (by have := tl_len hW hO; omega) (by omega)).mp c3
              omega
            have : tl H l = [] := List.eq_nil_of_length_eq_zero h0
            rw [← htl, this]
            exact OK_some rfl
          · have h0 : 0 < (tl H l).length := by
              rcases Nat.eq_zero_or_pos (tl H l).length with q | q
              · exact absurd (by rw [q]; decide) c3
              · exact q
            have hc : ga S 27 0 = nI ((tl H l)[0]'h0) := t2 0 _ (List.getElem?_eq_getElem h0)
            have hz0 : ck (0 : Int32) 90 (some (ga S 27 (0 : Int32).toNatClampNeg)) = some (nI ((tl H l)[0]'h0)) := by
              show ck (nI 0) 90 (some (ga S 27 (nI 0).toNatClampNeg)) = _
              rw [ck_eq (by omega) (by omega), nI_clamp (by omega), hc]
            rw [hz0, ← htl, List.head?_eq_getElem?, List.getElem?_eq_getElem h0]
            exact OK_some rfl
        · obtain ⟨y, hy⟩ : ∃ y, (((oo H l).take (i + 1)).filter (thL H l)).getLast? = some y := by
            cases h : (((oo H l).take (i + 1)).filter (thL H l)).getLast? with
            | none => exact absurd ((opt_none hbd).mpr h) c2
            | some y => exact ⟨y, rfl⟩
          rw [hy]
          exact OK_some rfl
    refine OK_jn ?_
    by_cases htt : tkn H l w = true
    · rw [if_pos htt]
      refine OK_pos rfl (rest _ ?_)
      have hf : thL H l w = false := by
        rw [← Bool.not_eq_true]
        intro q
        have := (thL_iff.mp q).2
        rw [htt] at this
        cases this
      rw [htk, List.filter_append, List.filter_cons, hf]
      simp
    · rw [if_neg htt]
      have hf : thL H l w = true := thL_iff.mpr ⟨hwk, by rw [← Bool.not_eq_true]; exact htt⟩
      refine OK_neg (by decide) ?_
      rw [ck_eq (by omega) (by omega)]
      refine rest _ ?_
      rw [htk, List.filter_append, List.filter_cons, hf]
      simp [opt]
  · have ht : t < Hn H := by
      rcases Nat.lt_or_ge t (Hn H) with q | q
      · exact q
      · exact absurd (nI_le q (by omega)) c
    have ht90 : t < 90 := by omega
    have hmt : 200 - (nI (t + 1)).toNatClampNeg < 200 - (nI t).toNatClampNeg := by rw [nI_clamp (by omega), nI_clamp (by omega)]; omega
    obtain ⟨d1, d2, d3, d4, d5⟩ := mD hM ht
    rw [k90, ck_eq (by omega) (by omega), nI_clamp (n := 90 * z + t) (by omega), mhas hM hz ht90, ← hl, nI_clamp (n := t) (by omega)]
    have keep : (t ∈ l → dk H t = 3 → dn H t = m → sp H t ≤ sp H e) → OK (lt (nI t + 1) fun x4_95 => next (nI e) x4_95) (fun v => v = opt (lnote H l m)) := by
      intro h
      refine OK_lt ?_
      rw [nI_1]
      refine hn _ _ ⟨e, t + 1, rfl, rfl, ht, k2, k3, fun d h1 h2 h3 h4 => ?_⟩ hmt
      rcases Nat.lt_or_ge d t with q | q
      · exact k4 d q h2 h3 h4
      · have : d = t := by omega
        rw [this] at h2 h3 h4 ⊢
        exact h h2 h3 h4
    refine OK_jnQ (¬ (t ∈ l ∧ dk H t = 3 ∧ dn H t = m)) (fun h => ?_) (fun j60 hj60 => ?_)
    · refine OK_jnQ True (fun _ => ?_) (fun j hj => ?_)
      · exact keep (fun q1 q2 q3 => absurd ⟨q1, q2, q3⟩ h)
      · exact OK_jn (OK_pos rfl (hj trivial))
    refine OK_jn ?_
    by_cases hin : t ∈ l
    · rw [if_pos hin]
      refine OK_neg (by decide) ?_
      rw [ck_eq ht90 (by omega), d1]
      have hk3 := (hW.2.1 t ht).1
      refine OK_ite (fun c1 => hj60 (fun g => c1 (by rw [g.2.1]; rfl))) (fun c1 => ?_)
      have hd3 : dk H t = 3 := nI_inj (b := 3) (by omega) (by omega) (Decidable.byContradiction c1)
      have hdn := (hW.2.2.2.2.1 t ht).2.2.1 (by omega)
      rw [ck_eq ht90 (by omega), d5 (by omega)]
      refine OK_ite (fun c2 => hj60 (fun g => c2 (by rw [g.2.2]))) (fun c2 => ?_)
      have hdm : dn H t = m := nI_inj (by omega) (by omega) (Decidable.byContradiction c2)
      have hnbt := hW.2.2.2.2.2.2.2.1 t ht hd3
      rw [hdm] at hnbt
      have take : sp H e ≤ sp H t → OK (lt (nI t + 1) fun x4_95 => next (nI t) x4_95) (fun v => v = opt (lnote H l m)) := by
        intro h
        refine OK_lt ?_
        rw [nI_1]
        refine hn _ _ ⟨t, t + 1, rfl, rfl, ht, ⟨hin, by omega, hdm⟩, by omega, fun d h1 h2 h3 h4 => ?_⟩ hmt
        rcases Nat.lt_or_ge d t with q | q
        · have := k4 d q h2 h3 h4
          omega
        · have : d = t := by omega
          rw [this]
          exact Nat.le_refl _
      refine OK_jnQ (sp H t ≤ sp H e) (fun h => keep (fun _ _ _ => h)) (fun j93 hj93 => ?_)
      refine OK_jn (OK_neg (by decide) ?_)
      rw [ck_eq (by omega) (by omega), nI_clamp (by omega), e1]
      refine OK_jnQ (sp H e ≤ sp H t) (fun h => take h) (fun j88 hj88 => ?_)
      refine OK_ite (fun c3 => ?_) (fun c3 => ?_)
      · refine hj88 ?_
        have hke := (hW.2.1 e hen).1
        have hd2 : dk H e = 2 := nI_inj (b := 2) (by omega) (by omega) c3
        have h4 : nb H (dn H e) = e := (hW.2.2.2.2.1 e hen).2.2.2 hd2
        rw [k2.2.2] at h4
        rw [h4] at hnbt
        omega
      · rw [m_isGreater hM ht hen]
        refine OK_cl (OK_some rfl) ?_
        rintro v82 rfl
        by_cases hg : sp H e < sp H t
        · rw [if_pos hg]
          exact OK_neg (by decide) (hj88 (by omega))
        · rw [if_neg hg]
          exact OK_pos rfl (hj93 (by omega))
    · rw [if_neg hin]
      exact OK_pos rfl (hj60 (fun g => hin g.1))
end PLACE
