/-! LINES PUT ANEW -/
def Srt (H : Hs) (L : List Nat) : Prop := L.Pairwise (fun x y => sl H x ≤ sl H y)
theorem sl_lt {H : Hs} (hW : WF H) {x : Nat} (hx : x < HL H) : sl H x < 400 := sp_lt hW (hW.2.2.1 x hx).1
theorem placeByStamp_ok {S : St} {z v : Nat} {H : Hs} {L : List Nat} (hW : WF H) (hL : Led S H) (hV : isV S (oT z + 5) (L.map nI)) (hlt : ∀ y ∈ L, y < HL H) (hlen : L.length ≤ 90) (hv : v < 400) :
    OK (f_X5_placeByStamp S z (nI v)) (fun r => ∃ p, r = nI p ∧ p ≤ L.length ∧ (∀ q y, p ≤ q → L[q]? = some y → v < sl H y) ∧ (∀ y, 0 < p → L[p - 1]? = some y → sl H y ≤ v)) := by
  unfold f_X5_placeByStamp
  rw [size_eq, hV.1, List.length_map]
  refine OK_cl (OK_some rfl) ?_
  rintro v4 rfl
  refine Lp1_ok (fun a => ∃ p, a = nI p ∧ p ≤ L.length ∧ (∀ q y, p ≤ q → L[q]? = some y → v < sl H y)) (fun a => a.toNatClampNeg) ?_ FU _ ⟨L.length, rfl, Nat.le_refl _, fun q y h1 h2 => ?_⟩ (by rw [FU_1000, nI_clamp (by omega)]; omega)
  · rintro next a ⟨p, rfl, h1, h2⟩ hn
    refine OK_ite (fun c => ?_) (fun c => ?_)
    · have h0 : p = 0 := by
        have := (nI_leI (b := 0) (by omega) (by omega)).mp c
        omega
      exact OK_some ⟨p, rfl, h1, h2, fun y h3 _ => by omega⟩
    · have h0 : 0 < p := by
        rcases Nat.eq_zero_or_pos p with q | q
        · exact absurd (by rw [q]; decide) c
        · exact q
      have hp : p - 1 < L.length := by omega
      rw [nI_sub1 h0, at_eq (by have := ln_ge (oT z + 5); omega), isV_at hV (i := p - 1) (v := nI (L[p - 1]'hp)) (by rw [List.getElem?_map, List.getElem?_eq_getElem hp]; rfl)]
      refine OK_cl (OK_some rfl) ?_
      rintro v23 rfl
      have hy := hlt _ (List.getElem_mem hp)
      rw [stampOfLine_eq hW hL hy]
      refine OK_cl (OK_some rfl) ?_
      rintro v26 rfl
      have s2 := sl_lt hW hy
      refine OK_ite (fun c1 => ?_) (fun c1 => ?_)
      · refine OK_some ⟨p, rfl, h1, h2, fun y _ h4 => ?_⟩
        rw [List.getElem?_eq_getElem hp] at h4
        injection h4 with h4
        rw [← h4]
        exact (nI_leI (by omega) (by omega)).mp c1
      · refine OK_lt ?_
        rw [nI_addm1 h0]
        refine hn _ ⟨p - 1, rfl, by omega, fun q y h3 h4 => ?_⟩ (by rw [nI_clamp (by omega), nI_clamp (by omega)]; omega)
        rcases Nat.eq_or_lt_of_le h3 with e | e
        · rw [← e, List.getElem?_eq_getElem hp] at h4
          injection h4 with h4
          rw [← h4]
          rcases Nat.lt_or_ge v (sl H (L[p - 1]'hp)) with g | g
          · exact g
          · exact absurd (nI_le g (by omega)) c1
        · exact h2 q y (by omega) h4
  · rw [List.getElem?_eq_none h1] at h2
    cases h2
theorem Srt_insert {H : Hs} {L : List Nat} {p x : Nat} (hS : Srt H L) (hp : p ≤ L.length) (h1 : ∀ q y, p ≤ q → L[q]? = some y → sl H x < sl H y) (h2 : ∀ y, 0 < p → L[p - 1]? = some y → sl H y ≤ sl H x) : Srt H (L.insertIdx p x) := by
  rw [insertIdx_split _ _ _ hp]
  have h0 : Srt H (L.take p ++ L.drop p) := by rw [List.take_append_drop]; exact hS
  obtain ⟨a1, a2, a3⟩ := List.pairwise_append.mp h0
  have ht : ∀ a ∈ L.take p, sl H a ≤ sl H x := by
    intro a ha
    obtain ⟨i, hi, e⟩ := List.mem_iff_getElem.mp ha
    rw [List.getElem_take] at e
    rw [List.length_take] at hi
    have hp1 : p - 1 < L.length := by omega
    have h3 := h2 _ (by omega) (List.getElem?_eq_getElem hp1)
    rcases Nat.lt_or_ge i (p - 1) with q | q
    · have := List.pairwise_iff_getElem.mp hS i (p - 1) (by omega) hp1 q
      rw [e] at this
      omega
    · have : i = p - 1 := by omega
      subst this
      rw [e] at h3
      exact h3
  have hd : ∀ b ∈ L.drop p, sl H x < sl H b := by
    intro b hb
    obtain ⟨i, hi, e⟩ := List.mem_iff_getElem.mp hb
    rw [List.getElem_drop] at e
    rw [List.length_drop] at hi
    refine h1 (p + i) b (by omega) ?_
    rw [List.getElem?_eq_getElem (by omega), e]
  refine List.pairwise_append.mpr ⟨a1, List.pairwise_cons.mpr ⟨fun b hb => Nat.le_of_lt (hd b hb), a2⟩, fun a ha b hb => ?_⟩
  rcases List.mem_cons.mp hb with rfl | hb
  · exact ht a ha
  · exact a3 a ha b hb
theorem knowsLine_eq {S : St} {z x : Nat} {H : Hs} {l : List Nat} (hT : TextOK S z H l) (hx : x < 90) : (kL H l x → f_X5_knowsLine S z (nI x) = some 1) ∧ (¬ kL H l x → f_X5_knowsLine S z (nI x) = some 0) := by
  unfold f_X5_knowsLine
  rw [at_eq (by have := ln_ge (oT z + 7); omega)]
  refine ⟨fun h => ?_, fun h => ?_⟩
  · have e := (hT.2.2.1 x hx).2 h
    unfold cl
    rw [Option.bind_some, e, if_neg]
    split <;> decide
  · have e := (hT.2.2.1 x hx).1 h
    unfold cl
    rw [Option.bind_some, e, if_pos rfl]
def scr (z j : Nat) : Prop := j = oT z + 3 ∨ j = oT z + 5
theorem lineCount_eq {S : St} {H : Hs} (h : Led S H) : f_X1_lineCount S = some (nI (HL H)) := by
  unfold f_X1_lineCount cl
  rw [size_eq, isF_size h.2.2.2.2.1]
  rfl
theorem sortByStamps_ok {S : St} {z : Nat} {H : Hs} {l : List Nat} (hz : z < 4) (hW : WF H) (hL : Led S H) (hT : TextOK S z H l) :
    OK (f_X5_sortByStamps S z) (fun S1 => (∃ L, isV S1 (oT z + 5) (L.map nI) ∧ L.Nodup ∧ (∀ x, x ∈ L ↔ kL H l x) ∧ Srt H L) ∧ offP (fun j => j = oT z + 5) S S1) := by
  have hzT : oT z = oS z + 5 := rfl
  have hzS : oS z = 21 + 27 * z := rfl
  have h90 : HL H ≤ 90 := by have := hW.1; omega
  unfold f_X5_sortByStamps
  rw [clear_eq]
  refine OK_cl (OK_some rfl) ?_
  rintro S0 rfl
  refine Lp2_ok (fun y S2 => ∃ t L, y = nI t ∧ t ≤ HL H ∧ isV S2 (oT z + 5) (L.map nI) ∧ L.Nodup ∧ (∀ x, x ∈ L ↔ x < t ∧ kL H l x) ∧ Srt H L ∧ offP (fun j => j = oT z + 5) S S2) (fun y _ => 90 - y.toNatClampNeg) ?_ FU _ _ ⟨0, [], rfl, Nat.zero_le _, isV_clear, List.nodup_nil, fun x => ⟨fun h => by simp at h, fun h => by omega⟩, List.Pairwise.nil, off_si.P rfl⟩ (by rw [FU_1000]; omega)
  rintro next y S2 ⟨t, L, rfl, k1, k2, k3, k4, k5, k6⟩ hn
  have hL2 : Led S2 H := Led_offP k6 (fun k hk q => by omega) hL
  have hT2 : TextOK S2 z H l := TextOK_offP k6 (fun j hj q => by rcases hj with r | r | r | r <;> omega) hT
  rw [lineCount_eq hL2]
  refine OK_cl (OK_some rfl) ?_
  rintro v14 rfl
  refine OK_ite (fun c => ?_) (fun c => ?_)
  · have ht : t = HL H := by
      have := (nI_leI (by omega) (by omega)).mp c
      omega
    refine OK_some ⟨⟨L, k2, k3, fun x => ?_, k5⟩, k6⟩
    rw [k4 x]
    exact ⟨fun h => h.2, fun h => ⟨by rw [ht]; exact h.1, h⟩⟩
  · have ht : t < HL H := by
      rcases Nat.lt_or_ge t (HL H) with q | q
      · exact q
      · exact absurd (nI_le q (by omega)) c
    by_cases hk : kL H l t
    · rw [(knowsLine_eq hT2 (by omega)).1 hk]
      refine OK_cl (OK_some rfl) ?_
      rintro v22 rfl
      refine OK_jn (OK_neg (by decide) ?_)
      rw [stampOfLine_eq hW hL2 ht]
      refine OK_cl (OK_some rfl) ?_
      rintro v38 rfl
      have htL : t ∉ L := fun q => by have := ((k4 t).mp q).1; omega
      have hLl : L.length < 90 := by
        have h1 : (t :: L).Nodup := List.nodup_cons.mpr ⟨htL, k3⟩
        have := nd_len (b := List.range (HL H)) h1 (fun x hx => by
          rcases List.mem_cons.mp hx with rfl | q
          · exact List.mem_range.mpr ht
          · exact List.mem_range.mpr (((k4 x).mp q).2.1))
        simp at this
        omega
      refine OK_cl (placeByStamp_ok hW hL2 k2 (fun y hy => ((k4 y).mp hy).2.1) (by omega) (sl_lt hW ht)) ?_
      rintro v41 ⟨p, rfl, p1, p2, p3⟩
      refine OK_cl (putBetween_ok k2 (by simpa using p1) (by have := ln_ge (oT z + 5); simp; omega)) ?_
      rintro S3 ⟨b1, b2⟩
      refine OK_lt ?_
      rw [nI_1]
      rw [map_insertIdx'] at b1
      refine hn _ _ ⟨t + 1, L.insertIdx p t, rfl, ht, b1, ?_, fun x => ?_, Srt_insert k5 p1 p2 p3, k6.tr (b2.P rfl)⟩ (by rw [nI_clamp (by omega), nI_clamp (by omega)]; omega)
      · rw [insertIdx_split _ _ _ p1]
        have e : (L.take p ++ t :: L.drop p).Perm (t :: L) := by
          refine List.perm_middle.trans ?_
          rw [List.take_append_drop]
        exact e.nodup_iff.mpr (List.nodup_cons.mpr ⟨htL, k3⟩)
      · rw [List.mem_insertIdx p1, k4 x]
        constructor
        · rintro (rfl | q)
          · exact ⟨by omega, hk⟩
          · exact ⟨by omega, q.2⟩
        · rintro ⟨q1, q2⟩
          by_cases e : x = t
          · exact Or.inl e
          · exact Or.inr ⟨by omega, q2⟩
    · rw [(knowsLine_eq hT2 (by omega)).2 hk]
      refine OK_cl (OK_some rfl) ?_
      rintro v22 rfl
      refine OK_jn (OK_pos rfl (OK_lt ?_))
      rw [nI_1]
      refine hn _ _ ⟨t + 1, L, rfl, ht, k2, k3, fun x => ?_, k5, k6⟩ (by rw [nI_clamp (by omega), nI_clamp (by omega)]; omega)
      rw [k4 x]
      constructor
      · rintro ⟨q1, q2⟩
        exact ⟨by omega, q2⟩
      · rintro ⟨q1, q2⟩
        have : x ≠ t := fun e => hk (e ▸ q2)
        exact ⟨by omega, q2⟩
theorem kL_bh {H : Hs} {l : List Nat} (hW : WF H) (hc : Cau H l) {x : Nat} (hx : kL H l x) (hb : 0 < bh H x) : kL H l (bh H x - 1) := by
  obtain ⟨h1, h2⟩ := hx
  have w := hW.2.2.1 x h1
  obtain ⟨a, b, e⟩ := List.append_of_mem h2
  refine ⟨by omega, ?_⟩
  have := hc a _ b e (mb H (bh H x - 1)) (Or.inl ⟨w.2.1, by rw [w.2.2.1]; exact hb, by rw [w.2.2.1]⟩)
  rw [e]
  exact List.mem_append_left _ this
theorem putAllAnew_ok {S : St} {z : Nat} {H : Hs} {l : List Nat} (hz : z < 4) (hW : WF H) (hL : Led S H) (hT : TextOK S z H l) (hc : Cau H l) :
    OK (f_X5_putAllAnew S z) (fun S1 => isV S1 (oT z + 3) ((oo H l).map nI) ∧ offP (scr z) S S1) := by
  have hzT : oT z = oS z + 5 := rfl
  have hzS : oS z = 21 + 27 * z := rfl
  have h90 : HL H ≤ 90 := by have := hW.1; omega
  unfold f_X5_putAllAnew
  refine OK_cl (sortByStamps_ok hz hW hL hT) ?_
  rintro S1 ⟨⟨L, a1, a2, a3, a4⟩, a5⟩
  rw [clear_eq]
  refine OK_cl (OK_some rfl) ?_
  rintro S0 rfl
  have hLl : L.length ≤ 90 := by
    have := nd_len (b := List.range (HL H)) a2 (fun x hx => List.mem_range.mpr ((a3 x).mp hx).1)
    simp at this
    omega
  refine Lp2_ok (fun y S2 => ∃ t o, y = nI t ∧ t ≤ L.length ∧ isV S2 (oT z + 3) (o.map nI) ∧ o.Nodup ∧ (∀ x, x ∈ o ↔ x ∈ L.take t) ∧ Good (sl H) (par H) o ∧ isV S2 (oT z + 5) (L.map nI) ∧ offP (scr z) S S2) (fun y _ => 90 - y.toNatClampNeg) ?_ FU _ _ ⟨0, [], rfl, Nat.zero_le _, isV_clear, List.nodup_nil, fun x => by simp, Good_nil, isV.off a1 off_si (by omega), (a5.mono (fun j hj => Or.inr hj)).tr (off_si.P (Or.inl rfl))⟩ (by rw [FU_1000]; omega)
  rintro next y S2 ⟨t, o, rfl, k1, k2, k3, k4, k5, k6, k7⟩ hn
  have hL2 : Led S2 H := Led_offP k7 (fun k hk q => by rcases q with q | q <;> omega) hL
  rw [size_eq, k6.1, List.length_map]
  refine OK_cl (OK_some rfl) ?_
  rintro v18 rfl
  refine OK_ite (fun c => ?_) (fun c => ?_)
  · have ht : t = L.length := by
      have := (nI_leI (by omega) (by omega)).mp c
      omega
    have : oo H l = o := oo_eq hW ⟨k5, k3, fun x => by rw [k4, ht, List.take_length, a3]⟩
    rw [this]
    exact OK_some ⟨k2, k7⟩
  · have ht : t < L.length := by
      rcases Nat.lt_or_ge t L.length with q | q
      · exact q
      · exact absurd (nI_le q (by omega)) c
    obtain ⟨x, hx⟩ : ∃ x, x = L[t] := ⟨_, rfl⟩
    have hxL : x ∈ L := hx ▸ List.getElem_mem ht
    have hkx := (a3 x).mp hxL
    rw [at_eq (by have := ln_ge (oT z + 5); omega), isV_at k6 (i := t) (v := nI x) (by rw [List.getElem?_map, List.getElem?_eq_getElem ht, ← hx]; rfl)]
    refine OK_cl (OK_some rfl) ?_
    rintro v29 rfl
    rw [behindOf_eq hW hL2 hkx.1]
    refine OK_cl (OK_some rfl) ?_
    rintro v46 rfl
    have hxo : x ∉ o := by
      intro q
      obtain ⟨i, hi, e⟩ := List.mem_iff_getElem.mp ((k4 x).mp q)
      rw [List.getElem_take] at e
      rw [List.length_take] at hi
      have := nd_inj a2 (by omega) ht (e.trans hx)
      omega
    have hoL : ∀ w ∈ o, w ∈ L := fun w hw => List.mem_of_mem_take ((k4 w).mp hw)
    have holt : ∀ w ∈ o, w < HL H := fun w hw => ((a3 w).mp (hoL w hw)).1
    have hol : o.length < 90 := by
      have h1 : (x :: o).Nodup := List.nodup_cons.mpr ⟨hxo, k3⟩
      have := nd_len (b := List.range (HL H)) h1 (fun w hw => by
        rcases List.mem_cons.mp hw with rfl | q
        · exact List.mem_range.mpr hkx.1
        · exact List.mem_range.mpr (holt w q))
      simp at this
      omega
    rw [placeOf_eq _ k2 (by have := ln_ge (oT z + 3); simp; omega)]
    refine OK_cl (OK_some rfl) ?_
    rintro v49 rfl
    have hbo : 0 < bh H x → bh H x - 1 ∈ o := by
      intro hb
      have h1 := (a3 _).mpr (kL_bh hW hc hkx hb)
      obtain ⟨j, hj, e⟩ := List.mem_iff_getElem.mp h1
      have h2 := hW.2.2.2.2.2.2.1 x hkx.1 hb
      rw [k4]
      refine List.mem_iff_getElem.mpr ⟨j, ?_, by rw [List.getElem_take, e]⟩
      rw [List.length_take]
      rcases Nat.lt_or_ge j t with q | q
      · omega
      · exfalso
        rcases Nat.eq_or_lt_of_le q with r | r
        · subst r
          rw [← hx] at e
          rw [← e] at h2
          omega
        · have := List.pairwise_iff_getElem.mp a4 t j ht hj r
          rw [e, ← hx] at this
          omega
    obtain ⟨p, p1, p2, p3⟩ := plc_par hW hkx.1 k3 holt hbo
    rw [p1]
    refine OK_cl (putBetween_ok k2 (by simpa using p2) (by have := ln_ge (oT z + 3); simp; omega)) ?_
    rintro S3 ⟨b1, b2⟩
    refine OK_lt ?_
    rw [nI_1]
    rw [map_insertIdx'] at b1
    have hless : ∀ w ∈ o, sl H w < sl H x := by
      intro w hw
      obtain ⟨i, hi, e⟩ := List.mem_iff_getElem.mp ((k4 w).mp hw)
      rw [List.getElem_take] at e
      rw [List.length_take] at hi
      have h1 := List.pairwise_iff_getElem.mp a4 i t (by omega) ht (by omega)
      rw [e, ← hx] at h1
      rcases Nat.eq_or_lt_of_le h1 with q | q
      · exact absurd (sl_inj hW (holt w hw) hkx.1 q ▸ hw) hxo
      · exact q
    refine hn _ _ ⟨t + 1, o.insertIdx p x, rfl, ht, b1, ?_, fun w => ?_, ?_, isV.off k6 b2 (by omega), k7.tr (b2.P (Or.inl rfl))⟩ (by rw [nI_clamp (by omega), nI_clamp (by omega)]; omega)
    · rw [insertIdx_split _ _ _ p2]
      have e : (o.take p ++ x :: o.drop p).Perm (x :: o) := by
        refine List.perm_middle.trans ?_
        rw [List.take_append_drop]
      exact e.nodup_iff.mpr (List.nodup_cons.mpr ⟨hxo, k3⟩)
    · rw [List.mem_insertIdx p2, k4 w, List.take_succ, List.getElem?_eq_getElem ht, ← hx]
      simp [or_comm]
    · rw [insertIdx_split _ _ _ p2]
      refine Good_insert (by rw [List.take_append_drop]; exact k5) p3 (fun w r' hw => ?_)
      refine hless w (List.mem_of_mem_drop (i := p) ?_)
      rw [hw]
      simp
theorem findAnew_ok {S : St} {z j : Nat} {H : Hs} {l : List Nat} (hz : z < 4) (hW : WF H) (hL : Led S H) (hT : TextOK S z H l) (hc : Cau H l) (hj : j < 2 ^ 31) :
    OK (f_X5_findAnew S z (nI j)) (fun q => q.1 = opt (tl H l)[j]? ∧ offP (scr z) S q.2) := by
  have hzT : oT z = oS z + 5 := rfl
  have hzS : oS z = 21 + 27 * z := rfl
  obtain ⟨o1, o2⟩ := oo_len hW hT.2.1
  unfold f_X5_findAnew
  refine OK_cl (putAllAnew_ok hz hW hL hT hc) ?_
  rintro S1 ⟨a1, a2⟩
  have hT1 : TextOK S1 z H l := TextOK_offP a2 (fun j hj q => by rcases hj with r | r | r | r <;> rcases q with q | q <;> omega) hT
  have htl : tl H l = (oo H l).filter (thL H l) := rfl
  refine Lp2_ok (fun x y => ∃ t c, y = nI t ∧ x = nI c ∧ t ≤ (oo H l).length ∧ c ≤ t ∧ c ≤ j ∧ c = (((oo H l).take t).filter (thL H l)).length) (fun _ y => 90 - y.toNatClampNeg) ?_ FU _ _ ⟨0, 0, rfl, rfl, Nat.zero_le _, Nat.le_refl _, Nat.zero_le _, by simp⟩ (by rw [FU_1000]; omega)
  rintro next x y ⟨t, c, rfl, rfl, k1, k2, k3, k4⟩ hn
  rw [size_eq, a1.1, List.length_map]
  refine OK_cl (OK_some rfl) ?_
  rintro v13 rfl
  refine OK_ite (fun cc => ?_) (fun cc => ?_)
  · have ht : t = (oo H l).length := by
      have := (nI_leI (by omega) (by omega)).mp cc
      omega
    rw [ht, List.take_length, ← htl] at k4
    rw [List.getElem?_eq_none (by omega)]
    exact OK_some ⟨rfl, a2⟩
  · have ht : t < (oo H l).length := by
      rcases Nat.lt_or_ge t (oo H l).length with q | q
      · exact q
      · exact absurd (nI_le q (by omega)) cc
    obtain ⟨x, hx⟩ : ∃ x, x = (oo H l)[t] := ⟨_, rfl⟩
    have hxo : x ∈ oo H l := hx ▸ List.getElem_mem ht
    rw [at_eq (by have := ln_ge (oT z + 3); omega), isV_at a1 (i := t) (v := nI x) (by rw [List.getElem?_map, List.getElem?_eq_getElem ht, ← hx]; rfl)]
    refine OK_cl (OK_some rfl) ?_
    rintro v24 rfl
    rw [hasThere_eq hT1 (by have := oo_lt hT.2.1 hxo; omega)]
    refine OK_cl (OK_some rfl) ?_
    rintro v32 rfl
    have hsp : oo H l = (oo H l).take t ++ x :: (oo H l).drop (t + 1) := by
      rw [hx, List.getElem_cons_drop, List.take_append_drop]
    have htk : (oo H l).take (t + 1) = (oo H l).take t ++ [x] := by rw [List.take_succ, List.getElem?_eq_getElem ht, ← hx]; rfl
    refine OK_jn ?_
    by_cases hth : thL H l x = true
    · rw [if_pos hth]
      refine OK_neg (by decide) ?_
      refine OK_ite (fun c1 => ?_) (fun c1 => ?_)
      · refine OK_lt (OK_lt ?_)
        rw [nI_1, nI_1]
        have hcj : c ≠ j := fun e => c1 (by rw [e])
        refine hn _ _ ⟨t + 1, c + 1, rfl, rfl, ht, by omega, by omega, ?_⟩ (by rw [nI_clamp (by omega), nI_clamp (by omega)]; omega)
        rw [htk, List.filter_append, List.length_append, ← k4, List.filter_cons, if_pos hth]
        rfl
      · have hcj : c = j := by
          have : nI c = nI j := Decidable.byContradiction c1
          exact nI_inj (by omega) hj this
        refine OK_some ⟨?_, a2⟩
        have : (tl H l)[j]? = some x := by
          rw [htl, hsp, List.filter_append, List.filter_cons, if_pos hth, ← hcj, k4, List.getElem?_append_right (Nat.le_refl _), Nat.sub_self]
          rfl
        rw [this]
        rfl
    · rw [if_neg hth]
      refine OK_pos rfl (OK_lt ?_)
      rw [nI_1]
      refine hn _ _ ⟨t + 1, c, rfl, rfl, ht, by omega, by omega, ?_⟩ (by rw [nI_clamp (by omega), nI_clamp (by omega)]; omega)
      rw [htk, List.filter_append, List.length_append, ← k4, List.filter_cons, if_neg hth]
      rfl
