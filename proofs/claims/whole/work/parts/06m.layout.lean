section LAYOUT
variable {S : St} {z : Nat} {H : Hs} {l : List Nat}
theorem rP_six {H : Hs} {l : List Nat} : ∀ k, k < szP H l → rP H l k ≤ 6 := fun k hk => (rP_in hk).2
theorem stP_le (p : Nat) : stP H l p ≤ szP H l := stF_le p
theorem stP_all {P : Nat} (h : ∀ p, p < P ↔ stP H l p < szP H l) {p : Nat} (hp : ¬ p < P) : stP H l p = szP H l := by
  have h1 := stP_le (H := H) (l := l) p
  have h2 : ¬ stP H l p < szP H l := fun q => hp ((h p).mpr q)
  omega
theorem np_le {P : Nat} (h : ∀ p, p < P ↔ stP H l p < szP H l) : P ≤ szP H l := by
  rcases Nat.lt_or_ge (szP H l) P with q | q
  · have h1 := (h (szP H l)).mp q
    have h2 : stP H l (szP H l) = szP H l := stF_sz rP_six (Nat.le_refl _)
    omega
  · exact q
theorem cutPages_ok (hz : z < 4) (hW : WF H) (hO : OrdL H l (oo H l)) (h : Lay0 S z H l) : OK (f_X0_cutPages S z) (fun S1 => (∃ P, (∀ p, p < P ↔ stP H l p < szP H l) ∧ isF S1 (oL z + 7) P (fun p => nI (stP H l p))) ∧ offP (fun j => j = oL z + 7) S S1) := by
  have h1 := szP_le hW hO
  have l7 := ln_ge (oL z + 7)
  unfold f_X0_cutPages
  rw [clear_eq]
  refine OK_cl (OK_some rfl) ?_
  rintro S4 rfl
  refine Lp3_ok (fun a b S2 => ∃ p, p ≤ szP H l ∧ a = nI (stP H l p) ∧ b = nI p ∧ (∀ q, q < p → stP H l q < szP H l) ∧ isF S2 (oL z + 7) p (fun p => nI (stP H l p)) ∧ offP (fun j => j = oL z + 7) S S2) (fun _ b _ => 90 - b.toNatClampNeg) ?_ FU _ _ _ ⟨0, Nat.zero_le _, rfl, rfl, fun q hq => by omega, isV_clear, off_si.P rfl⟩ (by rw [FU_1000]; omega)
  rintro next a b S2 ⟨p, k1, rfl, rfl, k2, k3, k4⟩ hn
  have hL2 : Lay0 S2 z H l := by
    obtain ⟨a1, a2, a3⟩ := h
    refine ⟨offP_V k4 (by omega) a1, offP_V k4 (by omega) a2, ?_⟩
    rw [(k4 (oL z + 5) (by omega)).2]
    exact a3
  have fin : ¬ stP H l p < szP H l → OK (some S2) (fun S1 => (∃ P, (∀ p, p < P ↔ stP H l p < szP H l) ∧ isF S1 (oL z + 7) P (fun p => nI (stP H l p))) ∧ offP (fun j => j = oL z + 7) S S1) := by
    intro hp
    refine OK_some ⟨⟨p, fun q => ⟨k2 q, fun hq => ?_⟩, k3⟩, k4⟩
    rcases Nat.lt_or_ge q p with r | r
    · exact r
    · have : stP H l p ≤ stP H l q := stF_mono r
      omega
  rw [size_eq, lay_size hL2]
  refine OK_cl (OK_some rfl) ?_
  rintro v16 rfl
  refine OK_ite (fun q => ?_) (fun q => ?_)
  · have e : p = szP H l := by
      have := (nI_leI (by omega) (by omega)).mp q
      omega
    refine fin ?_
    have : stP H l p = szP H l := stF_sz rP_six (by omega)
    omega
  · have hp : p < szP H l := by
      rcases Nat.lt_or_ge p (szP H l) with r | r
      · exact r
      · exact absurd (nI_le r (by omega)) q
    have hsp := stP_le (H := H) (l := l) p
    refine OK_cl (OK_some rfl) ?_
    rintro v27 rfl
    refine OK_ite (fun q1 => ?_) (fun q1 => ?_)
    · refine fin ?_
      have := (nI_leI (by omega) (by omega)).mp q1
      omega
    · have hlt : stP H l p < szP H l := by
        rcases Nat.lt_or_ge (stP H l p) (szP H l) with r | r
        · exact r
        · exact absurd (nI_le r (by omega)) q1
      refine OK_cl (isF_add k3 (by omega)) ?_
      rintro S5 ⟨b1, b2⟩
      have hL5 : Lay0 S5 z H l := by
        obtain ⟨a1, a2, a3⟩ := hL2
        refine ⟨isV.off a1 b2 (by omega), isV.off a2 b2 (by omega), ?_⟩
        rw [(b2 (oL z + 5) (by omega)).2]
        exact a3
      rw [endOfPage_eq hW hO hL5 hlt]
      refine OK_cl (OK_some rfl) ?_
      rintro v43 rfl
      refine OK_lt ?_
      rw [nI_1]
      refine hn _ _ _ ⟨p + 1, hp, rfl, rfl, fun r hr => ?_, ?_, k4.tr (b2.P rfl)⟩ (by rw [nI_clamp (by omega), nI_clamp (by omega)]; omega)
      · by_cases e : r = p
        · rw [e]; exact hlt
        · exact k2 r (by omega)
      · refine isF_congr b1 (fun i hi => ?_)
        by_cases e : i < p
        · rw [if_pos e]
        · rw [if_neg e, show i = p by omega]
def layK (z j : Nat) : Prop := oL z < j ∧ j < oL z + 9
theorem layAnew_ok (hz : z < 4) (hW : WF H) (hL : Led S H) (hT : TextOK S z H l) (hl : ∀ d ∈ l, d < Hn H) (hc : Cau H l) : OK (f_X0_layAnew S z) (fun S1 => LayOK S1 z H l ∧ offP (layK z) S S1) := by
  have hzT : oT z = 26 + 27 * z := by unfold oT oS; omega
  have hzL : oL z = 39 + 27 * z := by unfold oL oS; omega
  unfold f_X0_layAnew
  refine OK_cl (gather_ok hz hW hL hT) ?_
  rintro S1 ⟨a1, a2, a3, a4⟩
  have hT1 : TextOK S1 z H l := TextOK_offP a4 (fun j hj q => by rcases hj with r | r | r | r <;> omega) hT
  have hL1 : Led S1 H := Led_offP a4 (fun k hk q => by omega) hL
  refine OK_cl (addNotes_ok hz hW hL1 hT1 hl hc a3) ?_
  rintro S2 ⟨b1, b2⟩
  have h0 : Lay0 S2 z H l := ⟨offP_V b2 (by omega) a1, offP_V b2 (by omega) a2, b1⟩
  refine OK_cl (cutPages_ok hz hW hT.2.1 h0) ?_
  rintro S3 ⟨c1, c2⟩
  refine OK_some ⟨⟨?_, c1⟩, ((a4.mono (fun j hj => ?_)).tr (b2.mono (fun j hj => ?_))).tr (c2.mono (fun j hj => ?_))⟩
  · obtain ⟨d1, d2, d3⟩ := h0
    refine ⟨offP_V c2 (by omega) d1, offP_V c2 (by omega) d2, ?_⟩
    rw [(c2 (oL z + 5) (by omega)).2]
    exact d3
  · unfold layK; omega
  · unfold layK; omega
  · unfold layK; omega
theorem pageCount_eq {P : Nat} (h2 : isF S (oL z + 7) P (fun p => nI (stP H l p))) : f_X0_pageCount S z = some (nI P) := by
  unfold f_X0_pageCount cl
  rw [size_eq, isF_size h2]
  rfl
theorem startOf_eq (hW : WF H) (hO : OrdL H l (oo H l)) (h : LayOK S z H l) {p : Nat} (hp : p < 2 ^ 31) : f_X0_startOf S z (nI p) = some (nI (stP H l p)) := by
  obtain ⟨h0, P, h1, h2⟩ := h
  have h3 := szP_le hW hO
  have h4 := np_le h1
  have l7 := ln_ge (oL z + 7)
  unfold f_X0_startOf jn cl
  dsimp only
  rw [if_neg (nI_pos hp), size_eq, size_eq, isF_size h2, lay_size h0]
  simp only [Option.bind_some]
  by_cases hpP : p < P
  · rw [if_neg (nI_ge hpP (by omega)), at_eq (by omega), isF_at h2 hpP]
    rfl
  · rw [if_pos (nI_le (by omega) hp), stP_all h1 hpP]
theorem pageOf_ok (hW : WF H) (hO : OrdL H l (oo H l)) (h : LayOK S z H l) {k : Nat} (hk : k < szP H l) : OK (f_X0_pageOf S z (nI k)) (fun r => ∃ p, r = nI p ∧ stP H l p ≤ k ∧ k < stP H l (p + 1)) := by
  obtain ⟨h0, P, h1, h2⟩ := h
  have h3 := szP_le hW hO
  have h4 := np_le h1
  have l7 := ln_ge (oL z + 7)
  unfold f_X0_pageOf
  refine Lp2_ok (fun a b => ∃ t, b = nI t ∧ t ≤ P ∧ a = nI t - 1 ∧ (0 < t → stP H l (t - 1) ≤ k)) (fun _ b => 90 - b.toNatClampNeg) ?_ FU _ _ ⟨0, rfl, Nat.zero_le _, rfl, fun q => by omega⟩ (by rw [FU_1000]; omega)
  rintro next a b ⟨t, rfl, k1, rfl, k2⟩ hn
  rw [size_eq, isF_size h2]
  refine OK_cl (OK_some rfl) ?_
  rintro v9 rfl
  have fin : k < stP H l t → OK (some (nI t - 1)) (fun r => ∃ p, r = nI p ∧ stP H l p ≤ k ∧ k < stP H l (p + 1)) := by
    intro hq
    have ht : 0 < t := by
      rcases Nat.eq_zero_or_pos t with r | r
      · rw [r] at hq
        have : stP H l 0 = 0 := rfl
        omega
      · exact r
    refine OK_some ⟨t - 1, nI_sub1 ht, k2 ht, ?_⟩
    rw [Nat.sub_add_cancel ht]
    exact hq
  refine OK_ite (fun q => ?_) (fun q => ?_)
  · refine fin ?_
    have e : t = P := by
      have := (nI_leI (by omega) (by omega)).mp q
      omega
    rw [stP_all h1 (by omega)]
    exact hk
  · have ht : t < P := by
      rcases Nat.lt_or_ge t P with r | r
      · exact r
      · exact absurd (nI_le r (by omega)) q
    have hsp := stP_le (H := H) (l := l) t
    rw [at_eq (by omega), isF_at h2 ht]
    refine OK_cl (OK_some rfl) ?_
    rintro v20 rfl
    refine OK_ite (fun q1 => ?_) (fun q1 => ?_)
    · exact fin ((nI_ltI (by omega) (by omega)).mp q1)
    · refine OK_lt ?_
      rw [nI_1]
      refine hn _ _ ⟨t + 1, rfl, ht, ?_, fun _ => ?_⟩ (by rw [nI_clamp (by omega), nI_clamp (by omega)]; omega)
      · rw [nI_sub1 (by omega)]
        rfl
      · rw [Nat.add_sub_cancel]
        rcases Nat.lt_or_ge k (stP H l t) with r | r
        · exact absurd (nI_lt r (by omega)) q1
        · exact r
theorem countAheadAnew_eq (hW : WF H) (hO : OrdL H l (oo H l)) (h : Lay0 S z H l) {j : Nat} (hj : j < 2 ^ 31) : f_X0_countAheadAnew S z (nI j) = some (nI (stP H l j)) := by
  have h3 := szP_le hW hO
  suffices h9 : OK (f_X0_countAheadAnew S z (nI j)) (fun r => r = nI (stP H l j)) by
    obtain ⟨r, h1, rfl⟩ := h9
    exact h1
  unfold f_X0_countAheadAnew
  refine Lp2_ok (fun a b => ∃ t, b = nI t ∧ t ≤ j ∧ t ≤ szP H l ∧ a = nI (stP H l t)) (fun _ b => 90 - b.toNatClampNeg) ?_ FU _ _ ⟨0, rfl, Nat.zero_le _, Nat.zero_le _, rfl⟩ (by rw [FU_1000]; omega)
  rintro next a b ⟨t, rfl, k1, k2, rfl⟩ hn
  refine OK_ite (fun q => ?_) (fun q => ?_)
  · have e : t = j := by
      have := (nI_leI (by omega) (by omega)).mp q
      omega
    rw [e]
    exact OK_some rfl
  · have htj : t < j := by
      rcases Nat.lt_or_ge t j with r | r
      · exact r
      · exact absurd (nI_le r (by omega)) q
    rw [size_eq, lay_size h]
    refine OK_cl (OK_some rfl) ?_
    rintro v14 rfl
    refine OK_ite (fun q1 => ?_) (fun q1 => ?_)
    · have e : t = szP H l := by
        have := (nI_leI (by omega) (by omega)).mp q1
        omega
      refine OK_some ?_
      rw [show stP H l t = szP H l from stF_sz rP_six (by omega), show stP H l j = szP H l from stF_sz rP_six (by omega)]
    · have ht : t < szP H l := by
        rcases Nat.lt_or_ge t (szP H l) with r | r
        · exact r
        · exact absurd (nI_le r (by omega)) q1
      have hsp := stP_le (H := H) (l := l) t
      rw [endByTrying_eq hW hO h hsp]
      refine OK_cl (OK_some rfl) ?_
      rintro v22 rfl
      refine OK_lt ?_
      rw [nI_1]
      exact hn _ _ ⟨t + 1, rfl, htj, ht, rfl⟩ (by rw [nI_clamp (by omega), nI_clamp (by omega)]; omega)
end LAYOUT
