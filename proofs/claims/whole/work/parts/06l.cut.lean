/-! PAGES OF THE CLASS -/
section CUT
variable {S : St} {z : Nat} {H : Hs} {l : List Nat}
theorem lay_size (h : Lay0 S z H l) : gi S (oL z + 1) = nI (szP H l) := by
  have := h.1.1
  simpa [szP] using this
theorem lay_line (h : Lay0 S z H l) {k : Nat} (hk : k < szP H l) : ga S (oL z + 1) k = nI ((tl H l)[k]'hk) := isV_at h.1 (by rw [List.getElem?_map, List.getElem?_eq_getElem hk]; rfl)
theorem lay_begins (h : Lay0 S z H l) {k : Nat} (hk : k < szP H l) : ga S (oL z + 3) k = if bP H l k = true then 1 else 0 := by
  have h1 : (tl H l)[k]? = some ((tl H l)[k]'hk) := List.getElem?_eq_getElem hk
  rw [isV_at h.2.1 (flg_at h1), bP_eq h1]
  by_cases h2 : k = 0 ∨ bg H ((tl H l)[k]'hk) = 1
  · rw [if_pos h2, if_pos (by simpa using h2)]
  · rw [if_neg h2, if_neg (by simpa using h2)]
theorem szP_le (hW : WF H) (hO : OrdL H l (oo H l)) : szP H l ≤ 90 := tl_len hW hO
theorem rows_eq (hW : WF H) (hO : OrdL H l (oo H l)) (h : Lay0 S z H l) {k : Nat} (hk : k < szP H l) : f_X0_rows S z (nI k) = some (nI (rP H l k)) := by
  have h1 := szP_le hW hO
  have h2 := ln_ge (oL z + 1)
  have h3 := ln_ge (oL z + 5)
  have hm : (tl H l)[k]'hk ∈ tl H l := List.getElem_mem hk
  have h4 := tl_lt hO hm
  have h5 := oo_len hW hO
  unfold f_X0_rows cl
  rw [at_eq (by omega), Option.bind_some, lay_line h hk, at_eq (by omega), Option.bind_some, h.2.2 _ hm, rP_eq (List.getElem?_eq_getElem hk)]
theorem line_eq (hW : WF H) (hO : OrdL H l (oo H l)) (h : Lay0 S z H l) {k : Nat} (hk : k < szP H l) : f_X0_line S z (nI k) = some (nI ((tl H l)[k]'hk)) := by
  have h1 := szP_le hW hO
  have h2 := ln_ge (oL z + 1)
  unfold f_X0_line cl
  rw [at_eq (by omega), Option.bind_some, lay_line h hk]
theorem layBegins_eq (hW : WF H) (hO : OrdL H l (oo H l)) (h : Lay0 S z H l) {k : Nat} (hk : k < szP H l) : f_X0_beginsParagraph S z (nI k) = some (if bP H l k = true then 1 else 0) := by
  have h1 := szP_le hW hO
  have h2 := ln_ge (oL z + 3)
  unfold f_X0_beginsParagraph cl
  rw [at_eq (by omega), Option.bind_some, lay_begins h hk]
  split <;> rfl
theorem isBadCut_eq (hW : WF H) (hO : OrdL H l (oo H l)) (h : Lay0 S z H l) {c : Nat} (hc : 0 < c) (hcl : c ≤ szP H l) : f_X0_isBadCut S z (nI c) = some (if badC (szP H l) (bP H l) c = true then 1 else 0) := by
  have h1 := szP_le hW hO
  have h3 := ln_ge (oL z + 3)
  suffices h9 : OK (f_X0_isBadCut S z (nI c)) (fun r => r = if badC (szP H l) (bP H l) c = true then 1 else 0) by
    obtain ⟨r, h1, rfl⟩ := h9
    exact h1
  obtain ⟨sz, hsz⟩ : ∃ sz, sz = szP H l := ⟨_, rfl⟩
  unfold f_X0_isBadCut
  rw [size_eq, lay_size h]
  refine OK_cl (OK_some rfl) ?_
  rintro v5 rfl
  refine OK_ite (fun q => ?_) (fun q => ?_)
  · have e : c = szP H l := by
      have := (nI_leI (by omega) (by omega)).mp q
      omega
    refine OK_some ?_
    rw [if_neg]
    unfold badC
    simp [e]
  · have hlt : c < szP H l := by
      rcases Nat.lt_or_ge c (szP H l) with r | r
      · exact r
      · exact absurd (nI_le r (by omega)) q
    rw [at_eq (by omega), lay_begins h hlt]
    refine OK_cl (OK_some rfl) ?_
    rintro v16 rfl
    by_cases hb : bP H l c = true
    · rw [if_pos hb]
      refine OK_neg (by decide) (OK_some ?_)
      rw [if_neg]
      unfold badC
      simp [hb]
    · rw [if_neg hb]
      refine OK_pos (by decide) ?_
      rw [nI_sub1 hc, at_eq (by omega), lay_begins h (by omega)]
      refine OK_cl (OK_some rfl) ?_
      rintro v32 rfl
      -- whatever lies ahead: the look behind
      have behind : ∀ t : Int32, t = (if bP H l (c - 1) = true then 1 else 0) → OK (cl (some (nI (szP H l))) fun v52 => jn (jn (some (1 : Int32)) fun J86 => if ¬t = 0 then J86 else if (1 : Int32) = 0 then some 0 else J86) fun J72 => jn (fun t0_77 => jn (some (1 : Int32)) fun J86 => if ¬t = 0 then J86 else if t0_77 = 0 then some 0 else J86) fun J77 => if nI c + 1 = v52 then J72 else cl (f_X2_at S (oL z + 3) (nI c + 1)) fun v65 => if ¬v65 = 1 then J77 0 else J72) (fun r => r = if badC (szP H l) (bP H l) c = true then 1 else 0) := by
        intro t ht
        refine OK_cl (OK_some rfl) ?_
        rintro v52 rfl
        refine OK_jn (OK_jn ?_)
        rw [nI_1]
        have hbad : badC (szP H l) (bP H l) c = (bP H l (c - 1) || (decide (c + 1 = szP H l) || bP H l (c + 1))) := by
          unfold badC
          simp [hlt, hb]
        have j72 : badC (szP H l) (bP H l) c = true → OK (jn (some (1 : Int32)) fun J86 => if ¬t = 0 then J86 else if (1 : Int32) = 0 then some 0 else J86) (fun r => r = if badC (szP H l) (bP H l) c = true then 1 else 0) := by
          intro hbd
          refine OK_jn (OK_ite (fun _ => OK_some (by rw [if_pos hbd])) (fun _ => OK_neg (by decide) (OK_some (by rw [if_pos hbd]))))
        refine OK_ite (fun q1 => ?_) (fun q1 => ?_)
        · refine j72 ?_
          have : c + 1 = szP H l := (nI_eq (by omega) (by omega)).mp q1
          rw [hbad]
          simp [this]
        · have hne : c + 1 ≠ szP H l := fun r => q1 (by rw [r])
          rw [at_eq (by omega), lay_begins h (by omega)]
          refine OK_cl (OK_some rfl) ?_
          rintro v65 rfl
          by_cases hb1 : bP H l (c + 1) = true
          · rw [if_pos hb1]
            refine OK_neg (by decide) (j72 ?_)
            rw [hbad]
            simp [hb1]
          · rw [if_neg hb1]
            refine OK_pos (by decide) (OK_jn ?_)
            rw [ht]
            by_cases hb0 : bP H l (c - 1) = true
            · rw [if_pos hb0]
              refine OK_pos (by decide) (OK_some ?_)
              rw [hbad, if_pos (by simp [hb0])]
            · rw [if_neg hb0]
              refine OK_neg (by decide) (OK_pos rfl (OK_some ?_))
              rw [hbad, if_neg (by simp [hb0, hb1, hne])]
      refine OK_jn ?_
      by_cases hb0 : bP H l (c - 1) = true
      · rw [if_pos hb0]
        refine OK_neg (by decide) (behind 1 (by rw [if_pos hb0]))
      · rw [if_neg hb0]
        refine OK_pos (by decide) (behind 0 (by rw [if_neg hb0]))
/-- the class's walk over a page -/
theorem endOfPage_eq (hW : WF H) (hO : OrdL H l (oo H l)) (h : Lay0 S z H l) {i : Nat} (hi : i < szP H l) : f_X0_endOfPage S z (nI i) = some (nI (endF (szP H l) (rP H l) (bP H l) i)) := by
  have h1 := szP_le hW hO
  suffices h9 : OK (f_X0_endOfPage S z (nI i)) (fun r => r = nI (endF (szP H l) (rP H l) (bP H l) i)) by
    obtain ⟨r, h1, rfl⟩ := h9
    exact h1
  unfold f_X0_endOfPage
  refine Lp3_ok (fun a b c => ∃ j, i + j ≤ szP H l ∧ smj (rP H l) i j ≤ 6 ∧ a = nI (6 - smj (rP H l) i j) ∧ b = nI (i + j) ∧ c = opt (lgF (szP H l) (bP H l) i j)) (fun _ b _ => 90 - b.toNatClampNeg) ?_ FU _ _ _ ⟨0, by omega, Nat.zero_le _, rfl, rfl, rfl⟩ (by rw [FU_1000]; omega)
  rintro next a b c ⟨j, k1, k2, rfl, rfl, rfl⟩ hn
  rw [size_eq, lay_size h]
  refine OK_cl (OK_some rfl) ?_
  rintro v13 rfl
  refine OK_jn ?_
  have stop : isFull (szP H l) (rP H l) i j → OK (if ¬opt (lgF (szP H l) (bP H l) i j) = -1 then some (opt (lgF (szP H l) (bP H l) i j)) else some (nI (i + j))) (fun r => r = nI (endF (szP H l) (rP H l) (bP H l) i)) := by
    intro hf
    have e := fullF_eq hf
    unfold endF
    rw [e]
    cases hl : lgF (szP H l) (bP H l) i j with
    | none => exact OK_neg (by simp [opt]) (OK_some rfl)
    | some w =>
      have := lgF_in hl
      exact OK_pos (nI_ne_neg1 (by omega)) (OK_some rfl)
  refine OK_ite (fun q => ?_) (fun q => ?_)
  · refine stop ⟨Or.inr k1, k2, fun r => ?_⟩
    have := (nI_leI (by omega) (by omega)).mp q
    omega
  · have hlt : i + j < szP H l := by
      rcases Nat.lt_or_ge (i + j) (szP H l) with r | r
      · exact r
      · exact absurd (nI_le r (by omega)) q
    have hr := rP_in hlt
    rw [rows_eq hW hO h hlt]
    refine OK_cl (OK_some rfl) ?_
    rintro v21 rfl
    have hsm : smj (rP H l) i (j + 1) = smj (rP H l) i j + rP H l (i + j) := rfl
    refine OK_ite (fun q1 => ?_) (fun q1 => ?_)
    · refine stop ⟨Or.inr k1, k2, fun _ => ?_⟩
      have := (nI_ltI (by omega) (by omega)).mp q1
      omega
    · have hle : rP H l (i + j) ≤ 6 - smj (rP H l) i j := by
        rcases Nat.lt_or_ge (6 - smj (rP H l) i j) (rP H l (i + j)) with r | r
        · exact absurd (nI_lt r (by omega)) q1
        · exact r
      refine OK_cl (OK_some rfl) ?_
      rintro v31 rfl
      refine OK_lt (OK_lt ?_)
      rw [nI_sub hle, nI_1, isBadCut_eq hW hO h (by omega) (by omega)]
      refine OK_cl (OK_some rfl) ?_
      rintro v41 rfl
      have e6 : 6 - smj (rP H l) i j - rP H l (i + j) = 6 - smj (rP H l) i (j + 1) := by omega
      rw [e6]
      by_cases hb : badC (szP H l) (bP H l) (i + j + 1) = true
      · rw [if_pos hb]
        refine OK_pos (by decide) (hn _ _ _ ⟨j + 1, by omega, by omega, rfl, rfl, ?_⟩ (by rw [nI_clamp (by omega), nI_clamp (by omega)]; omega))
        show _ = opt (if badC (szP H l) (bP H l) (i + (j + 1)) = true then _ else _)
        rw [if_pos (by rw [← Nat.add_assoc]; exact hb)]
      · rw [if_neg hb]
        refine OK_neg (by decide) (hn _ _ _ ⟨j + 1, by omega, by omega, rfl, rfl, ?_⟩ (by rw [nI_clamp (by omega), nI_clamp (by omega)]; omega))
        show _ = opt (if badC (szP H l) (bP H l) (i + (j + 1)) = true then _ else _)
        rw [if_neg (by rw [← Nat.add_assoc]; exact hb)]
        rfl
theorem endWithRoom_eq (hW : WF H) (hO : OrdL H l (oo H l)) (h : Lay0 S z H l) {i : Nat} (hi : i ≤ szP H l) : f_X0_endWithRoom S z (nI i) = some (nI (i + fullF (szP H l) (rP H l) i)) := by
  have h1 := szP_le hW hO
  suffices h9 : OK (f_X0_endWithRoom S z (nI i)) (fun r => r = nI (i + fullF (szP H l) (rP H l) i)) by
    obtain ⟨r, h1, rfl⟩ := h9
    exact h1
  unfold f_X0_endWithRoom
  refine Lp2_ok (fun a b => ∃ j, i + j ≤ szP H l ∧ smj (rP H l) i j ≤ 6 ∧ a = nI (smj (rP H l) i j) ∧ b = nI (i + j)) (fun _ b => 90 - b.toNatClampNeg) ?_ FU _ _ ⟨0, by omega, Nat.zero_le _, rfl, rfl⟩ (by rw [FU_1000]; omega)
  rintro next a b ⟨j, k1, k2, rfl, rfl⟩ hn
  rw [size_eq, lay_size h]
  refine OK_cl (OK_some rfl) ?_
  rintro v13 rfl
  refine OK_ite (fun q => ?_) (fun q => ?_)
  · refine OK_cl (OK_some rfl) ?_
    rintro v41 rfl
    have e : i + j = szP H l := by
      have := (nI_leI (by omega) (by omega)).mp q
      omega
    have hf : isFull (szP H l) (rP H l) i j := ⟨Or.inr k1, k2, fun r => by omega⟩
    rw [fullF_eq hf, e]
    exact OK_some rfl
  · have hlt : i + j < szP H l := by
      rcases Nat.lt_or_ge (i + j) (szP H l) with r | r
      · exact r
      · exact absurd (nI_le r (by omega)) q
    have hr := rP_in hlt
    rw [rows_eq hW hO h hlt]
    refine OK_cl (OK_some rfl) ?_
    rintro v21 rfl
    refine OK_lt ?_
    rw [nI_add]
    have hsm : smj (rP H l) i (j + 1) = smj (rP H l) i j + rP H l (i + j) := rfl
    rw [← hsm]
    have h6 : nI (smj (rP H l) i (j + 1)) ≤ (6 : Int32) ↔ smj (rP H l) i (j + 1) ≤ 6 := nI_leI (b := 6) (by omega) (by omega)
    refine OK_ite (fun q1 => ?_) (fun q1 => ?_)
    · refine OK_lt ?_
      rw [nI_1]
      exact hn _ _ ⟨j + 1, by omega, h6.mp q1, rfl, rfl⟩ (by rw [nI_clamp (by omega), nI_clamp (by omega)]; omega)
    · have hf : isFull (szP H l) (rP H l) i j := ⟨Or.inr k1, k2, fun _ => by
        rcases Nat.lt_or_ge 6 (smj (rP H l) i (j + 1)) with r | r
        · exact r
        · exact absurd (h6.mpr r) q1⟩
      rw [fullF_eq hf]
      exact OK_some rfl
theorem endByTrying_eq (hW : WF H) (hO : OrdL H l (oo H l)) (h : Lay0 S z H l) {i : Nat} (hi : i ≤ szP H l) : f_X0_endByTrying S z (nI i) = some (nI (endF (szP H l) (rP H l) (bP H l) i)) := by
  have h1 := szP_le hW hO
  obtain ⟨f1, -, -⟩ := fullF_spec (sz := szP H l) (r := rP H l) (i := i)
  suffices h9 : OK (f_X0_endByTrying S z (nI i)) (fun r => r = nI (endF (szP H l) (rP H l) (bP H l) i)) by
    obtain ⟨r, h1, rfl⟩ := h9
    exact h1
  unfold f_X0_endByTrying
  rw [endWithRoom_eq hW hO h hi]
  refine OK_cl (OK_some rfl) ?_
  rintro v2 rfl
  refine Lp1_ok (fun a => ∃ j, j ≤ fullF (szP H l) (rP H l) i ∧ a = nI (i + j) ∧ lgF (szP H l) (bP H l) i (fullF (szP H l) (rP H l) i) = lgF (szP H l) (bP H l) i j) (fun a => a.toNatClampNeg) ?_ FU _ ⟨_, Nat.le_refl _, rfl, rfl⟩ (by rw [FU_1000, nI_clamp (by omega)]; omega)
  rintro next a ⟨j, k1, rfl, k2⟩ hn
  refine OK_ite (fun q => ?_) (fun q => ?_)
  · have hj : j = 0 := by
      have := (nI_leI (by omega) (by omega)).mp q
      omega
    subst hj
    refine OK_some ?_
    unfold endF
    rw [k2]
    rfl
  · have hj : 0 < j := by
      rcases Nat.eq_zero_or_pos j with r | r
      · exact absurd (nI_le (by omega) (by omega)) q
      · exact r
    rw [isBadCut_eq hW hO h (by omega) (by omega)]
    refine OK_cl (OK_some rfl) ?_
    rintro v15 rfl
    obtain ⟨j', rfl⟩ : ∃ j', j = j' + 1 := ⟨j - 1, by omega⟩
    by_cases hb : badC (szP H l) (bP H l) (i + (j' + 1)) = true
    · rw [if_pos hb]
      refine OK_pos (by decide) (OK_lt ?_)
      rw [nI_addm1 (by omega)]
      refine hn _ ⟨j', by omega, rfl, ?_⟩ (by rw [nI_clamp (by omega), nI_clamp (by omega)]; omega)
      rw [k2]
      show (if badC (szP H l) (bP H l) (i + (j' + 1)) = true then _ else _) = _
      rw [if_pos hb]
    · rw [if_neg hb]
      refine OK_neg (by decide) (OK_some ?_)
      unfold endF
      rw [k2]
      show _ = nI ((if badC (szP H l) (bP H l) (i + (j' + 1)) = true then _ else _ : Option Nat).getD _)
      rw [if_neg hb]
      rfl
end CUT
