/-! THE PRESS -/
noncomputable def pgL (H : Hs) (l : List Nat) (p : Nat) : List (Nat × Nat) := (List.range (stP H l (p + 1) - stP H l p)).map (fun i => ((tl H l).getD (stP H l p + i) 0, rP H l (stP H l p + i)))
def PW (P : List (List (Nat × Nat))) : Prop := P.length % 2 = 0 ∧ P.length ≤ 90 ∧ ∀ pg ∈ P, pg.length ≤ 6 ∧ pg.Nodup ∧ ∀ q ∈ pg, q.1 < 90 ∧ q.2 ≤ 6
def PressK (S : St) (P : List (List (Nat × Nat))) : Prop :=
  isV S 130 (P.map (fun pg => nI pg.length)) ∧ ∀ p pg, P[p]? = some pg → ∀ i q, pg[i]? = some q → ga S 132 (6 * p + i) = nI q.1 ∧ ga S 134 (6 * p + i) = nI q.2
theorem ln_132 : ln 132 = 540 := rfl
theorem ln_134 : ln 134 = 540 := rfl
section PRESS
variable {S : St} {H : Hs} {l : List Nat}
theorem stP_six (p : Nat) : stP H l (p + 1) ≤ stP H l p + 6 := endF_six (fun k hk => (rP_in hk).1)
theorem stP_mono1 (p : Nat) : stP H l p ≤ stP H l (p + 1) := stF_mono (Nat.le_succ p)
theorem pgL_len (p : Nat) : (pgL H l p).length = stP H l (p + 1) - stP H l p := by unfold pgL; simp
theorem pgL_at {p i : Nat} (hi : i < stP H l (p + 1) - stP H l p) : ∃ hk : stP H l p + i < szP H l, (pgL H l p)[i]? = some ((tl H l)[stP H l p + i]'hk, rP H l (stP H l p + i)) := by
  have h1 : stP H l (p + 1) ≤ szP H l := stP_le (p + 1)
  have hk : stP H l p + i < szP H l := by omega
  refine ⟨hk, ?_⟩
  unfold pgL
  rw [List.getElem?_map, List.getElem?_range hi]
  have : (tl H l).getD (stP H l p + i) 0 = (tl H l)[stP H l p + i]'hk := by
    rw [List.getD_eq_getElem?_getD, List.getElem?_eq_getElem hk]; rfl
  show some ((tl H l).getD (stP H l p + i) 0, rP H l (stP H l p + i)) = _
  rw [this]
theorem pgL_mem {p : Nat} {q : Nat × Nat} : q ∈ pgL H l p ↔ ∃ k, ∃ hk : k < szP H l, stP H l p ≤ k ∧ k < stP H l (p + 1) ∧ q = ((tl H l)[k]'hk, rP H l k) := by
  constructor
  · intro h
    obtain ⟨i, hi, e⟩ := List.mem_iff_getElem.mp h
    rw [pgL_len] at hi
    obtain ⟨hk, h2⟩ := pgL_at hi
    have h3 := List.getElem?_eq_getElem (l := pgL H l p) (by rw [pgL_len]; exact hi)
    rw [h2] at h3
    injection h3 with h3
    exact ⟨_, hk, by omega, by omega, by rw [← e, ← h3]⟩
  · rintro ⟨k, hk, h1, h2, rfl⟩
    obtain ⟨hk2, h3⟩ := pgL_at (H := H) (l := l) (p := p) (i := k - stP H l p) (by omega)
    refine List.mem_of_getElem? (i := k - stP H l p) ?_
    rw [h3]
    have : stP H l p + (k - stP H l p) = k := by omega
    simp only [this]
    rfl
theorem pgL_ok (hW : WF H) (hO : OrdL H l (oo H l)) (p : Nat) : (pgL H l p).length ≤ 6 ∧ (pgL H l p).Nodup ∧ ∀ q ∈ pgL H l p, q.1 < 90 ∧ q.2 ≤ 6 := by
  refine ⟨by rw [pgL_len]; have := stP_six (H := H) (l := l) p; omega, ?_, ?_⟩
  · refine List.pairwise_iff_getElem.mpr (fun i j hi hj hij e => ?_)
    have hi' := hi
    have hj' := hj
    rw [pgL_len] at hi' hj'
    obtain ⟨k1, h1⟩ := pgL_at hi'
    obtain ⟨k2, h2⟩ := pgL_at hj'
    rw [List.getElem?_eq_getElem hi] at h1
    rw [List.getElem?_eq_getElem hj] at h2
    injection h1 with h1
    injection h2 with h2
    rw [h1, h2] at e
    injection e with e1 e2
    have := nd_inj (tl_nodup hO) k1 k2 e1
    omega
  · intro q hq
    obtain ⟨k, hk, -, -, rfl⟩ := pgL_mem.mp hq
    have h1 := tl_lt hO (List.getElem_mem (l := tl H l) hk)
    have := hW.1
    exact ⟨by dsimp only; omega, (rP_in hk).2⟩
theorem hasPage_eq {P : List (List (Nat × Nat))} {Q : Nat} (hP : PressK S P) (hQ : isF S (oL 0 + 7) Q (fun p => nI (stP H l p))) (hP9 : P.length ≤ 90) (hQ9 : Q ≤ 90) : f_X3_hasPageToPrint S = some (if P.length < Q then 1 else 0) := by
  unfold f_X3_hasPageToPrint
  rw [size_eq, hP.1.1, pageCount_eq hQ, List.length_map]
  unfold cl
  rw [Option.bind_some, Option.bind_some]
  by_cases h : P.length < Q
  · rw [if_neg (fun q => by have := (nI_leI (by omega) (by omega)).mp q; omega), if_pos h]
  · rw [if_pos (nI_le (by omega) (by omega)), if_neg h]
def prs (j : Nat) : Prop := j = 130 ∨ j = 132 ∨ j = 134
theorem printPage_ok {P : List (List (Nat × Nat))} (hW : WF H) (hO : OrdL H l (oo H l)) (hL : LayOK S 0 H l) (hP : PressK S P) (hP9 : P.length < 90) (hPW : ∀ (p : Nat) (pg : List (Nat × Nat)), P[p]? = some pg → pg.length ≤ 6) :
    OK (f_X3_printPage S) (fun q => q.1 = nI (pgL H l P.length).length ∧ PressK q.2 (P ++ [pgL H l P.length]) ∧ offP prs S q.2) := by
  obtain ⟨p, hp⟩ : ∃ p, p = P.length := ⟨_, rfl⟩
  rw [← hp] at hP9 ⊢
  have hsz := szP_le hW hO
  have h1 : stP H l (p + 1) ≤ szP H l := stP_le (p + 1)
  have h6 := stP_six (H := H) (l := l) p
  have hm := stP_mono1 (H := H) (l := l) p
  unfold f_X3_printPage
  rw [size_eq, hP.1.1, List.length_map, ← hp]
  refine OK_cl (OK_some rfl) ?_
  rintro v4 rfl
  rw [startOf_eq hW hO hL (by omega)]
  refine OK_cl (OK_some rfl) ?_
  rintro v13 rfl
  rw [nI_1, startOf_eq hW hO hL (by omega)]
  refine OK_cl (OK_some rfl) ?_
  rintro v24 rfl
  refine OK_lt ?_
  rw [nI_sub hm, ← pgL_len]
  obtain ⟨n, hn9⟩ : ∃ n, n = (pgL H l p).length := ⟨_, rfl⟩
  have hn6 : n = stP H l (p + 1) - stP H l p := by rw [hn9, pgL_len]
  rw [← hn9]
  refine Lp2_ok (fun y S2 => ∃ t, y = nI t ∧ t ≤ n ∧ offP (fun j => j = 132 ∨ j = 134) S S2 ∧ (∀ j, j < 6 * p → ga S2 132 j = ga S 132 j ∧ ga S2 134 j = ga S 134 j) ∧ ∀ i q, i < t → (pgL H l p)[i]? = some q → ga S2 132 (6 * p + i) = nI q.1 ∧ ga S2 134 (6 * p + i) = nI q.2) (fun y _ => 90 - y.toNatClampNeg) ?_ FU _ _ ⟨0, rfl, Nat.zero_le _, offP.rf, fun _ _ => ⟨rfl, rfl⟩, fun i q h => by omega⟩ (by rw [FU_1000]; omega)
  rintro next y S2 ⟨t, rfl, k1, k2, k3, k4⟩ hn
  refine OK_ite (fun c => ?_) (fun c => ?_)
  · have ht : t = n := by
      have := (nI_leI (by omega) (by omega)).mp c
      omega
    refine OK_cl (add_ok (offP_V k2 (by omega) hP.1) (by have := ln_ge 130; simp; omega)) ?_
    rintro S3 ⟨b1, b2⟩
    refine OK_some ⟨rfl, ⟨?_, ?_⟩, (k2.mono (fun j hj => Or.inr hj)).tr (b2.P (Or.inl rfl))⟩
    · rw [List.map_append]
      show isV S3 130 (_ ++ [nI (pgL H l p).length])
      rw [← hn9]
      exact b1
    · intro p2 pg hpg i q hq
      show ga S3 132 _ = _ ∧ ga S3 134 _ = _
      rw [(b2 132 (by decide)).2, (b2 134 (by decide)).2]
      rcases Nat.lt_or_ge p2 p with r | r
      · rw [List.getElem?_append_left (by omega)] at hpg
        have h7 := hP.2 p2 pg hpg i q hq
        by_cases hi : 6 * p2 + i < 6 * p
        · rw [(k3 _ hi).1, (k3 _ hi).2]
          exact h7
        · exfalso
          exact hi (by
            have := hPW p2 pg hpg
            have := (List.getElem?_eq_some_iff.mp hq).1
            omega)
      · have h8 : p2 = p := by
          have := (List.getElem?_eq_some_iff.mp hpg).1
          simp at this
          omega
        subst h8
        rw [List.getElem?_append_right (by omega), hp, Nat.sub_self] at hpg
        injection hpg with hpg
        have hi := (List.getElem?_eq_some_iff.mp hq).1
        rw [← hp] at hpg
        exact k4 i q (by rw [ht, hn9, hpg]; exact hi) (by rw [hpg]; exact hq)
  · have ht : t < n := by
      rcases Nat.lt_or_ge t n with q | q
      · exact q
      · exact absurd (nI_le q (by omega)) c
    have hL2 : LayOK S2 0 H l := LayOK_offP k2 (fun j hj q => by rcases hj with r | r | r | r <;> (have : oL 0 = 39 := rfl) <;> omega) hL
    obtain ⟨hk, hat⟩ := pgL_at (H := H) (l := l) (p := p) (i := t) (by omega)
    rw [nI_add, line_eq hW hO hL2.1 hk]
    refine OK_cl (OK_some rfl) ?_
    rintro v58 rfl
    have e6 : nI p * (6 : Int32) + nI t = nI (6 * p + t) := by
      show nI p * nI 6 + nI t = _
      rw [nI_mul, nI_add, Nat.mul_comm]
    rw [e6, put_eq (by rw [ln_132]; omega)]
    refine OK_cl (OK_some rfl) ?_
    rintro S3 rfl
    have hL3 : LayOK (sa S2 132 (6 * p + t) (nI ((tl H l)[stP H l p + t]'hk))) 0 H l := LayOK_offP (off_sa.P (P := fun j => j = 132) rfl) (fun j hj q => by rcases hj with r | r | r | r <;> (have : oL 0 = 39 := rfl) <;> omega) hL2
    rw [rows_eq hW hO hL3.1 hk]
    refine OK_cl (OK_some rfl) ?_
    rintro v83 rfl
    rw [put_eq (by rw [ln_134]; omega)]
    refine OK_cl (OK_some rfl) ?_
    rintro S4 rfl
    refine OK_lt ?_
    rw [nI_1]
    refine hn _ _ ⟨t + 1, rfl, ht, (k2.tr (off_sa.P (Or.inl rfl))).tr (off_sa.P (Or.inr rfl)), ?_, ?_⟩ (by rw [nI_clamp (by omega), nI_clamp (by omega)]; omega)
    · intro j hj
      obtain ⟨m1, m2⟩ := k3 j hj
      rw [← m1, ← m2]
      refine ⟨?_, ?_⟩
      · rw [ga_sa, if_neg (by decide), ga_sa_eq, upd_ne (by omega)]
      · rw [ga_sa_eq, upd_ne (by omega), ga_sa, if_neg (by decide)]
    · intro i q hi hq
      rw [ga_sa, if_neg (by decide), ga_sa_eq, ga_sa_eq]
      by_cases e : i = t
      · subst e
        rw [hat] at hq
        injection hq with hq
        rw [upd_eq, upd_eq, ← hq]
        exact ⟨rfl, rfl⟩
      · rw [upd_ne (by omega), upd_ne (by omega), ga_sa, if_neg (by decide)]
        exact k4 i q (by omega) hq
end PRESS
