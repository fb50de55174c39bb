/-! THE MODEL CUTS PAGES, and sees by how much one differs -/
def LayM (S : St) (H : Hs) (l : List Nat) : Prop := ArrOK S H l ∧ RowsOK S H l ∧ (∀ i, i < szP H l → ga S 29 i = nI (pgO H l i)) ∧ gi S 30 = nI (npg H l)
theorem RowsOK_offP {P : Nat → Prop} {S S1 : St} {H : Hs} {l : List Nat} (ho : offP P S S1) (hP : ¬ P 28) (h : RowsOK S H l) : RowsOK S1 H l := by
  intro i hi
  rw [(ho 28 hP).2]
  exact h i hi
section CUT
variable {S : St} {H : Hs} {z : Nat}
theorem m_endOf {l : List Nat} {i : Nat} (hM : RM S H) (hA : ArrOK S H l) (hR : RowsOK S H l) (hi : i < szP H l) : f_X7_endOf S (nI i) = some (nI (endF (szP H l) (rP H l) (bP H l) i)) := by
  have hO := hA.2.2
  have hsz := szP_le hM.1 hO
  have g26 : gi S 26 = nI (szP H l) := hA.2.1.1
  suffices h9 : OK (f_X7_endOf S (nI i)) (fun v => v = nI (endF (szP H l) (rP H l) (bP H l) i)) by
    obtain ⟨v, h1, rfl⟩ := h9
    exact h1
  unfold f_X7_endOf
  refine Lp2_ok (fun x2 x3 => ∃ j, x2 = nI (smj (rP H l) i j) ∧ x3 = nI (i + j) ∧ i + j ≤ szP H l ∧ smj (rP H l) i j ≤ 6) (fun _ x3 => 200 - x3.toNatClampNeg) ?_ FU _ _ ⟨0, rfl, rfl, by omega, Nat.zero_le _⟩ (by rw [FU_1000]; omega)
  rintro next x2 x3 ⟨j, rfl, rfl, k1, k2⟩ hn
  rw [g26]
  refine OK_jnQ (isFull (szP H l) (rP H l) i j) (fun hf => ?_) (fun J hJ => ?_)
  · have hfe : fullF (szP H l) (rP H l) i = j := fullF_eq hf
    unfold endF
    rw [hfe]
    refine OK_ite (fun c => ?_) (fun c => ?_)
    · have hlt : i + j < szP H l := by
        rcases Nat.eq_or_lt_of_le k1 with q | q
        · exact absurd (by rw [q]) c
        · exact q
      refine Lp1_ok (fun x4 => ∃ p, x4 = nI (i + p) ∧ p ≤ j ∧ lgF (szP H l) (bP H l) i p = lgF (szP H l) (bP H l) i j) (fun x4 => x4.toNatClampNeg) ?_ FU _ ⟨j, rfl, Nat.le_refl _, rfl⟩ (by rw [FU_1000, nI_clamp (by omega)]; omega)
      rintro next2 x4 ⟨p, rfl, p1, p2⟩ hn2
      refine OK_jnQ (p = 0 ∨ badC (szP H l) (bP H l) (i + p) = false) (fun h => ?_) (fun J2 hJ2 => ?_)
      · rw [← p2]
        refine OK_ite (fun c1 => ?_) (fun c1 => ?_)
        · have : p = 0 := by
            have := (nI_leI (by omega) (by omega)).mp c1
            omega
          subst this
          exact OK_some rfl
        · have hp : 0 < p := by
            rcases Nat.eq_zero_or_pos p with q | q
            · exact absurd (nI_le (by omega) (by omega)) c1
            · exact q
          obtain ⟨p', rfl⟩ : ∃ p', p = p' + 1 := ⟨p - 1, by omega⟩
          rcases h with h | h
          · omega
          unfold lgF
          rw [if_neg (by rw [h]; decide)]
          exact OK_some rfl
      · refine OK_ite (fun c1 => ?_) (fun c1 => ?_)
        · have : p = 0 := by
            have := (nI_leI (by omega) (by omega)).mp c1
            omega
          exact hJ2 (Or.inl this)
        · have hp : 0 < p := by
            rcases Nat.eq_zero_or_pos p with q | q
            · exact absurd (nI_le (by omega) (by omega)) c1
            · exact q
          rw [m_isBad hM hA (by omega) (by omega)]
          refine OK_cl (OK_some rfl) ?_
          rintro v62 rfl
          by_cases hb : badC (szP H l) (bP H l) (i + p) = true
          · rw [if_pos hb]
            refine OK_neg (by decide) (OK_lt ?_)
            obtain ⟨p', rfl⟩ : ∃ p', p = p' + 1 := ⟨p - 1, by omega⟩
            rw [nI_addm1 (by omega), show i + (p' + 1) - 1 = i + p' by omega]
            refine hn2 _ ⟨p', rfl, by omega, ?_⟩ (by rw [nI_clamp (by omega), nI_clamp (by omega)]; omega)
            rw [← p2]
            show _ = (if badC (szP H l) (bP H l) (i + (p' + 1)) = true then lgF (szP H l) (bP H l) i p' else _)
            rw [if_pos hb]
          · rw [if_neg hb]
            exact OK_pos rfl (hJ2 (Or.inr (by simpa using hb)))
    · have he : i + j = szP H l := nI_inj (by omega) (by omega) (Decidable.byContradiction c)
      obtain ⟨j', rfl⟩ : ∃ j', j = j' + 1 := ⟨j - 1, by omega⟩
      have hnb : badC (szP H l) (bP H l) (i + (j' + 1)) = false := by
        unfold badC
        rw [decide_eq_false (by omega)]
        rfl
      unfold lgF
      rw [if_neg (by rw [hnb]; decide)]
      exact OK_some rfl
  · have hfull : (i + j < szP H l → 6 < smj (rP H l) i (j + 1)) → isFull (szP H l) (rP H l) i j := fun h => ⟨Or.inr k1, k2, h⟩
    refine OK_ite (fun c => ?_) (fun c => ?_)
    · have := (nI_leI (by omega) (by omega)).mp c
      exact hJ (hfull (fun q => by omega))
    · have hlt : i + j < szP H l := by
        rcases Nat.lt_or_ge (i + j) (szP H l) with q | q
        · exact q
        · exact absurd (nI_le q (by omega)) c
      have hrp := rP_six (H := H) (l := l) (i + j) hlt
      rw [ck_eq (by omega) (by omega), nI_clamp (by omega), hR _ hlt, nI_add]
      have hs : smj (rP H l) i (j + 1) = smj (rP H l) i j + rP H l (i + j) := rfl
      refine OK_ite (fun c1 => ?_) (fun c1 => ?_)
      · have := (nI_ltI (a := 6) (by omega) (by omega)).mp c1
        exact hJ (hfull (fun _ => by rw [hs]; exact this))
      · have h6 : smj (rP H l) i j + rP H l (i + j) ≤ 6 := by
          rcases Nat.lt_or_ge 6 (smj (rP H l) i j + rP H l (i + j)) with q | q
          · exact absurd (nI_lt (a := 6) q (by omega)) c1
          · exact q
        rw [ck_eq (by omega) (by omega)]
        refine OK_lt (OK_lt ?_)
        rw [nI_1]
        exact hn _ _ ⟨j + 1, by rw [hs], by rw [Nat.add_assoc], hlt, h6⟩ (by rw [nI_clamp (by omega), nI_clamp (by omega)]; omega)
theorem m_lay (hM : RM S H) (hz : z < 4) : OK (f_X7_lay S (nI z)) (fun S1 => LayM S1 H (kn H z) ∧ RM S1 H ∧ offP (fun j => 23 ≤ j) S S1) := by
  have hW := hM.1
  have h5 : ∀ j, 23 ≤ j → mscr j := fun j hj => Or.inr hj
  unfold f_X7_lay
  refine OK_cl (m_arrange hM hz) ?_
  rintro S1 ⟨a1, a2⟩
  have a2' : offP (fun j => 23 ≤ j) S S1 := a2.mono (fun j hj => hj.1)
  refine OK_cl (m_layRows (RM_offP (a2'.mono h5) hM) hz a1) ?_
  rintro S2 ⟨b1, b2⟩
  obtain ⟨l, hl⟩ : ∃ l, l = kn H z := ⟨_, rfl⟩
  rw [← hl] at a1 b1 ⊢
  have b2' : offP (fun j => 23 ≤ j) S S2 := a2'.tr (b2.mono (fun j hj => by unfold o28 at hj; omega))
  have hA2 : ArrOK S2 H l := ArrOK_offP b2 (fun j h1 h2 q => by unfold o28 at q; omega) a1
  refine OK_lt ?_
  have hO := a1.2.2
  have hsz := szP_le hW hO
  refine Lp2_ok (fun x2 S3 => ∃ p, p ≤ szP H l ∧ x2 = nI (stP H l p) ∧ gi S3 30 = nI p ∧ (∀ q, q < p → stP H l q < szP H l) ∧ (∀ k, k < stP H l p → ga S3 29 k = nI (pgO H l k)) ∧ offP (fun j => j = 29 ∨ j = 30) S2 S3) (fun x2 _ => 200 - x2.toNatClampNeg) ?_ FU _ _ ⟨0, Nat.zero_le _, rfl, gi_si_eq, fun q h => by omega, fun k h => by exact absurd h (Nat.not_lt_zero _), off_si.P (Or.inr rfl)⟩ (by rw [FU_1000]; omega)
  rintro next x2 S3 ⟨p, k1, rfl, k2, k3, k4, k5⟩ hn
  have hsp := stP_le (H := H) (l := l) p
  have k5' : offP (fun j => 23 ≤ j) S S3 := b2'.tr (k5.mono (fun j hj => by omega))
  have hA3 : ArrOK S3 H l := ArrOK_offP k5 (fun j h1 h2 q => by omega) hA2
  have hR3 : RowsOK S3 H l := RowsOK_offP k5 (by omega) b1
  have hM3 : RM S3 H := RM_offP (k5'.mono h5) hM
  have g26 : gi S3 26 = nI (szP H l) := hA3.2.1.1
  rw [g26]
  refine OK_ite (fun c => ?_) (fun c => ?_)
  · have he : stP H l p = szP H l := by
      have := (nI_leI (by omega) (by omega)).mp c
      omega
    have hnp : npg H l = p := npg_eq (fun q => ⟨k3 q, fun hq => by
      rcases Nat.lt_or_ge q p with r | r
      · exact r
      · have : stP H l p ≤ stP H l q := stF_mono r
        omega⟩)
    exact OK_some ⟨⟨hA3, hR3, fun i hi => k4 i (by omega), by rw [hnp]; exact k2⟩, hM3, k5'⟩
  · have hlt : stP H l p < szP H l := by
      rcases Nat.lt_or_ge (stP H l p) (szP H l) with q | q
      · exact q
      · exact absurd (nI_le q (by omega)) c
    rw [m_endOf hM3 hA3 hR3 hlt]
    refine OK_cl (OK_some rfl) ?_
    rintro v27 rfl
    have he : endF (szP H l) (rP H l) (bP H l) (stP H l p) = stP H l (p + 1) := rfl
    rw [he]
    have hsp1 := stP_le (H := H) (l := l) (p + 1)
    have hm1 := stP_mono1 (H := H) (l := l) p
    have hg : stP H l p < stP H l (p + 1) := stF_lt rP_six hlt
    have hps : p < szP H l := by
      have := stF_ge (r := rP H l) (b := bP H l) rP_six p hlt
      change p ≤ stP H l p at this
      omega
    refine Lp2_ok (fun x4 S4 => ∃ k, x4 = nI k ∧ stP H l p ≤ k ∧ k ≤ stP H l (p + 1) ∧ gi S4 30 = nI p ∧ (∀ k', k' < k → ga S4 29 k' = nI (pgO H l k')) ∧ offP (fun j => j = 29 ∨ j = 30) S2 S4) (fun x4 _ => 200 - x4.toNatClampNeg) ?_ FU _ _ ⟨stP H l p, rfl, Nat.le_refl _, hm1, k2, k4, k5⟩ (by rw [FU_1000]; omega)
    rintro next2 x4 S4 ⟨k, rfl, m1, m2, m3, m4, m5⟩ hn2
    rw [m3]
    refine OK_ite (fun c1 => ?_) (fun c1 => ?_)
    · have hk : k = stP H l (p + 1) := by
        have := (nI_leI (by omega) (by omega)).mp c1
        omega
      refine OK_lt ?_
      rw [nI_1]
      refine hn _ _ ⟨p + 1, hps, rfl, gi_si_eq, fun q hq => ?_, fun k' hk' => ?_, m5.tr (off_si.P (Or.inr rfl))⟩ (by rw [nI_clamp (by omega), nI_clamp (by omega)]; omega)
      · by_cases e : q = p
        · rw [e]; exact hlt
        · exact k3 q (by omega)
      · rw [ga_si]
        exact m4 k' (by omega)
    · have hk : k < stP H l (p + 1) := by
        rcases Nat.lt_or_ge k (stP H l (p + 1)) with q | q
        · exact q
        · exact absurd (nI_le q (by omega)) c1
      rw [ck_eq (by omega) (by omega), nI_clamp (by omega)]
      refine OK_lt (OK_lt ?_)
      rw [nI_1]
      refine hn2 _ _ ⟨k + 1, rfl, by omega, hk, m3, fun k' hk' => ?_, m5.tr (off_sa.P (Or.inl rfl))⟩ (by rw [nI_clamp (by omega), nI_clamp (by omega)]; omega)
      rw [ga_sa_eq]
      by_cases e : k' = k
      · rw [e, upd_eq, pgO_eq ⟨m1, hk⟩]
      · rw [upd_ne e]
        exact m4 k' (by omega)
theorem m_unlike {p : Nat} (hM : RM S H) (hL : LayM S H (kn H 0)) (hp : p < (pr H).length) : f_X7_unlike S (nI p) = some (nI (dfN H (kn H 0) (pr H) p)) := by
  have hW := hM.1
  obtain ⟨l, hl⟩ : ∃ l, l = kn H 0 := ⟨_, rfl⟩
  obtain ⟨P, hP⟩ : ∃ P, P = pr H := ⟨_, rfl⟩
  rw [← hl] at hL ⊢
  rw [← hP] at hp ⊢
  obtain ⟨hA, hR, hG, -⟩ := hL
  have hO := hA.2.2
  have hsz := szP_le hW hO
  have hPW := hM.2.2.2.2
  have hMP := hM.2.2.2.1
  rw [← hP] at hPW hMP
  have g26 : gi S 26 = nI (szP H l) := hA.2.1.1
  obtain ⟨old, hold⟩ : ∃ old, old = P[p] := ⟨_, rfl⟩
  have hpo : P[p]? = some old := by rw [hold]; exact List.getElem?_eq_getElem hp
  have hp9 := hPW.2.1
  have ho := hPW.2.2 old (List.mem_of_getElem? hpo)
  have g20 : ga S 20 p = nI old.length := by rw [hMP.2.1 p (by omega), hpo]; rfl
  have h1 : stP H l (p + 1) ≤ szP H l := stP_le (p + 1)
  have h6 := stP_six (H := H) (l := l) p
  have hm := stP_mono1 (H := H) (l := l) p
  have hpl := pgL_len (H := H) (l := l) p
  obtain ⟨T, hT⟩ : ∃ T : Nat → Nat, T = fun k => min k (stP H l (p + 1)) - min k (stP H l p) := ⟨_, rfl⟩
  have hT6 : ∀ k, T k ≤ 6 := fun k => by rw [hT]; dsimp only; omega
  suffices h9 : OK (f_X7_unlike S (nI p)) (fun v => v = nI (dfN H l P p)) by
    obtain ⟨v, h1, rfl⟩ := h9
    exact h1
  unfold f_X7_unlike
  refine Lp3_ok (fun x2 x3 x4 => ∃ k n, x4 = nI k ∧ k ≤ szP H l ∧ x3 = nI (T k) ∧ x2 = nI n ∧ n = (((pgL H l p).take (T k)).filter (fun q => decide (q ∈ old))).length) (fun _ _ x4 => 200 - x4.toNatClampNeg) ?_ FU _ _ _ ⟨0, 0, rfl, Nat.zero_le _, by rw [hT]; simp; rfl, rfl, by rw [hT]; simp⟩ (by rw [FU_1000]; omega)
  rintro next x2 x3 x4 ⟨k, n, rfl, k1, rfl, rfl, k2⟩ hn
  have hn6 : n ≤ 6 := by
    have h2 := List.length_filter_le (fun q => decide (q ∈ old)) ((pgL H l p).take (T k))
    rw [List.length_take] at h2
    have := hT6 k
    omega
  rw [g26]
  refine OK_ite (fun c => ?_) (fun c => ?_)
  · have hk : k = szP H l := by
      have := (nI_leI (by omega) (by omega)).mp c
      omega
    have hTe : T k = (pgL H l p).length := by rw [hT, hpl]; dsimp only; omega
    have hcm : n = cmN H l old p := by rw [k2, hTe, List.take_length]; rfl
    obtain ⟨c1, c2⟩ := cmN_le (H := H) (l := l) hW hO (old := old) (p := p)
    rw [ck_eq (by omega) (by omega), nI_clamp (by omega), g20, nI_add, show (2 : Int32) * nI n = nI (2 * n) from nI_mul 2 n, nI_sub (by omega)]
    refine OK_some ?_
    unfold dfN
    rw [hpo]
    congr 1
    show _ = old.length + (pgL H l p).length - 2 * cmN H l old p
    omega
  · have hk : k < szP H l := by
      rcases Nat.lt_or_ge k (szP H l) with q | q
      · exact q
      · exact absurd (nI_le q (by omega)) c
    have hk90 : k < 90 := by omega
    have hmk : 200 - (nI (k + 1)).toNatClampNeg < 200 - (nI k).toNatClampNeg := by rw [nI_clamp (by omega), nI_clamp (by omega)]; omega
    obtain ⟨pg, hpg1, hpg2⟩ := pg_ex (r := rP H l) (b := bP H l) rP_six hk
    have hpg : pgO H l k = pg := pgO_eq ⟨hpg1, hpg2⟩
    have hpgle : pg ≤ 90 := by
      have := stF_ge (r := rP H l) (b := bP H l) rP_six pg (by omega)
      omega
    rw [ck_eq hk90 (by omega), nI_clamp (n := k) (by omega), hG k hk, hpg]
    obtain ⟨x, hx⟩ : ∃ x, (tl H l)[k]? = some x := ⟨_, List.getElem?_eq_getElem hk⟩
    have hx90 := tl_lt hO (List.mem_of_getElem? hx)
    have hHL := (mbs hM).1
    have hrp := rP_six (H := H) (l := l) k hk
    have hcx : ga S 27 k = nI x := hA.2.1.2 k x hx
    refine OK_jn ?_
    by_cases hon : pg = p
    · refine OK_neg (fun q => q (by rw [hon])) ?_
      refine OK_jn (OK_neg (by decide) (OK_lt ?_))
      rw [hon] at hpg1 hpg2
      change stP H l p ≤ k at hpg1
      change k < stP H l (p + 1) at hpg2
      have hT1 : T (k + 1) = T k + 1 := by rw [hT]; dsimp only; omega
      have hTk : T k = k - stP H l p := by rw [hT]; dsimp only; omega
      obtain ⟨hk2, hat⟩ := pgL_at (H := H) (l := l) (p := p) (i := T k) (by omega)
      have hkk : stP H l p + T k = k := by omega
      simp only [hkk] at hat
      have hxe : (tl H l)[k]'hk = x := by
        rw [List.getElem?_eq_getElem (l := tl H l) hk] at hx
        injection hx
      have hat : (pgL H l p)[T k]? = some (x, rP H l k) := by rw [hat]; exact congrArg (fun w => some (w, rP H l k)) hxe
      rw [nI_1 (T k), ← hT1]
      refine Lp2_ok (fun a b => ∃ i, b = nI i ∧ i ≤ old.length ∧ a = nI (n + (if (x, rP H l k) ∈ old.take i then 1 else 0))) (fun _ b => 200 - b.toNatClampNeg) ?_ FU _ _ ⟨0, rfl, Nat.zero_le _, by rw [if_neg (by simp)]; rfl⟩ (by rw [FU_1000]; omega)
      rintro next2 a b ⟨i, rfl, i1, rfl⟩ hn2
      rw [ck_eq (by omega) (by omega), nI_clamp (n := p) (by omega), g20]
      refine OK_jnQ (i = old.length) (fun hi => ?_) (fun J hJ => ?_)
      · refine OK_lt ?_
        rw [nI_1]
        refine hn _ _ _ ⟨k + 1, _, rfl, hk, rfl, rfl, ?_⟩ hmk
        rw [hi, List.take_length, hT1, List.take_succ, hat, List.filter_append, List.length_append, ← k2]
        by_cases q : (x, rP H l k) ∈ old
        · rw [if_pos q]; simp [q]
        · rw [if_neg q]; simp [q]
      · refine OK_ite (fun c1 => hJ ?_) (fun c1 => ?_)
        · have := (nI_leI (by omega) (by omega)).mp c1
          omega
        · have hi : i < old.length := by
            rcases Nat.lt_or_ge i old.length with q | q
            · exact q
            · exact absurd (nI_le q (by omega)) c1
          refine OK_neg (by decide) ?_
          obtain ⟨q, hq⟩ : ∃ q, q = old[i] := ⟨_, rfl⟩
          have hqi : old[i]? = some q := by rw [hq]; exact List.getElem?_eq_getElem hi
          obtain ⟨m1, m2⟩ := hMP.2.2 p old hpo i q hqi
          obtain ⟨q1, q2⟩ := ho.2.2 q (List.mem_of_getElem? hqi)
          have e6 : (6 : Int32) * nI p + nI i = nI (6 * p + i) := by
            show nI 6 * nI p + nI i = _
            rw [nI_mul, nI_add]
          have htk : old.take (i + 1) = old.take i ++ [q] := by rw [List.take_succ, hqi]; rfl
          have hnin : q ∉ old.take i := by
            intro g
            obtain ⟨j, hj, e⟩ := List.mem_iff_getElem.mp g
            rw [List.getElem_take] at e
            rw [List.length_take] at hj
            have := List.pairwise_iff_getElem.mp ho.2.1 j i (by omega) hi (by omega)
            rw [e, hq] at this
            exact this rfl
          have step : ∀ v : Nat, v = (if q = (x, rP H l k) then 1 else 0) → OK (lt (nI (n + (if (x, rP H l k) ∈ old.take i then 1 else 0)) + nI v) fun x2_129 => lt (nI i + 1) fun x6_130 => next2 x2_129 x6_130) (fun v => v = nI (dfN H l P p)) := by
            intro v hv
            refine OK_lt (OK_lt ?_)
            rw [nI_1, nI_add]
            refine hn2 _ _ ⟨i + 1, rfl, hi, ?_⟩ (by rw [nI_clamp (by omega), nI_clamp (by omega)]; omega)
            congr 1
            rw [htk, hv]
            by_cases e : q = (x, rP H l k)
            · rw [if_pos e, ← e, if_neg hnin, if_pos (by simp)]
            · have : (x, rP H l k) ∈ old.take i ++ [q] ↔ (x, rP H l k) ∈ old.take i := by
                rw [List.mem_append]
                constructor
                · rintro (g | g)
                  · exact g
                  · exact absurd (List.mem_singleton.mp g).symm e
                · exact Or.inl
              rw [if_neg e]
              by_cases g : (x, rP H l k) ∈ old.take i
              · rw [if_pos g, if_pos (this.mpr g)]
              · rw [if_neg g, if_neg (fun h => g (this.mp h))]
          rw [e6, ck_eq (by omega) (by omega), ck_eq hk90 (by omega), nI_clamp (n := 6 * p + i) (by omega), m1, hcx]
          have no : q ≠ (x, rP H l k) → OK (jn (fun (t0_128 : Int32) => lt (nI (n + (if (x, rP H l k) ∈ old.take i then 1 else 0)) + t0_128) (fun (x2_129 : Int32) => lt (nI i + 1) (fun (x6_130 : Int32) => next2 x2_129 x6_130))) (fun J128 => if (0 : Int32) = 0 then (J128 (0 : Int32)) else (J128 (1 : Int32)))) (fun v => v = nI (dfN H l P p)) := by
            intro hne
            exact OK_jn (OK_pos rfl (step 0 (by rw [if_neg hne])))
          refine OK_jnQ (q ≠ (x, rP H l k)) no (fun J114 hJ114 => ?_)
          refine OK_jn ?_
          refine OK_ite (fun c2 => hJ114 (fun e => c2 (by rw [e]))) (fun c2 => ?_)
          have e1 : q.1 = x := nI_inj (by omega) (by omega) (Decidable.byContradiction c2)
          rw [ck_eq (by omega) (by omega), ck_eq hk90 (by omega), m2, hR k hk]
          refine OK_ite (fun c3 => hJ114 (fun e => c3 (by rw [e]))) (fun c3 => ?_)
          have e2 : q.2 = rP H l k := nI_inj (by omega) (by omega) (Decidable.byContradiction c3)
          refine OK_jn (OK_neg (by decide) (step 1 ?_))
          rw [if_pos]
          rw [← e1, ← e2]
    · refine OK_pos (fun q => hon (nI_inj (by omega) (by omega) q)) ?_
      refine OK_jn (OK_pos rfl (OK_lt ?_))
      rw [show (0 : Int32) = nI 0 from rfl, nI_add, Nat.add_zero]
      have hT1 : T (k + 1) = T k := by
        rw [hT]
        dsimp only
        have : ¬ (stP H l p ≤ k ∧ k < stP H l (p + 1)) := fun q => hon (pg_uniq ⟨hpg1, hpg2⟩ q)
        omega
      refine Lp2_ok (fun a b => a = nI n ∧ b = nI 0) (fun _ b => 200 - b.toNatClampNeg) ?_ FU _ _ ⟨rfl, rfl⟩ (by rw [FU_1000]; omega)
      rintro next2 a b ⟨rfl, rfl⟩ hn2
      rw [ck_eq (by omega) (by omega)]
      refine OK_jnQ True (fun _ => ?_) (fun J hJ => ?_)
      · refine OK_lt ?_
        rw [nI_1]
        exact hn _ _ _ ⟨k + 1, n, rfl, hk, by rw [hT1], rfl, by rw [hT1]; exact k2⟩ hmk
      · refine OK_ite (fun _ => hJ trivial) (fun _ => OK_pos rfl (hJ trivial))
end CUT
