/-! THE MODEL ANSWERS AS THE HISTORY SAYS: the press, questions -/
section MASK
variable {S : St} {H : Hs}
theorem MT_offP {P : Nat → Prop} {S1 : St} (ho : offP P S S1) (hP : ∀ j, 1 ≤ j → j ≤ 14 → ¬ P j) (h : MT S H) : MT S1 H := by
  have e : ∀ j, 1 ≤ j → j ≤ 14 → gi S1 j = gi S j ∧ ga S1 j = ga S j := fun j h1 h2 => ho j (hP j h1 h2)
  obtain ⟨h2, h3, h4, h5⟩ := h
  refine ⟨?_, ?_, ?_, ?_⟩
  · rw [(e 1 (by omega) (by omega)).1, (e 7 (by omega) (by omega)).1, (e 12 (by omega) (by omega)).1]; exact h2
  · rw [(e 2 (by omega) (by omega)).2, (e 3 (by omega) (by omega)).2, (e 4 (by omega) (by omega)).2, (e 5 (by omega) (by omega)).2, (e 6 (by omega) (by omega)).2]; exact h3
  · rw [(e 8 (by omega) (by omega)).2, (e 9 (by omega) (by omega)).2, (e 10 (by omega) (by omega)).2, (e 11 (by omega) (by omega)).2]; exact h4
  · rw [(e 13 (by omega) (by omega)).2, (e 14 (by omega) (by omega)).2]; exact h5
theorem MS_offP {P : Nat → Prop} {S1 : St} {z : Nat} (ho : offP P S S1) (hP : ∀ j, 15 ≤ j → j ≤ 18 → ¬ P j) (h : MS S H z) : MS S1 H z := by
  have e : ∀ j, 15 ≤ j → j ≤ 18 → gi S1 j = gi S j ∧ ga S1 j = ga S j := fun j h1 h2 => ho j (hP j h1 h2)
  unfold MS
  rw [(e 15 (by omega) (by omega)).2, (e 16 (by omega) (by omega)).2, (e 17 (by omega) (by omega)).2, (e 18 (by omega) (by omega)).2]; exact h
theorem mPri (hM : RM S H) : OK (f_X7_print S) (fun q => mres mcP (aPri H).1 q.1 q.2 ∧ RM q.2 (aPri H).2) := by
  have hbs := mbs hM
  have hW := hM.1
  unfold f_X7_print
  refine OK_cl (m_lay hM (z := 0) (by omega)) ?_
  rintro S2 ⟨hL, hM2, hoL⟩
  obtain ⟨l, hl⟩ : ∃ l, l = kn H 0 := ⟨_, rfl⟩
  obtain ⟨P, hP⟩ : ∃ P, P = pr H := ⟨_, rfl⟩
  have ea : aPri H = pif (P.length < npg H l) (.inr (nI ((pgL H l P.length).length + (pgL H l (P.length + 1)).length)), prH H (P ++ [pgL H l P.length, pgL H l (P.length + 1)])) (.inl 3, H) := by rw [hl, hP]; rfl
  rw [← hl] at hL
  rw [ea]
  obtain ⟨hA, hR, hG, hpn⟩ := hL
  have hO := hA.2.2
  have hsz := szP_le hW hO
  obtain ⟨Q, hQ⟩ := np_ex (r := rP H l) (b := bP H l) (sz := szP H l) rP_six
  have hnQ : npg H l = Q := npg_eq hQ
  have hQ9 : Q ≤ szP H l := np_le hQ
  have hPW := hM2.2.2.2.2
  have hMP := hM2.2.2.2.1
  rw [← hP] at hPW hMP
  obtain ⟨p1, p2, p3⟩ := hPW
  obtain ⟨q1, q2, q3⟩ := hMP
  have h2s : (2 : Int32) * nI (P.length / 2) = nI P.length := by
    show nI 2 * nI (P.length / 2) = _
    rw [nI_mul]
    congr 1
    omega
  rw [q1, hpn, h2s]
  refine OK_jn ?_
  by_cases hc : P.length < npg H l
  · rw [pif_pos hc]
    refine OK_pos (nI_lt hc (by omega)) (OK_well ?_)
    obtain ⟨p0, hp0⟩ : ∃ p0, p0 = P.length := ⟨_, rfl⟩
    rw [← hp0] at hc p1 p2 q1 ⊢
    have hp88 : p0 ≤ 88 := by omega
    obtain ⟨T, hT⟩ : ∃ T : Nat → Nat → Nat, T = fun c k => min k (stP H l (c + 1)) - min k (stP H l c) := ⟨_, rfl⟩
    have hst : ∀ c, stP H l c ≤ stP H l (c + 1) ∧ stP H l (c + 1) ≤ stP H l c + 6 ∧ stP H l (c + 1) ≤ szP H l := fun c => ⟨stP_mono1 c, stP_six c, stP_le (c + 1)⟩
    have hT6 : ∀ c k, T c k ≤ 6 := fun c k => by have := hst c; rw [hT]; dsimp only; omega
    have hTe : ∀ c, T c (szP H l) = (pgL H l c).length := fun c => by have := hst c; rw [hT, pgL_len]; dsimp only; omega
    refine Lp3_ok (fun x1 x2 S3 => ∃ k, x2 = nI k ∧ k ≤ szP H l ∧ x1 = nI (T p0 k + T (p0 + 1) k) ∧ (∀ c, c = p0 ∨ c = p0 + 1 → ga S3 20 c = nI (T c k) ∧ ∀ i q, i < T c k → (pgL H l c)[i]? = some q → ga S3 21 (6 * c + i) = nI q.1 ∧ ga S3 22 (6 * c + i) = nI q.2) ∧ (∀ c, c ≠ p0 → c ≠ p0 + 1 → ga S3 20 c = ga S2 20 c) ∧ (∀ j, j < 6 * p0 → ga S3 21 j = ga S2 21 j ∧ ga S3 22 j = ga S2 22 j) ∧ offP (fun j => j = 0 ∨ j = 20 ∨ j = 21 ∨ j = 22) S2 S3 ∧ gi S3 0 = 0) (fun _ x2 _ => 200 - x2.toNatClampNeg) ?_ FU _ _ _ ⟨0, rfl, Nat.zero_le _, by rw [hT]; simp; rfl, fun c hc => ⟨?_, fun i q h => ?_⟩, fun c _ _ => rfl, fun j _ => ⟨rfl, rfl⟩, off_si.P (Or.inl rfl), gi_si_eq⟩ (by rw [FU_1000]; omega)
    · rintro next x1 x2 S3 ⟨k, rfl, k1, rfl, k2, k3, k4, k5, k6⟩ hn
      have hA3 : ArrOK S3 H l := ArrOK_offP k5 (fun j h1 h2 q => by omega) hA
      have hR3 : RowsOK S3 H l := RowsOK_offP k5 (by omega) hR
      have g26 : gi S3 26 = nI (szP H l) := hA3.2.1.1
      have g19 : gi S3 19 = nI (p0 / 2) := by rw [(k5 19 (by omega)).1]; exact q1
      have g29 : ga S3 29 = ga S2 29 := (k5 29 (by omega)).2
      rw [g26]
      refine OK_ite (fun c => ?_) (fun c => ?_)
      · have hk : k = szP H l := by
          have := (nI_leI (by omega) (by omega)).mp c
          omega
        rw [g19, nI_1]
        refine OK_lt ?_
        have e01 : T p0 k + T (p0 + 1) k = (pgL H l p0).length + (pgL H l (p0 + 1)).length := by rw [hk, hTe, hTe]
        have ho4 : offP (fun j => j = 0 ∨ j = 19 ∨ j = 20 ∨ j = 21 ∨ j = 22) S2 (si S3 19 (nI (p0 / 2 + 1))) := (k5.mono (fun j hj => by omega)).tr (off_si.P (Or.inr (Or.inl rfl)))
        refine OK_some ⟨mres_r ?_ (by rw [e01]), hW, MT_offP ho4 (fun j h1 h2 q => by omega) hM2.2.1, fun z hz => MS_offP ho4 (fun j h1 h2 q => by omega) (hM2.2.2.1 z hz), ⟨?_, fun c hc9 => ?_, fun c pg hpg i q hq => ?_⟩, ⟨?_, ?_, fun pg hpg => ?_⟩⟩
        · rw [gi_si, if_neg (by decide)]; exact k6
        · rw [gi_si_eq]
          show _ = nI ((P ++ [_, _]).length / 2)
          rw [List.length_append]
          show _ = nI ((P.length + 2) / 2)
          rw [← hp0]
          congr 1
          omega
        · rw [ga_si]
          show _ = nI (((P ++ [pgL H l p0, pgL H l (p0 + 1)])[c]?).getD []).length
          by_cases e : c = p0
          · rw [(k2 c (Or.inl e)).1, e, hk, hTe, hp0, List.getElem?_append_right (Nat.le_refl _), Nat.sub_self]
            rfl
          · by_cases e2 : c = p0 + 1
            · rw [(k2 c (Or.inr e2)).1, e2, hk, hTe, hp0, List.getElem?_append_right (by omega), Nat.add_sub_cancel_left]
              rfl
            · rw [k3 c e e2, q2 c hc9]
              rcases Nat.lt_or_ge c p0 with g | g
              · rw [List.getElem?_append_left (by omega)]
              · rw [List.getElem?_eq_none (l := P) (by omega), List.getElem?_eq_none (by rw [List.length_append]; show P.length + 2 ≤ c; omega)]
        · rw [ga_si, ga_si]
          change (P ++ [pgL H l p0, pgL H l (p0 + 1)])[c]? = some pg at hpg
          have hi := (List.getElem?_eq_some_iff.mp hq).1
          rcases Nat.lt_or_ge c p0 with g | g
          · rw [List.getElem?_append_left (by omega)] at hpg
            have := (p3 pg (List.mem_of_getElem? hpg)).1
            have hj : 6 * c + i < 6 * p0 := by omega
            rw [(k4 _ hj).1, (k4 _ hj).2]
            exact q3 c pg hpg i q hq
          · rw [List.getElem?_append_right (by omega), ← hp0] at hpg
            have hlt := (List.getElem?_eq_some_iff.mp hpg).1
            have hlt : c - p0 < 2 := hlt
            by_cases e : c = p0
            · rw [e, Nat.sub_self] at hpg
              injection hpg with hpg
              rw [e]
              exact (k2 p0 (Or.inl rfl)).2 i q (by rw [hk, hTe, hpg]; exact hi) (by rw [hpg]; exact hq)
            · have e : c = p0 + 1 := by omega
              rw [e, Nat.add_sub_cancel_left] at hpg
              injection hpg with hpg
              rw [e]
              exact (k2 (p0 + 1) (Or.inr rfl)).2 i q (by rw [hk, hTe, hpg]; exact hi) (by rw [hpg]; exact hq)
        · show (P ++ [_, _]).length % 2 = 0
          rw [List.length_append]
          show (P.length + 2) % 2 = 0
          omega
        · show (P ++ [_, _]).length ≤ 90
          rw [List.length_append]
          show P.length + 2 ≤ 90
          omega
        · rcases List.mem_append.mp hpg with q | q
          · exact p3 pg q
          · rcases List.mem_cons.mp q with rfl | q
            · exact pgL_ok hW hO _
            · have : pg = pgL H l (p0 + 1) := by simpa using q
              rw [this]
              exact pgL_ok hW hO _
      · have hk : k < szP H l := by
          rcases Nat.lt_or_ge k (szP H l) with q | q
          · exact q
          · exact absurd (nI_le q (by omega)) c
        have hk90 : k < 90 := by omega
        have hmk : 200 - (nI (k + 1)).toNatClampNeg < 200 - (nI k).toNatClampNeg := by rw [nI_clamp (by omega), nI_clamp (by omega)]; omega
        obtain ⟨pg, hpg1, hpg2⟩ := pg_ex (r := rP H l) (b := bP H l) rP_six hk
        change stP H l pg ≤ k at hpg1
        change k < stP H l (pg + 1) at hpg2
        have hpg : pgO H l k = pg := pgO_eq ⟨hpg1, hpg2⟩
        have hpgle : pg ≤ 90 := by
          have := stF_ge (r := rP H l) (b := bP H l) rP_six pg (by change stP H l pg < _; omega)
          change pg ≤ stP H l pg at this
          omega
        have hTo : ∀ c, c ≠ pg → T c (k + 1) = T c k := fun c hc => by
          have h0 := hst c
          rw [hT]
          dsimp only
          have : ¬ (stP H l c ≤ k ∧ k < stP H l (c + 1)) := fun q => hc (pg_uniq (r := rP H l) (b := bP H l) q ⟨hpg1, hpg2⟩)
          omega
        have hTp : T pg (k + 1) = T pg k + 1 ∧ T pg k = k - stP H l pg := by
          have h0 := hst pg
          rw [hT]
          dsimp only
          omega
        rw [ck_eq hk90 (by omega), nI_clamp (n := k) (by omega), g29, hG k hk, hpg]
        refine OK_lt (OK_nz (by decide) ?_)
        rw [half_eq hpgle, g19]
        refine OK_jn (OK_ite (fun c1 => ?_) (fun c1 => ?_))
        · have hne : pg / 2 ≠ p0 / 2 := fun e => c1 (by rw [e])
          refine OK_lt ?_
          rw [nI_1]
          refine hn _ _ _ ⟨k + 1, rfl, hk, by rw [hTo p0 (by omega), hTo (p0 + 1) (by omega)], fun c hc => ?_, k3, k4, k5, k6⟩ hmk
          rw [hTo c (by omega)]
          exact k2 c hc
        · have he : pg / 2 = p0 / 2 := nI_inj (by omega) (by omega) (Decidable.byContradiction c1)
          have hpc : pg = p0 ∨ pg = p0 + 1 := by omega
          obtain ⟨a1, a2⟩ := k2 pg hpc
          obtain ⟨x, hx⟩ : ∃ x, (tl H l)[k]? = some x := ⟨_, List.getElem?_eq_getElem hk⟩
          have hcx : ga S3 27 k = nI x := hA3.2.1.2 k x hx
          have hT6' := hT6 pg (k + 1)
          obtain ⟨hk2, hat⟩ := pgL_at (H := H) (l := l) (p := pg) (i := T pg k) (by omega)
          have hkk : stP H l pg + T pg k = k := by omega
          simp only [hkk] at hat
          have hxe : (tl H l)[k]'hk = x := by
            rw [List.getElem?_eq_getElem (l := tl H l) hk] at hx
            injection hx
          have hat : (pgL H l pg)[T pg k]? = some (x, rP H l k) := by rw [hat]; exact congrArg (fun w => some (w, rP H l k)) hxe
          have e6 : (6 : Int32) * nI pg + nI (T pg k) = nI (6 * pg + T pg k) := by
            show nI 6 * nI pg + nI (T pg k) = _
            rw [nI_mul, nI_add]
          rw [ck_eq (by omega) (by omega), ck_eq hk90 (by omega), nI_clamp (n := pg) (by omega), a1, e6, ck_eq (by omega) (by omega), nI_clamp (n := 6 * pg + T pg k) (by omega), hcx]
          refine OK_lt ?_
          rw [ck_eq (by omega) (by omega), ck_eq hk90 (by omega), ga_sa, if_neg (by decide), a1, e6, ck_eq (by omega) (by omega), nI_clamp (n := 6 * pg + T pg k) (by omega), ga_sa, if_neg (by decide), hR3 k hk]
          refine OK_lt ?_
          rw [ck_eq (by omega) (by omega), ck_eq (by omega) (by omega), ga_sa, if_neg (by decide), ga_sa, if_neg (by decide), a1, nI_1]
          refine OK_lt (OK_lt (OK_lt ?_))
          rw [nI_1, nI_1]
          refine hn _ _ _ ⟨k + 1, rfl, hk, ?_, fun c hc => ⟨?_, fun i q hi hq => ?_⟩, fun c h1 h2 => ?_, fun j hj => ⟨?_, ?_⟩, ((k5.tr (off_sa.P (Or.inr (Or.inr (Or.inl rfl))))).tr (off_sa.P (Or.inr (Or.inr (Or.inr rfl))))).tr (off_sa.P (Or.inr (Or.inl rfl))), k6⟩ hmk
          · congr 1
            rcases hpc with e | e
            · have h1 := hTo (p0 + 1) (by omega)
              have h2 := hTp.1
              rw [e] at h2
              omega
            · have h1 := hTo p0 (by omega)
              have h2 := hTp.1
              rw [e] at h2
              omega
          · rw [ga_sa_eq]
            refine upd_at (fun q => by rw [q, hTp.1]) (fun q => ?_)
            rw [ga_sa, if_neg (by decide), ga_sa, if_neg (by decide), hTo c q]
            exact (k2 c hc).1
          · rw [ga_sa, if_neg (by decide), ga_sa, if_neg (by decide), ga_sa_eq, ga_sa, if_neg (by decide), ga_sa_eq, ga_sa, if_neg (by decide)]
            have hi6 := hT6 c (k + 1)
            have hi5 := hT6 c k
            by_cases e : c = pg
            · rw [e] at hq hi ⊢
              rw [hTp.1] at hi
              by_cases e2 : i = T pg k
              · rw [e2, hat] at hq
                injection hq with hq
                rw [e2, upd_eq, upd_eq, ← hq]
                exact ⟨rfl, rfl⟩
              · rw [upd_ne (by omega), upd_ne (by omega)]
                exact a2 i q (by omega) hq
            · rw [hTo c e] at hi
              rw [upd_ne (by omega), upd_ne (by omega)]
              exact (k2 c hc).2 i q hi hq
          · rw [ga_sa_eq, upd_ne (by omega), ga_sa, if_neg (by decide), ga_sa, if_neg (by decide)]
            exact k3 c h1 h2
          · rw [ga_sa, if_neg (by decide), ga_sa, if_neg (by decide), ga_sa_eq, upd_ne (by omega)]
            exact (k4 j hj).1
          · rw [ga_sa, if_neg (by decide), ga_sa_eq, upd_ne (by omega), ga_sa, if_neg (by decide)]
            exact (k4 j hj).2
    · have h0 : T c 0 = 0 := by rw [hT]; simp
      rw [h0, ga_si, q2 c (by omega), List.getElem?_eq_none (by omega)]
      rfl
    · have h0 : T c 0 = 0 := by rw [hT]; simp
      rw [h0] at h
      omega
  · rw [pif_neg hc]
    exact OK_neg (fun q => hc ((nI_ltI (by omega) (by omega)).mp q)) (OK_thr hM2 rfl (by decide))
theorem mShe (hM : RM S H) : OK (f_X7_sheets S) (fun q => mres mcI (aShe H).1 q.1 q.2 ∧ RM q.2 (aShe H).2) := by
  unfold f_X7_sheets
  exact OK_lt (OK_some ⟨mres_r gi_si_eq hM.2.2.2.1.1, RM_si0 hM⟩)
theorem mDif {x1 : Int32} (hM : RM S H) : OK (f_X7_differs S x1) (fun q => mres mcI (aDif H x1).1 q.1 q.2 ∧ RM q.2 (aDif H x1).2) := by
  obtain ⟨p1, p2, p3⟩ := hM.2.2.2.2
  unfold f_X7_differs aDif
  have h2s : (2 : Int32) * gi S 19 = nI (pr H).length := by
    rw [hM.2.2.2.1.1]
    show nI 2 * nI _ = _
    rw [nI_mul]
    congr 1
    omega
  rw [h2s]
  by_cases h : x1 < 0 ∨ ¬ x1 < nI (pr H).length
  · rw [pif_pos h, in_no]
    · refine OK_cl (OK_some rfl) ?_
      rintro v11 rfl
      exact OK_jn (OK_pos rfl (OK_thr hM rfl (by decide)))
    · rcases h with h | h
      · exact Or.inl h
      · rcases neg_cases x1 with q | ⟨j, hj, rfl⟩
        · exact Or.inl q
        · refine Or.inr ((lim_lt (by omega) hj).mpr ?_)
          rcases Nat.lt_or_ge j (pr H).length with q | q
          · exact absurd (nI_lt q (by omega)) h
          · exact q
  · have ha : ¬ x1 < 0 := fun q => h (Or.inl q)
    have hb : x1 < nI (pr H).length := Decidable.byContradiction (fun q => h (Or.inr q))
    obtain ⟨j, hj, rfl⟩ := nI_of ha
    have hlt := (nI_ltI hj (by omega)).mp hb
    rw [pif_neg h, in_yes ha (fun q => by have := (lim_lt (by omega) hj).mp q; omega), cN_nI hj]
    refine OK_cl (OK_some rfl) ?_
    rintro v11 rfl
    refine OK_jn (OK_neg (by decide) (OK_well ?_))
    refine OK_cl (m_lay (RM_si0 hM) (z := 0) (by omega)) ?_
    rintro S2 ⟨l1, l2, l3⟩
    rw [m_unlike l2 l1 hlt]
    refine OK_cl (OK_some rfl) ?_
    rintro v37 rfl
    refine OK_some ⟨mres_r ?_ rfl, l2⟩
    rw [(l3 0 (by decide)).1]
    exact gi_si_eq
theorem mCos (hM : RM S H) : OK (f_X7_cost S) (fun q => mres mcI (aCos H).1 q.1 q.2 ∧ RM q.2 (aCos H).2) := by
  obtain ⟨p1, p2, p3⟩ := hM.2.2.2.2
  unfold f_X7_cost aCos
  refine OK_lt (OK_cl (m_lay (RM_si0 hM) (z := 0) (by omega)) ?_)
  rintro S2 ⟨l1, l2, l3⟩
  have g0 : gi S2 0 = 0 := by rw [(l3 0 (by decide)).1]; exact gi_si_eq
  have g19 : gi S2 19 = nI ((pr H).length / 2) := l2.2.2.2.1.1
  have hO := l1.1.2.2
  refine Lp2_ok (fun c y => ∃ t, c = nI (biN H (kn H 0) (pr H) t) ∧ y = nI t ∧ t ≤ (pr H).length / 2) (fun _ y => 200 - y.toNatClampNeg) ?_ FU _ _ ⟨0, rfl, rfl, Nat.zero_le _⟩ (by rw [FU_1000]; omega)
  rintro next c y ⟨t, rfl, rfl, k1⟩ hn
  rw [g19]
  refine OK_ite (fun c => ?_) (fun c => ?_)
  · have ht : t = (pr H).length / 2 := by
      have := (nI_leI (by omega) (by omega)).mp c
      omega
    exact OK_some ⟨mres_r g0 (by rw [ht]), l2⟩
  · have ht : t < (pr H).length / 2 := by
      rcases Nat.lt_or_ge t ((pr H).length / 2) with q | q
      · exact q
      · exact absurd (nI_le q (by omega)) c
    have e2 : (2 : Int32) * nI t = nI (2 * t) := nI_mul 2 t
    have hPW := hM.2.2.2.2
    have d1 := dfN_le (H := H) (l := kn H 0) hM.1 hO hPW (2 * t)
    have d2 := dfN_le (H := H) (l := kn H 0) hM.1 hO hPW (2 * t + 1)
    have q1 := spN_le (H := H) (l := kn H 0) hM.1 hO hPW (2 * t)
    have q2 := spN_le (H := H) (l := kn H 0) hM.1 hO hPW (2 * t + 1)
    have q3 := biN_le (H := H) (l := kn H 0) (P := pr H) t
    rw [e2, nI_1, m_unlike l2 l1 (by omega), m_unlike l2 l1 (by omega)]
    refine OK_cl (OK_some rfl) ?_
    rintro v26 rfl
    refine OK_cl (OK_some rfl) ?_
    rintro v36 rfl
    have last : ∀ u v : Int32, u = nI (spN H (kn H 0) (pr H) (2 * t)) → v = nI (spN H (kn H 0) (pr H) (2 * t + 1)) → OK (lt (u + v) (fun (x5_66 : Int32) => jn (fun (t0_83 : Int32) => lt (nI (biN H (kn H 0) (pr H) t) + t0_83) (fun (x1_84 : Int32) => lt (nI t + 1) (fun (x2_85 : Int32) => next x1_84 x2_85))) (fun J83 => if (10 : Int32) ≤ x5_66 then (J83 (10 : Int32)) else (J83 x5_66)))) (fun q => mres mcI (.inr (nI (biN H (kn H 0) (pr H) ((pr H).length / 2)))) q.1 q.2 ∧ RM q.2 H) := by
      rintro u v rfl rfl
      refine OK_lt (OK_jn ?_)
      rw [nI_add]
      have go : ∀ w : Int32, w = nI (min 10 (spN H (kn H 0) (pr H) (2 * t) + spN H (kn H 0) (pr H) (2 * t + 1))) → OK (lt (nI (biN H (kn H 0) (pr H) t) + w) (fun (x1_84 : Int32) => lt (nI t + 1) (fun (x2_85 : Int32) => next x1_84 x2_85))) (fun q => mres mcI (.inr (nI (biN H (kn H 0) (pr H) ((pr H).length / 2)))) q.1 q.2 ∧ RM q.2 H) := by
        rintro w rfl
        refine OK_lt (OK_lt ?_)
        rw [nI_add, nI_1]
        exact hn _ _ ⟨t + 1, rfl, rfl, ht⟩ (by rw [nI_clamp (by omega), nI_clamp (by omega)]; omega)
      refine OK_ite (fun c2 => go _ ?_) (fun c2 => go _ ?_)
      · have := (nI_leI (a := 10) (by omega) (by omega)).mp c2
        rw [Nat.min_eq_left this]
        rfl
      · have : ¬ 10 ≤ spN H (kn H 0) (pr H) (2 * t) + spN H (kn H 0) (pr H) (2 * t + 1) := fun q => c2 (nI_le (a := 10) q (by omega))
        rw [Nat.min_eq_right (by omega)]
    have le0 : ∀ n, n ≤ 12 → (nI n ≤ (0 : Int32) ↔ n = 0) := fun n h => by
      show nI n ≤ nI 0 ↔ _
      rw [nI_leI (by omega) (by omega)]
      omega
    have snd : ∀ u : Int32, u = nI (spN H (kn H 0) (pr H) (2 * t)) → OK (jn (fun (t0_65 : Int32) => lt (u + t0_65) (fun (x5_66 : Int32) => jn (fun (t0_83 : Int32) => lt (nI (biN H (kn H 0) (pr H) t) + t0_83) (fun (x1_84 : Int32) => lt (nI t + 1) (fun (x2_85 : Int32) => next x1_84 x2_85))) (fun J83 => if (10 : Int32) ≤ x5_66 then (J83 (10 : Int32)) else (J83 x5_66)))) (fun J65 => if nI (dfN H (kn H 0) (pr H) (2 * t + 1)) ≤ 0 then (J65 (0 : Int32)) else (J65 ((1 : Int32) + nI (dfN H (kn H 0) (pr H) (2 * t + 1)))))) (fun q => mres mcI (.inr (nI (biN H (kn H 0) (pr H) ((pr H).length / 2)))) q.1 q.2 ∧ RM q.2 H) := by
      intro u hu
      refine OK_jn (OK_ite (fun c2 => last _ _ hu ?_) (fun c2 => last _ _ hu ?_))
      · unfold spN
        rw [if_pos ((le0 _ d2).mp c2)]
        rfl
      · unfold spN
        rw [if_neg (fun q => c2 ((le0 _ d2).mpr q))]
        exact nI_add 1 _
    refine OK_jn (OK_ite (fun c2 => snd _ ?_) (fun c2 => snd _ ?_))
    · unfold spN
      rw [if_pos ((le0 _ d1).mp c2)]
      rfl
    · unfold spN
      rw [if_neg (fun q => c2 ((le0 _ d1).mpr q))]
      exact nI_add 1 _
theorem RM_ms5 {S1 : St} (ho : offP ms5 S S1) (h : RM S H) : RM S1 H := RM_offP (ho.mono (fun j hj => Or.inr hj.1)) h
theorem mLin {x1 : Int32} (hM : RM S H) : OK (f_X7_lines S x1) (fun q => mres mcI (aLin H x1).1 q.1 q.2 ∧ RM q.2 (aLin H x1).2) := by
  unfold f_X7_lines aLin
  by_cases h1 : isS x1
  · obtain ⟨z, hz, rfl⟩ := h1
    rw [pif_neg (fun q => q ⟨z, hz, rfl⟩), cN_nI (by omega), isSite_yes hz]
    refine OK_cl (OK_some rfl) ?_
    rintro v2 rfl
    refine OK_jn (OK_neg (by decide) (OK_well ?_))
    refine OK_cl (m_arrange (RM_si0 hM) hz) ?_
    rintro S2 ⟨a1, a2⟩
    refine OK_some ⟨mres_r ?_ a1.2.1.1, RM_ms5 a2 (RM_si0 hM)⟩
    rw [(a2 0 (by unfold ms5; omega)).1]
    exact gi_si_eq
  · rw [pif_pos h1, isSite_no h1]
    refine OK_cl (OK_some rfl) ?_
    rintro v2 rfl
    exact OK_jn (OK_pos rfl (OK_thr hM rfl (by decide)))
theorem mLat {x1 x2 x3 : Int32} (hM : RM S H) : OK (f_X7_lineAt S x1 x2 x3) (fun q => mres mcI (aLat H x1 x2 x3).1 q.1 q.2 ∧ RM q.2 (aLat H x1 x2 x3).2) := by
  unfold f_X7_lineAt
  by_cases h1 : isS x1 ∧ ¬ x2 < 0
  · obtain ⟨⟨z, hz, rfl⟩, h2⟩ := h1
    have e1 : aLat H (nI z) x2 x3 = pif (x3 < 0 ∨ ¬ x3 ≤ 4) (.inl 2, H) (.inr (what H (kn H z) (cN x2) x3), H) := by
      unfold aLat
      rw [pif_neg (fun q => q ⟨z, hz, rfl⟩), cN_nI (by omega), pif_neg h2]
    rw [isSite_yes hz, e1]
    refine OK_cl (OK_some rfl) ?_
    rintro v1 rfl
    refine OK_jnQ False (fun q => q.elim) (fun j15 _ => OK_jn (OK_neg (by decide) (OK_neg h2 ?_)))
    refine OK_jn (OK_pos (by decide) ?_)
    by_cases h3 : x3 < 0 ∨ ¬ x3 ≤ 4
    · rw [pif_pos h3, in_no (h3.imp id (fun q => lt_nle.mpr q))]
      refine OK_cl (OK_some rfl) ?_
      rintro v31 rfl
      exact OK_pos rfl (OK_thr hM rfl (by decide))
    · have h3a : ¬ x3 < 0 := fun q => h3 (Or.inl q)
      have h3b : x3 ≤ 4 := Decidable.byContradiction (fun q => h3 (Or.inr q))
      rw [pif_neg h3, in_yes h3a (fun q => lt_nle.mp q h3b)]
      refine OK_cl (OK_some rfl) ?_
      rintro v31 rfl
      refine OK_neg (by decide) (OK_well ?_)
      refine OK_cl (m_lay (RM_si0 hM) hz) ?_
      rintro S2 ⟨⟨hA, hR, hG, hpn⟩, l2, l3⟩
      have g0 : gi S2 0 = 0 := by rw [(l3 0 (by decide)).1]; exact gi_si_eq
      have hO := hA.2.2
      have hsz := szP_le hM.1 hO
      obtain ⟨k, hk, rfl⟩ := nI_of h2
      have g26 : gi S2 26 = nI (szP H (kn H z)) := hA.2.1.1
      rw [g26, cN_nI hk]
      refine OK_ite (fun c => ?_) (fun c => ?_)
      · have hks := (nI_ltI hk (by omega)).mp c
        have hk90 : k < 90 := by omega
        obtain ⟨x, hx⟩ : ∃ x, (tl H (kn H z))[k]? = some x := ⟨_, List.getElem?_eq_getElem hks⟩
        have hxl : x < HL H := tl_lt hO (List.mem_of_getElem? hx)
        have hHL := (mbs hM).1
        have hw : what H (kn H z) k x3 = if x3 = 0 then nI x else if x3 = 1 then nI (va H x) else if x3 = 2 then nI (rP H (kn H z) k) else if x3 = 3 then (if bP H (kn H z) k = true then 1 else 0) else nI (pgO H (kn H z) k) := by
          unfold what
          rw [hx]
        have hcx : ga S2 27 k = nI x := hA.2.1.2 k x hx
        rw [hw, ck_eq hk90 (by omega), nI_clamp (n := k) (by omega), ck_eq hk90 (by omega), ck_eq hk90 (by omega), ck_eq hk90 (by omega), hcx, hR k hks, hG k hks]
        refine OK_ite (fun e => ?_) (fun e => ?_)
        · rw [if_neg e]
          refine OK_ite (fun e => ?_) (fun e => ?_)
          · rw [if_neg e]
            refine OK_ite (fun e => ?_) (fun e => ?_)
            · rw [if_neg e]
              refine OK_ite (fun e => ?_) (fun e => ?_)
              · rw [if_neg e]
                exact OK_some ⟨mres_r g0 rfl, l2⟩
              · rw [if_pos (Decidable.byContradiction e), m_isBegun l2 hA hks]
                refine OK_cl (OK_some rfl) ?_
                rintro v118 rfl
                by_cases b : bP H (kn H z) k = true
                · rw [if_pos b]
                  exact OK_neg (by decide) (OK_some ⟨mres_r g0 rfl, l2⟩)
                · rw [if_neg b]
                  exact OK_pos rfl (OK_some ⟨mres_r g0 rfl, l2⟩)
            · rw [if_pos (Decidable.byContradiction e)]
              exact OK_some ⟨mres_r g0 rfl, l2⟩
          · rw [if_pos (Decidable.byContradiction e), ck_eq (by omega) (by omega), nI_clamp (n := x) (by omega), (mL l2 hxl).2.2.1]
            exact OK_some ⟨mres_r g0 rfl, l2⟩
        · rw [if_pos (Decidable.byContradiction e)]
          exact OK_some ⟨mres_r g0 rfl, l2⟩
      · have hks : szP H (kn H z) ≤ k := by
          rcases Nat.lt_or_ge k (szP H (kn H z)) with q | q
          · exact absurd (nI_lt q (by omega)) c
          · exact q
        have hw : what H (kn H z) k x3 = -1 := by
          unfold what
          rw [List.getElem?_eq_none (l := tl H (kn H z)) hks]
        rw [hw]
        exact OK_some ⟨mres_r g0 rfl, l2⟩
  · have e1 : aLat H x1 x2 x3 = (.inl 1, H) := by
      unfold aLat
      by_cases h2 : isS x1
      · rw [pif_neg (fun q => q h2), pif_pos (Decidable.byContradiction (fun q => h1 ⟨h2, q⟩))]
      · rw [pif_pos h2]
    rw [e1]
    by_cases h2 : isS x1
    · obtain ⟨a, ha, rfl⟩ := h2
      have h3 : x2 < 0 := Decidable.byContradiction (fun q => h1 ⟨⟨a, ha, rfl⟩, q⟩)
      rw [isSite_yes ha]
      refine OK_cl (OK_some rfl) ?_
      rintro v2 rfl
      exact OK_jnQ True (fun _ => OK_jn (OK_neg (by decide) (OK_thr hM rfl (by decide)))) (fun j19 hj19 => OK_jn (OK_neg (by decide) (OK_pos h3 (hj19 trivial))))
    · rw [isSite_no h2]
      refine OK_cl (OK_some rfl) ?_
      rintro v2 rfl
      exact OK_jnQ True (fun _ => OK_jn (OK_neg (by decide) (OK_thr hM rfl (by decide)))) (fun j19 hj19 => OK_jn (OK_pos rfl (hj19 trivial)))
theorem mAne {x1 x2 : Int32} (hM : RM S H) : OK (f_X7_lineAnew S x1 x2) (fun q => mres mcI (aAne H x1 x2).1 q.1 q.2 ∧ RM q.2 (aAne H x1 x2).2) := by
  unfold f_X7_lineAnew aAne
  by_cases h1 : isS x1
  · obtain ⟨z, hz, rfl⟩ := h1
    rw [pif_neg (fun q => q ⟨z, hz, rfl⟩), cN_nI (by omega), isSite_yes hz]
    refine OK_cl (OK_some rfl) ?_
    rintro v2 rfl
    by_cases h2 : x2 < 0
    · rw [pif_pos h2]
      exact OK_jnQ True (fun _ => OK_thr hM rfl (by decide)) (fun j19 hj19 => OK_jn (OK_neg (by decide) (OK_pos h2 (hj19 trivial))))
    · rw [pif_neg h2]
      refine OK_jnQ False (fun q => q.elim) (fun j15 _ => OK_jn (OK_neg (by decide) (OK_neg h2 (OK_well ?_))))
      refine OK_cl (m_arrange (RM_si0 hM) hz) ?_
      rintro S2 ⟨a1, a2⟩
      have g0 : gi S2 0 = 0 := by rw [(a2 0 (by unfold ms5; omega)).1]; exact gi_si_eq
      have hr := RM_ms5 a2 (RM_si0 hM)
      obtain ⟨j, hj, rfl⟩ := nI_of h2
      have hlen := tl_len hM.1 a1.2.2
      rw [a1.2.1.1, cN_nI hj]
      refine OK_ite (fun c => ?_) (fun c => ?_)
      · have := (nI_leI (by omega) hj).mp c
        rw [List.getElem?_eq_none this]
        exact OK_some ⟨mres_r g0 rfl, hr⟩
      · have hlt : j < (tl H (kn H z)).length := by
          rcases Nat.lt_or_ge j (tl H (kn H z)).length with q | q
          · exact q
          · exact absurd (nI_le q hj) c
        rw [ck_eq (by omega) (by omega), nI_clamp (by omega), a1.2.1.2 j _ (List.getElem?_eq_getElem hlt), List.getElem?_eq_getElem hlt]
        exact OK_some ⟨mres_r g0 rfl, hr⟩
  · rw [pif_pos h1, isSite_no h1]
    refine OK_cl (OK_some rfl) ?_
    rintro v2 rfl
    exact OK_jnQ True (fun _ => OK_thr hM rfl (by decide)) (fun j19 hj19 => OK_jn (OK_pos rfl (hj19 trivial)))
theorem mNat {x1 x2 : Int32} (hM : RM S H) : OK (f_X7_noteAt S x1 x2) (fun q => mres mcI (aNat H x1 x2).1 q.1 q.2 ∧ RM q.2 (aNat H x1 x2).2) := by
  unfold f_X7_noteAt aNat
  by_cases h1 : isS x1
  · obtain ⟨z, hz, rfl⟩ := h1
    rw [pif_neg (fun q => q ⟨z, hz, rfl⟩), cN_nI (by omega), isSite_yes hz]
    refine OK_cl (OK_some rfl) ?_
    rintro v2 rfl
    by_cases h2 : NK H (kn H z) x2
    · rw [pif_neg (fun q => q h2)]
      refine OK_jnQ False (fun q => q.elim) (fun j15 _ => OK_jn (OK_neg (by decide) ?_))
      rw [(m_knowsNote hM hz).1 h2]
      refine OK_cl (OK_some rfl) ?_
      rintro v11 rfl
      refine OK_neg (by decide) (OK_well ?_)
      refine OK_cl (m_arrange (RM_si0 hM) hz) ?_
      rintro S2 ⟨a1, a2⟩
      have g0 : gi S2 0 = 0 := by rw [(a2 0 (by unfold ms5; omega)).1]; exact gi_si_eq
      have hr := RM_ms5 a2 (RM_si0 hM)
      obtain ⟨m, rfl, hk⟩ := h2
      have hm := kN_90 hM.1 hk
      rw [m_placeOf hr hz a1 hk, cN_nI (by omega)]
      refine OK_cl (OK_some rfl) ?_
      rintro v38 rfl
      exact OK_some ⟨mres_r g0 rfl, hr⟩
    · rw [pif_pos h2]
      refine OK_jnQ True (fun _ => OK_thr hM rfl (by decide)) (fun j15 hj => OK_jn (OK_neg (by decide) ?_))
      rw [(m_knowsNote hM hz).2 h2]
      refine OK_cl (OK_some rfl) ?_
      rintro v11 rfl
      exact OK_pos rfl (hj trivial)
  · rw [pif_pos h1, isSite_no h1]
    refine OK_cl (OK_some rfl) ?_
    rintro v2 rfl
    exact OK_jnQ True (fun _ => OK_thr hM rfl (by decide)) (fun j19 hj19 => OK_jn (OK_pos rfl (hj19 trivial)))
theorem mPag {x1 : Int32} (hM : RM S H) : OK (f_X7_pages S x1) (fun q => mres mcI (aPag H x1).1 q.1 q.2 ∧ RM q.2 (aPag H x1).2) := by
  unfold f_X7_pages aPag
  by_cases h1 : isS x1
  · obtain ⟨z, hz, rfl⟩ := h1
    rw [pif_neg (fun q => q ⟨z, hz, rfl⟩), cN_nI (by omega), isSite_yes hz]
    refine OK_cl (OK_some rfl) ?_
    rintro v2 rfl
    refine OK_jn (OK_neg (by decide) (OK_well ?_))
    refine OK_cl (m_lay (RM_si0 hM) hz) ?_
    rintro S2 ⟨⟨hA, hR, hG, hpn⟩, l2, l3⟩
    refine OK_some ⟨mres_r ?_ hpn, l2⟩
    rw [(l3 0 (by decide)).1]
    exact gi_si_eq
  · rw [pif_pos h1, isSite_no h1]
    refine OK_cl (OK_some rfl) ?_
    rintro v2 rfl
    exact OK_jn (OK_pos rfl (OK_thr hM rfl (by decide)))
theorem mAhe {x1 x2 : Int32} (hM : RM S H) : OK (f_X7_aheadAnew S x1 x2) (fun q => mres mcI (aAhe H x1 x2).1 q.1 q.2 ∧ RM q.2 (aAhe H x1 x2).2) := by
  unfold f_X7_aheadAnew aAhe
  by_cases h1 : isS x1
  · obtain ⟨z, hz, rfl⟩ := h1
    rw [pif_neg (fun q => q ⟨z, hz, rfl⟩), cN_nI (by omega), isSite_yes hz]
    refine OK_cl (OK_some rfl) ?_
    rintro v2 rfl
    by_cases h2 : x2 < 0
    · rw [pif_pos h2]
      exact OK_jnQ True (fun _ => OK_thr hM rfl (by decide)) (fun j19 hj19 => OK_jn (OK_neg (by decide) (OK_pos h2 (hj19 trivial))))
    · rw [pif_neg h2]
      refine OK_jnQ False (fun q => q.elim) (fun j15 _ => OK_jn (OK_neg (by decide) (OK_neg h2 (OK_well ?_))))
      refine OK_cl (m_lay (RM_si0 hM) hz) ?_
      rintro S2 ⟨⟨hA, hR, hG, hpn⟩, l2, l3⟩
      have g0 : gi S2 0 = 0 := by rw [(l3 0 (by decide)).1]; exact gi_si_eq
      obtain ⟨j, hj, rfl⟩ := nI_of h2
      have hO := hA.2.2
      have hsz := szP_le hM.1 hO
      have hsj := stP_le (H := H) (l := kn H z) j
      rw [cN_nI hj]
      refine Lp2_ok (fun c y => ∃ k, y = nI k ∧ k ≤ szP H (kn H z) ∧ c = nI (min k (stP H (kn H z) j))) (fun _ y => 200 - y.toNatClampNeg) ?_ FU _ _ ⟨0, rfl, Nat.zero_le _, by rw [Nat.zero_min]; rfl⟩ (by rw [FU_1000]; omega)
      rintro next c y ⟨k, rfl, k1, rfl⟩ hn
      have g26 : gi S2 26 = nI (szP H (kn H z)) := hA.2.1.1
      rw [g26]
      refine OK_ite (fun c => ?_) (fun c => ?_)
      · have hk : k = szP H (kn H z) := by
          have := (nI_leI (by omega) (by omega)).mp c
          omega
        exact OK_some ⟨mres_r g0 (by rw [hk, Nat.min_eq_right hsj]), l2⟩
      · have hk : k < szP H (kn H z) := by
          rcases Nat.lt_or_ge k (szP H (kn H z)) with q | q
          · exact q
          · exact absurd (nI_le q (by omega)) c
        have hmk : 200 - (nI (k + 1)).toNatClampNeg < 200 - (nI k).toNatClampNeg := by rw [nI_clamp (by omega), nI_clamp (by omega)]; omega
        obtain ⟨pg, hpg1, hpg2⟩ := pg_ex (r := rP H (kn H z)) (b := bP H (kn H z)) rP_six hk
        change stP H (kn H z) pg ≤ k at hpg1
        change k < stP H (kn H z) (pg + 1) at hpg2
        have hpg : pgO H (kn H z) k = pg := pgO_eq ⟨hpg1, hpg2⟩
        have hpgle : pg ≤ 90 := by
          have := stF_ge (r := rP H (kn H z)) (b := bP H (kn H z)) rP_six pg (by change stP H (kn H z) pg < _; omega)
          change pg ≤ stP H (kn H z) pg at this
          omega
        rw [ck_eq (by omega) (by omega), nI_clamp (n := k) (by omega), hG k hk, hpg]
        refine OK_jn (OK_ite (fun c1 => ?_) (fun c1 => ?_))
        · have hjp := (nI_leI hj (by omega)).mp c1
          have h3 : stP H (kn H z) j ≤ stP H (kn H z) pg := stF_mono hjp
          refine OK_lt (OK_lt ?_)
          rw [show (0 : Int32) = nI 0 from rfl, nI_add, nI_1]
          exact hn _ _ ⟨k + 1, rfl, hk, by congr 1; omega⟩ hmk
        · have hjp : pg < j := by
            rcases Nat.lt_or_ge pg j with q | q
            · exact q
            · exact absurd (nI_le q (by omega)) c1
          have h3 : stP H (kn H z) (pg + 1) ≤ stP H (kn H z) j := stF_mono hjp
          refine OK_lt (OK_lt ?_)
          rw [nI_1, nI_1]
          exact hn _ _ ⟨k + 1, rfl, hk, by congr 1; omega⟩ hmk
  · rw [pif_pos h1, isSite_no h1]
    refine OK_cl (OK_some rfl) ?_
    rintro v2 rfl
    exact OK_jnQ True (fun _ => OK_thr hM rfl (by decide)) (fun j19 hj19 => OK_jn (OK_pos rfl (hj19 trivial)))
theorem mKno {x1 : Int32} (hM : RM S H) : OK (f_X7_known S x1) (fun q => mres mcI (aKno H x1).1 q.1 q.2 ∧ RM q.2 (aKno H x1).2) := by
  unfold f_X7_known aKno
  by_cases h1 : isS x1
  · obtain ⟨z, hz, rfl⟩ := h1
    rw [pif_neg (fun q => q ⟨z, hz, rfl⟩), cN_nI (by omega), isSite_yes hz]
    refine OK_cl (OK_some rfl) ?_
    rintro v2 rfl
    refine OK_jn (OK_neg (by decide) (OK_c2 goes0 (OK_neg (by decide) ?_)))
    rw [ck_eq hz (by omega), nI_clamp (by omega), ga_si, (hM.2.2.1 z hz).2.1]
    exact OK_some ⟨mres_r gi_si_eq rfl, RM_si0 hM⟩
  · rw [pif_pos h1, isSite_no h1]
    refine OK_cl (OK_some rfl) ?_
    rintro v2 rfl
    exact OK_jn (OK_pos rfl (OK_thr2 (A := fun S1 => ck x1 4 (some (ga S1 16 x1.toNatClampNeg, S1))) hM rfl (by decide)))
end MASK
