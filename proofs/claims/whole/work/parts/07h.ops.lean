/-! THE MODEL ANSWERS AS THE HISTORY SAYS: deeds -/
theorem OK_thr {S : St} {H : Hs} {f : Nat → Nat} {c : Nat} {t : Int32} {A : St → Option (Int32 × St)} (hM : RM S H) (ht : t = nI (f c)) (h0 : ¬ t = 0) : OK (cl2 (f_X7_goesWell S t) (fun v S1 => if ¬ v = 0 then A S1 else some ((0 : Int32), S1))) (fun q => mres f (.inl c) q.1 q.2 ∧ RM q.2 H) := by
  refine OK_c2 (goesN h0) (OK_neg (by decide) (OK_some ⟨⟨fun e he => ?_, fun r hr => by cases hr⟩, RM_si0 hM⟩))
  injection he with he
  rw [← he, gi_si_eq, ht]
theorem OK_thr2 {S : St} {H : Hs} {f : Nat → Nat} {c : Nat} {t : Int32} {A : St → Option (Int32 × St)} (hM : RM S H) (ht : t = nI (f c)) (h0 : ¬ t = 0) : OK (cl2 (f_X7_goesWell S t) (fun v S1 => if v = 0 then some ((0 : Int32), S1) else A S1)) (fun q => mres f (.inl c) q.1 q.2 ∧ RM q.2 H) := by
  refine OK_c2 (goesN h0) (OK_pos rfl (OK_some ⟨⟨fun e he => ?_, fun r hr => by cases hr⟩, RM_si0 hM⟩))
  injection he with he
  rw [← he, gi_si_eq, ht]
theorem OK_well {S : St} {A B : St → Option (Int32 × St)} {P : Int32 × St → Prop} (h : OK (A (si S 0 0)) P) : OK (cl2 (f_X7_goesWell S 0) (fun v S1 => if ¬ v = 0 then A S1 else B S1)) P := OK_c2 goes0 (OK_pos (by decide) h)
theorem in_any {S : St} {x a b : Int32} : ∃ v, f_X7_in S x a b = some v := by
  by_cases h : x < a ∨ b < x
  · exact ⟨0, in_no h⟩
  · exact ⟨1, in_yes (fun q => h (Or.inl q)) (fun q => h (Or.inr q))⟩
theorem lt_nle {a b : Int32} : b < a ↔ ¬ a ≤ b := by
  rw [Int32.lt_iff_toInt_lt, Int32.le_iff_toInt_le]
  omega
theorem mres_r {f : Nat → Nat} {r v : Int32} {S1 : St} (h0 : gi S1 0 = 0) (h : v = r) : mres f (.inr r) v S1 := And.intro (fun e he => nomatch he) (fun r' hr => by injection hr with hr; exact ⟨h0, by rw [← hr]; exact h⟩)
def mcI (e : Nat) : Nat := e
def mcR (e : Nat) : Nat := if e = 4 then 2 else e
def mcN (e : Nat) : Nat := if e = 4 then 3 else if e = 3 then 4 else e
def mcP (e : Nat) : Nat := if e = 3 then 1 else e
section MOPS
variable {S : St} {H : Hs}
theorem gi0_si {S : St} : gi (si S 0 0) 0 = 0 := gi_si_eq
theorem mIns {x1 x2 x3 x4 : Int32} (hM : RM S H) (h4 : x4 = 0 ∨ x4 = 1) : OK (f_X7_insert S x1 x2 x3 x4) (fun q => mres mcI (aIns H x1 x2 x3 x4).1 q.1 q.2 ∧ RM q.2 (aIns H x1 x2 x3 x4).2) := by
  have hbs := mbs hM
  unfold f_X7_insert
  have key : ∀ j25 : Option (Int32 × St), (aIns H x1 x2 x3 x4 = (.inl 1, H) → OK j25 (fun q => mres mcI (aIns H x1 x2 x3 x4).1 q.1 q.2 ∧ RM q.2 (aIns H x1 x2 x3 x4).2)) → True := fun _ _ => trivial
  by_cases h1 : isS x1
  · obtain ⟨z, hz, rfl⟩ := h1
    rw [isSite_yes hz]
    refine OK_cl (OK_some rfl) ?_
    rintro v1 rfl
    refine OK_jnQ (aIns H (nI z) x2 x3 x4 = (.inl 1, H)) (fun q => ?_) (fun j25 hj25 => ?_)
    · rw [q]
      obtain ⟨v, hv⟩ := in_any (S := S) (x := x3) (a := 0) (b := 99)
      rw [hv]
      refine OK_cl (OK_some rfl) ?_
      rintro v32 rfl
      exact OK_jn (OK_neg (by decide) (OK_thr hM rfl (by decide)))
    refine OK_jn (OK_neg (by decide) ?_)
    have e1 : aIns H (nI z) x2 x3 x4 = pif (¬ (x2 = -1 ∨ LK H (kn H z) x2)) (.inl 1, H) (pif (x3 < 0 ∨ ¬ x3 ≤ 99) (.inl 2, H) (pif (¬ Hn H < 90) (.inl 3, H) (.inr (nI (HL H)), addH H z 0 (HL H) 0 (bof x2) (cN x3) (if x4 = 0 then 0 else 1) 0))) := by
      unfold aIns
      rw [pif_neg (fun q => q ⟨z, hz, rfl⟩), cN_nI (by omega)]
    refine OK_jnQ (x2 = -1 ∨ LK H (kn H z) x2) (fun h2 => ?_) (fun j21 hj21 => ?_)
    · rw [pif_neg (fun q => q h2)] at e1
      rw [e1]
      by_cases h3 : x3 < 0 ∨ ¬ x3 ≤ 99
      · rw [pif_pos h3, in_no (h3.imp id (fun q => lt_nle.mpr q))]
        refine OK_cl (OK_some rfl) ?_
        rintro v32 rfl
        exact OK_jn (OK_pos (by decide) (OK_neg (by decide) (OK_thr hM rfl (by decide))))
      · have h3a : ¬ x3 < 0 := fun q => h3 (Or.inl q)
        have h3b : x3 ≤ 99 := Decidable.byContradiction (fun q => h3 (Or.inr q))
        rw [pif_neg h3, in_yes h3a (fun q => lt_nle.mp q h3b)]
        refine OK_cl (OK_some rfl) ?_
        rintro v32 rfl
        refine OK_jn (OK_pos (by decide) (OK_pos (by decide) ?_))
        rw [hM.2.1.1.1]
        by_cases h5 : Hn H < 90
        · rw [pif_neg (fun q => q h5)]
          refine OK_pos (fun q => by have := nI_inj (b := 90) (by omega) (by omega) q; omega) ?_
          refine OK_well ?_
          obtain ⟨v, hv, rfl⟩ := nI_of2 (M := 99) (n := 99) rfl h3a h3b
          rw [cN_nI (by omega)]
          obtain ⟨b1, b2⟩ := bof_ok hM.1 h2
          obtain ⟨g, hg⟩ : ∃ g, g = if x4 = 0 then 0 else 1 := ⟨_, rfl⟩
          have hg1 : g ≤ 1 := by rw [hg]; split <;> omega
          rw [← hg]
          have hN := New_addH H z 0 (HL H) 0 (bof x2) v g 0
          obtain ⟨H2, hH2⟩ : ∃ H2, H2 = addH H z 0 (HL H) 0 (bof x2) v g 0 := ⟨_, rfl⟩
          rw [← hH2] at hN ⊢
          have hMay : May H z 0 (HL H) 0 (bof x2) v g 0 := ⟨hz, by omega, h5, fun _ => ⟨rfl, b2, by omega, hg1⟩, fun q => by omega, fun q => by omega, fun q => by omega⟩
          have hHL : HL H < 90 := by have := hM.1.1; omega
          have hklen := kn_len hM.1 hz
          have g7 : ∀ w, gi (si S 0 w) 7 = nI (HL H) := fun w => hM.2.1.1.2.1
          have hgb : vp_nar .boolean x4 = nI g := by
            rw [hg]
            rcases h4 with rfl | rfl <;> rfl
          rw [g7, ck_eq hHL (by omega), nI_clamp (by omega)]
          refine OK_lt ?_
          rw [gi_sa, g7, ck_eq hHL (by omega), nI_clamp (by omega)]
          refine OK_lt ?_
          rw [gi_sa, gi_sa, g7, ck_eq hHL (by omega), nI_clamp (by omega)]
          refine OK_lt ?_
          rw [gi_sa, gi_sa, gi_sa, g7, nI_1]
          refine OK_lt ?_
          rw [gi_si_eq, nI_pred, hgb]
          obtain ⟨S5, hS5⟩ : ∃ S5, S5 = si (sa (sa (sa (si S 0 0) 9 (HL H) x2) 10 (HL H) (nI v)) 11 (HL H) (nI g)) 7 (nI (HL H + 1)) := ⟨_, rfl⟩
          rw [← hS5]
          have e9 : ga S5 9 = upd (ga S 9) (HL H) x2 := by rw [hS5]; rfl
          have e10 : ga S5 10 = upd (ga S 10) (HL H) (nI v) := by rw [hS5]; rfl
          have e11 : ga S5 11 = upd (ga S 11) (HL H) (nI g) := by rw [hS5]; rfl
          have eo : ∀ j, j ≠ 9 → j ≠ 10 → j ≠ 11 → ga S5 j = ga S j := fun j a1 a2 a3 => by
            rw [hS5, ga_si, ga_sa, if_neg a3, ga_sa, if_neg a2, ga_sa, if_neg a1]; rfl
          have g5 : gi S5 7 = nI (HL H + 1) := by rw [hS5, gi_si_eq]
          have go : ∀ j, j ≠ 7 → j ≠ 0 → gi S5 j = gi S j := fun j a1 a2 => by
            rw [hS5, gi_si, if_neg a1]
            show (if j = 0 then _ else _) = _
            rw [if_neg a2]; rfl
          have g0 : gi S5 0 = 0 := by rw [hS5]; rfl
          obtain ⟨m15, m16, m17, m18⟩ := hM.2.2.1 z hz
          refine OK_cl2 (P := fun a b => a = nI (Hn H) ∧ DeedEq S5 b z (Hn H) (Hc H z) (kn H z).length 0 (nI (HL H)) (-1)) (m_deed hz h5 (by rw [go 1 (by decide) (by decide)]; exact hM.2.1.1.1) (by rw [eo 15 (by decide) (by decide) (by decide)]; exact m15) (by rw [eo 16 (by decide) (by decide) (by decide)]; exact m16) (by omega)) ?_
          rintro v139 S6 ⟨rfl, ⟨d1, d2⟩, ⟨d3, d4, d5, d6, d7⟩, ⟨d8, d9, d10, d11⟩, d12, d13⟩
          rw [ck_eq hHL (by omega), nI_clamp (by omega)]
          refine OK_lt ?_
          rw [gi_sa, d2 7 (by decide), g5, nI_pred]
          refine OK_some ⟨mres_r ?_ rfl, ?_⟩
          · rw [gi_sa, d2 0 (by decide)]; exact g0
          · have e2 : HL H2 = HL H + 1 := hN.2.1.2.1
            have e3 : HN H2 = HN H := hN.2.1.2.2
            refine RM_new hM hMay hN (kk := 0) (xx := nI (HL H)) (mm := -1) ⟨d1, ?_, ?_, ?_⟩ rfl rfl rfl rfl (fun q => by omega) ⟨?_, ?_, ?_, ?_, ?_⟩ ⟨?_, ?_, ?_, ?_⟩ (fun y hy => ?_) (fun _ => ?_) (fun y hy => ?_) (fun q => by omega) ⟨?_, ?_, ?_⟩
            · rw [gi_sa, d2 7 (by decide), g5, e2]
            · rw [gi_sa, d2 12 (by decide), go 12 (by decide) (by decide), e3]; exact hM.2.1.1.2.2
            · rw [gi_sa, d2 19 (by decide), go 19 (by decide) (by decide)]
            · rw [ga_sa, if_neg (by decide), d3, eo 2 (by decide) (by decide) (by decide)]
            · rw [ga_sa, if_neg (by decide), d4, eo 3 (by decide) (by decide) (by decide)]
            · rw [ga_sa, if_neg (by decide), d5, eo 4 (by decide) (by decide) (by decide)]
            · rw [ga_sa, if_neg (by decide), d6, eo 5 (by decide) (by decide) (by decide)]
            · rw [ga_sa, if_neg (by decide), d7, eo 6 (by decide) (by decide) (by decide)]
            · rw [ga_sa, if_neg (by decide), d8, eo 15 (by decide) (by decide) (by decide)]
            · rw [ga_sa, if_neg (by decide), d9, eo 16 (by decide) (by decide) (by decide)]
            · rw [ga_sa, if_neg (by decide), d10, eo 17 (by decide) (by decide) (by decide)]
            · rw [ga_sa, if_neg (by decide), d11, eo 18 (by decide) (by decide) (by decide)]
            · rw [ga_sa_eq, ga_sa, if_neg (by decide), ga_sa, if_neg (by decide), ga_sa, if_neg (by decide), d12 8 (by decide) (by decide), d12 9 (by decide) (by decide), d12 10 (by decide) (by decide), d12 11 (by decide) (by decide), e9, e10, e11, eo 8 (by decide) (by decide) (by decide), upd_ne (by omega), upd_ne (by omega), upd_ne (by omega), upd_ne (by omega)]
              exact ⟨rfl, rfl, rfl, rfl⟩
            · rw [ga_sa_eq, ga_sa, if_neg (by decide), ga_sa, if_neg (by decide), ga_sa, if_neg (by decide), d12 9 (by decide) (by decide), d12 10 (by decide) (by decide), d12 11 (by decide) (by decide), e9, e10, e11, upd_eq, upd_eq, upd_eq, upd_eq, b1]
              exact ⟨rfl, rfl, rfl, rfl⟩
            · rw [ga_sa, if_neg (by decide), ga_sa, if_neg (by decide), d12 13 (by decide) (by decide), d12 14 (by decide) (by decide), eo 13 (by decide) (by decide) (by decide), eo 14 (by decide) (by decide) (by decide)]
              exact ⟨rfl, rfl⟩
            · rw [ga_sa, if_neg (by decide), d13 20 (by decide), eo 20 (by decide) (by decide) (by decide)]
            · rw [ga_sa, if_neg (by decide), d13 21 (by decide), eo 21 (by decide) (by decide) (by decide)]
            · rw [ga_sa, if_neg (by decide), d13 22 (by decide), eo 22 (by decide) (by decide) (by decide)]
        · rw [pif_pos h5]
          have h90 : Hn H = 90 := by omega
          exact OK_neg (fun q => q (by rw [h90]; rfl)) (OK_thr hM rfl (by decide))
    · refine OK_ite (fun c => hj21 (Or.inl c)) (fun c => ?_)
      by_cases h2 : LK H (kn H z) x2
      · rw [(m_knowsLine hM hz).1 h2]
        refine OK_cl (OK_some rfl) ?_
        rintro v15 rfl
        exact OK_neg (by decide) (hj21 (Or.inr h2))
      · rw [(m_knowsLine hM hz).2 h2]
        refine OK_cl (OK_some rfl) ?_
        rintro v15 rfl
        refine OK_pos rfl (hj25 ?_)
        rw [e1, pif_pos (fun q => q.elim c h2)]
  · rw [isSite_no h1]
    refine OK_cl (OK_some rfl) ?_
    rintro v1 rfl
    refine OK_jnQ True (fun _ => ?_) (fun j25 hj25 => OK_jn (OK_pos rfl (hj25 trivial)))
    have e1 : aIns H x1 x2 x3 x4 = (.inl 1, H) := by
      unfold aIns
      rw [pif_pos h1]
    rw [e1]
    obtain ⟨v, hv⟩ := in_any (S := S) (x := x3) (a := 0) (b := 99)
    rw [hv]
    refine OK_cl (OK_some rfl) ?_
    rintro v32 rfl
    exact OK_jn (OK_neg (by decide) (OK_thr hM rfl (by decide)))
theorem m_There {z : Nat} {x : Int32} (hM : RM S H) (hz : z < 4) (hk : LK H (kn H z) x) : (LT H (kn H z) x → f_X7_isThere S (nI z) x = some 1) ∧ (¬ LT H (kn H z) x → f_X7_isThere S (nI z) x = some 0) := by
  obtain ⟨y, rfl, hk⟩ := hk
  have hy := kL_90 hM.1 hk
  rw [LT_nI hM.1 (by omega), m_isThere hM hz hy]
  refine ⟨fun h => ?_, fun h => ?_⟩
  · have := (thL_iff.mp h).2
    rw [if_neg (by rw [this]; decide)]
  · have : tkn H (kn H z) y = true := by
      cases q : tkn H (kn H z) y with
      | true => rfl
      | false => exact absurd (thL_iff.mpr ⟨hk, q⟩) h
    rw [if_pos this]
/-- a deed that makes neither line nor note -/
theorem RM_plain {S1 : St} {z k x m : Nat} {kk mm : Int32} (hM : RM S H) (hz : z < 4) (h0 : k ≠ 0) (h2 : k ≠ 2) (hMay : May H z k x m 0 0 0 0) (hkk : kk = nI k) (hmm : 2 ≤ k → mm = nI m) (hD : DeedEq (si S 0 0) S1 z (Hn H) (Hc H z) (kn H z).length kk (nI x) mm) : RM S1 (addH H z k x m 0 0 0 0) ∧ gi S1 0 = 0 := by
  obtain ⟨⟨d1, d2⟩, dA, dB, d12, d13⟩ := hD
  have hN := New_addH H z k x m 0 0 0 0
  have e2 : HL (addH H z k x m 0 0 0 0) = HL H := by rw [hN.2.1.2.1, if_neg h0]; rfl
  have e3 : HN (addH H z k x m 0 0 0 0) = HN H := by rw [hN.2.1.2.2, if_neg h2]; rfl
  refine ⟨RM_new hM hMay hN (kk := kk) (xx := nI x) (mm := mm) ⟨d1, ?_, ?_, ?_⟩ rfl rfl hkk rfl hmm dA dB (fun y hy => ?_) (fun q => absurd q h0) (fun y hy => ?_) (fun q => absurd q h2) ⟨d13 20 (by decide), d13 21 (by decide), d13 22 (by decide)⟩, d2 0 (by decide)⟩
  · rw [d2 7 (by decide), e2]; exact hM.2.1.1.2.1
  · rw [d2 12 (by decide), e3]; exact hM.2.1.1.2.2
  · exact d2 19 (by decide)
  · rw [d12 8 (by decide) (by decide), d12 9 (by decide) (by decide), d12 10 (by decide) (by decide), d12 11 (by decide) (by decide)]
    exact ⟨rfl, rfl, rfl, rfl⟩
  · rw [d12 13 (by decide) (by decide), d12 14 (by decide) (by decide)]
    exact ⟨rfl, rfl⟩
theorem m_room (hM : RM S H) : (Hn H < 90 → ¬ gi S 1 = 90) ∧ (¬ Hn H < 90 → ¬ ¬ gi S 1 = 90) := by
  have hbs := mbs hM
  rw [hM.2.1.1.1]
  refine ⟨fun h q => ?_, fun h q => q ?_⟩
  · have := nI_inj (b := 90) (by omega) (by omega) q
    omega
  · rw [show Hn H = 90 by omega]; rfl
theorem mRem {x1 x2 : Int32} (hM : RM S H) : OK (f_X7_remove S x1 x2) (fun q => mres mcR (aRem H x1 x2).1 q.1 q.2 ∧ RM q.2 (aRem H x1 x2).2) := by
  unfold f_X7_remove
  have thr1 : aRem H x1 x2 = (.inl 1, H) → OK (cl2 (f_X7_goesWell S 1) (fun (v58 : Int32) (S_58 : St) => if ¬ v58 = 0 then (cl2 (f_X7_deed S_58 x1 (1 : Int32) x2 (-1 : Int32)) (fun (v71 : Int32) (S_71 : St) => cl (f_X7_lay S_71 x1) (fun (S_78 : St) => some ((gi S_78 26), S_78)))) else (some ((0 : Int32), S_58)))) (fun q => mres mcR (aRem H x1 x2).1 q.1 q.2 ∧ RM q.2 (aRem H x1 x2).2) := by
    intro q
    rw [q]
    exact OK_thr hM rfl (by decide)
  by_cases h1 : isS x1
  · obtain ⟨z, hz, rfl⟩ := h1
    rw [isSite_yes hz]
    refine OK_cl (OK_some rfl) ?_
    rintro v1 rfl
    have e1 : aRem H (nI z) x2 = pif (¬ LK H (kn H z) x2) (.inl 1, H) (pif (¬ LT H (kn H z) x2) (.inl 4, H) (pif (¬ Hn H < 90) (.inl 3, H) (.inr (nI (szP (addH H z 1 (cN x2) 0 0 0 0 0) (kn H z ++ [Hn H]))), addH H z 1 (cN x2) 0 0 0 0 0))) := by
      unfold aRem
      rw [pif_neg (fun q => q ⟨z, hz, rfl⟩), cN_nI (by omega)]
    refine OK_jnQ (aRem H (nI z) x2 = (.inl 1, H)) (fun q => OK_jn (OK_neg (by decide) (thr1 q))) (fun j20 hj20 => ?_)
    refine OK_jn (OK_neg (by decide) ?_)
    by_cases h2 : LK H (kn H z) x2
    · rw [pif_neg (fun q => q h2)] at e1
      rw [(m_knowsLine hM hz).1 h2, e1]
      refine OK_cl (OK_some rfl) ?_
      rintro v10 rfl
      refine OK_neg (by decide) (OK_jn (OK_pos (by decide) ?_))
      by_cases h3 : LT H (kn H z) x2
      · rw [pif_neg (fun q => q h3), (m_There hM hz h2).1 h3]
        refine OK_cl (OK_some rfl) ?_
        rintro v34 rfl
        refine OK_pos (by decide) ?_
        by_cases h5 : Hn H < 90
        · rw [pif_neg (fun q => q h5)]
          refine OK_pos ((m_room hM).1 h5) (OK_well ?_)
          obtain ⟨y, rfl, hk⟩ := h2
          have hy := kL_90 hM.1 hk
          rw [cN_nI (by omega)]
          have hMay : May H z 1 y 0 0 0 0 0 := ⟨hz, by omega, h5, fun q => by omega, fun _ => hk, fun q => by omega, fun q => by omega⟩
          have hklen := kn_len hM.1 hz
          obtain ⟨m15, m16, m17, m18⟩ := hM.2.2.1 z hz
          refine OK_cl2 (P := fun a b => a = nI (Hn H) ∧ DeedEq (si S 0 0) b z (Hn H) (Hc H z) (kn H z).length 1 (nI y) (-1)) (m_deed hz h5 hM.2.1.1.1 m15 m16 (by omega)) ?_
          rintro v71 S6 ⟨rfl, hD⟩
          obtain ⟨r1, r2⟩ := RM_plain (k := 1) hM hz (by decide) (by decide) hMay rfl (fun q => by omega) hD
          refine OK_cl (m_lay r1 hz) ?_
          rintro S7 ⟨l1, l2, l3⟩
          have hkn : kn (addH H z 1 y 0 0 0 0 0) z = kn H z ++ [Hn H] := (New_addH H z 1 y 0 0 0 0 0).2.2.2.2.2.2.1.1
          rw [hkn] at l1
          refine OK_some ⟨mres_r ?_ l1.1.2.1.1, l2⟩
          rw [(l3 0 (by decide)).1]
          exact r2
        · rw [pif_pos h5]
          exact OK_neg ((m_room hM).2 h5) (OK_thr hM rfl (by decide))
      · rw [pif_pos h3, (m_There hM hz h2).2 h3]
        refine OK_cl (OK_some rfl) ?_
        rintro v34 rfl
        exact OK_neg (by decide) (OK_thr hM rfl (by decide))
    · rw [(m_knowsLine hM hz).2 h2]
      refine OK_cl (OK_some rfl) ?_
      rintro v10 rfl
      exact OK_pos rfl (hj20 (by rw [e1, pif_pos h2]))
  · rw [isSite_no h1]
    refine OK_cl (OK_some rfl) ?_
    rintro v1 rfl
    refine OK_jnQ (aRem H x1 x2 = (.inl 1, H)) (fun q => OK_jn (OK_neg (by decide) (thr1 q))) (fun j20 hj20 => OK_jn (OK_pos rfl (hj20 ?_)))
    unfold aRem
    rw [pif_pos h1]
theorem mNot {x1 x2 x3 : Int32} (hM : RM S H) : OK (f_X7_note S x1 x2 x3) (fun q => mres mcN (aNot H x1 x2 x3).1 q.1 q.2 ∧ RM q.2 (aNot H x1 x2 x3).2) := by
  have hbs := mbs hM
  unfold f_X7_note
  by_cases h1 : isS x1
  · obtain ⟨z, hz, rfl⟩ := h1
    rw [isSite_yes hz]
    refine OK_cl (OK_some rfl) ?_
    rintro v1 rfl
    have e1 : aNot H (nI z) x2 x3 = pif (¬ LK H (kn H z) x2) (.inl 1, H) (pif (x3 < 1 ∨ ¬ x3 ≤ 3) (.inl 2, H) (pif (¬ LT H (kn H z) x2) (.inl 4, H) (pif (¬ Hn H < 90) (.inl 3, H) (.inr (nI (HN H)), addH H z 2 (cN x2) (HN H) 0 0 0 (cN x3))))) := by
      unfold aNot
      rw [pif_neg (fun q => q ⟨z, hz, rfl⟩), cN_nI (by omega)]
    refine OK_jnQ (aNot H (nI z) x2 x3 = (.inl 1, H)) (fun q => ?_) (fun j20 hj20 => ?_)
    · rw [q]
      obtain ⟨v, hv⟩ := in_any (S := S) (x := x3) (a := 1) (b := 3)
      rw [hv]
      refine OK_cl (OK_some rfl) ?_
      rintro v26 rfl
      exact OK_jn (OK_neg (by decide) (OK_thr hM rfl (by decide)))
    refine OK_jn (OK_neg (by decide) ?_)
    by_cases h2 : LK H (kn H z) x2
    · rw [pif_neg (fun q => q h2)] at e1
      rw [(m_knowsLine hM hz).1 h2, e1]
      refine OK_cl (OK_some rfl) ?_
      rintro v10 rfl
      refine OK_neg (by decide) ?_
      by_cases h3 : x3 < 1 ∨ ¬ x3 ≤ 3
      · rw [pif_pos h3, in_no (h3.imp id (fun q => lt_nle.mpr q))]
        refine OK_cl (OK_some rfl) ?_
        rintro v26 rfl
        exact OK_jn (OK_pos (by decide) (OK_neg (by decide) (OK_thr hM rfl (by decide))))
      · have h3a : ¬ x3 < 1 := fun q => h3 (Or.inl q)
        have h3b : x3 ≤ 3 := Decidable.byContradiction (fun q => h3 (Or.inr q))
        rw [pif_neg h3, in_yes h3a (fun q => lt_nle.mp q h3b)]
        refine OK_cl (OK_some rfl) ?_
        rintro v26 rfl
        refine OK_jn (OK_pos (by decide) (OK_pos (by decide) ?_))
        by_cases h4 : LT H (kn H z) x2
        · rw [pif_neg (fun q => q h4), (m_There hM hz h2).1 h4]
          refine OK_cl (OK_some rfl) ?_
          rintro v53 rfl
          refine OK_pos (by decide) ?_
          by_cases h5 : Hn H < 90
          · rw [pif_neg (fun q => q h5)]
            refine OK_pos ((m_room hM).1 h5) (OK_well ?_)
            obtain ⟨y, rfl, hk⟩ := h2
            have hy := kL_90 hM.1 hk
            have h0 : ¬ x3 < 0 := by
              rcases neg_cases x3 with q | ⟨j9, hj9, rfl⟩
              · exfalso
                refine h3a ?_
                rw [Int32.lt_iff_toInt_lt] at q ⊢
                have e0 : (0 : Int32).toInt = 0 := by decide
                have e1 : (1 : Int32).toInt = 1 := by decide
                omega
              · exact nI_pos hj9
            obtain ⟨r, hr, rfl⟩ := nI_of2 (M := 3) (n := 3) rfl h0 h3b
            have hr1 : 1 ≤ r := by
              rcases Nat.eq_zero_or_pos r with q | q
              · exact absurd (by rw [q]; decide) h3a
              · exact q
            rw [cN_nI (by omega), cN_nI (by omega)]
            have hN := New_addH H z 2 y (HN H) 0 0 0 r
            obtain ⟨H2, hH2⟩ : ∃ H2, H2 = addH H z 2 y (HN H) 0 0 0 r := ⟨_, rfl⟩
            rw [← hH2] at hN ⊢
            have hMay : May H z 2 y (HN H) 0 0 0 r := ⟨hz, by omega, h5, fun q => by omega, fun _ => hk, fun _ => ⟨rfl, hr1, hr⟩, fun q => by omega⟩
            have hHN : HN H < 90 := by have := hM.1.1; omega
            have hklen := kn_len hM.1 hz
            have g12 : ∀ w, gi (si S 0 w) 12 = nI (HN H) := fun w => hM.2.1.1.2.2
            rw [g12, ck_eq hHN (by omega), nI_clamp (by omega)]
            refine OK_lt ?_
            rw [gi_sa, g12, nI_1]
            refine OK_lt ?_
            rw [gi_si_eq, nI_pred]
            obtain ⟨S5, hS5⟩ : ∃ S5, S5 = si (sa (si S 0 0) 14 (HN H) (nI r)) 12 (nI (HN H + 1)) := ⟨_, rfl⟩
            rw [← hS5]
            have e14 : ga S5 14 = upd (ga S 14) (HN H) (nI r) := by rw [hS5]; rfl
            have eo : ∀ j, j ≠ 14 → ga S5 j = ga S j := fun j a1 => by
              rw [hS5, ga_si, ga_sa, if_neg a1]; rfl
            have g5 : gi S5 12 = nI (HN H + 1) := by rw [hS5, gi_si_eq]
            have go : ∀ j, j ≠ 12 → j ≠ 0 → gi S5 j = gi S j := fun j a1 a2 => by
              rw [hS5, gi_si, if_neg a1]
              show (if j = 0 then _ else _) = _
              rw [if_neg a2]; rfl
            have g0 : gi S5 0 = 0 := by rw [hS5]; rfl
            obtain ⟨m15, m16, m17, m18⟩ := hM.2.2.1 z hz
            refine OK_cl2 (P := fun a b => a = nI (Hn H) ∧ DeedEq S5 b z (Hn H) (Hc H z) (kn H z).length 2 (nI y) (nI (HN H))) (m_deed hz h5 (by rw [go 1 (by decide) (by decide)]; exact hM.2.1.1.1) (by rw [eo 15 (by decide)]; exact m15) (by rw [eo 16 (by decide)]; exact m16) (by omega)) ?_
            rintro v125 S6 ⟨rfl, ⟨d1, d2⟩, ⟨d3, d4, d5, d6, d7⟩, ⟨d8, d9, d10, d11⟩, d12, d13⟩
            rw [ck_eq hHN (by omega), nI_clamp (by omega)]
            refine OK_lt ?_
            rw [gi_sa, d2 12 (by decide), g5, nI_pred]
            refine OK_some ⟨mres_r ?_ rfl, ?_⟩
            · rw [gi_sa, d2 0 (by decide)]; exact g0
            · have e2 : HL H2 = HL H := hN.2.1.2.1
              have e3 : HN H2 = HN H + 1 := hN.2.1.2.2
              refine RM_new hM hMay hN (kk := 2) (xx := nI y) (mm := nI (HN H)) ⟨d1, ?_, ?_, ?_⟩ rfl rfl rfl rfl (fun _ => rfl) ⟨?_, ?_, ?_, ?_, ?_⟩ ⟨?_, ?_, ?_, ?_⟩ (fun y hy => ?_) (fun q => by omega) (fun y hy => ?_) (fun _ => ?_) ⟨?_, ?_, ?_⟩
              · rw [gi_sa, d2 7 (by decide), go 7 (by decide) (by decide), e2]; exact hM.2.1.1.2.1
              · rw [gi_sa, d2 12 (by decide), g5, e3]
              · rw [gi_sa, d2 19 (by decide), go 19 (by decide) (by decide)]
              · rw [ga_sa, if_neg (by decide), d3, eo 2 (by decide)]
              · rw [ga_sa, if_neg (by decide), d4, eo 3 (by decide)]
              · rw [ga_sa, if_neg (by decide), d5, eo 4 (by decide)]
              · rw [ga_sa, if_neg (by decide), d6, eo 5 (by decide)]
              · rw [ga_sa, if_neg (by decide), d7, eo 6 (by decide)]
              · rw [ga_sa, if_neg (by decide), d8, eo 15 (by decide)]
              · rw [ga_sa, if_neg (by decide), d9, eo 16 (by decide)]
              · rw [ga_sa, if_neg (by decide), d10, eo 17 (by decide)]
              · rw [ga_sa, if_neg (by decide), d11, eo 18 (by decide)]
              · rw [ga_sa, if_neg (by decide), ga_sa, if_neg (by decide), ga_sa, if_neg (by decide), ga_sa, if_neg (by decide), d12 8 (by decide) (by decide), d12 9 (by decide) (by decide), d12 10 (by decide) (by decide), d12 11 (by decide) (by decide), eo 8 (by decide), eo 9 (by decide), eo 10 (by decide), eo 11 (by decide)]
                exact ⟨rfl, rfl, rfl, rfl⟩
              · rw [ga_sa_eq, ga_sa, if_neg (by decide), d12 13 (by decide) (by decide), d12 14 (by decide) (by decide), e14, eo 13 (by decide), upd_ne (by omega), upd_ne (by omega)]
                exact ⟨rfl, rfl⟩
              · rw [ga_sa_eq, ga_sa, if_neg (by decide), d12 14 (by decide) (by decide), e14, upd_eq, upd_eq]
                exact ⟨rfl, rfl⟩
              · rw [ga_sa, if_neg (by decide), d13 20 (by decide), eo 20 (by decide)]
              · rw [ga_sa, if_neg (by decide), d13 21 (by decide), eo 21 (by decide)]
              · rw [ga_sa, if_neg (by decide), d13 22 (by decide), eo 22 (by decide)]
          · rw [pif_pos h5]
            exact OK_neg ((m_room hM).2 h5) (OK_thr hM rfl (by decide))
        · rw [pif_pos h4, (m_There hM hz h2).2 h4]
          refine OK_cl (OK_some rfl) ?_
          rintro v53 rfl
          exact OK_neg (by decide) (OK_thr hM rfl (by decide))
    · rw [(m_knowsLine hM hz).2 h2]
      refine OK_cl (OK_some rfl) ?_
      rintro v10 rfl
      exact OK_pos rfl (hj20 (by rw [e1, pif_pos h2]))
  · rw [isSite_no h1]
    refine OK_cl (OK_some rfl) ?_
    rintro v1 rfl
    refine OK_jnQ True (fun _ => ?_) (fun j20 hj20 => OK_jn (OK_pos rfl (hj20 trivial)))
    have e1 : aNot H x1 x2 x3 = (.inl 1, H) := by
      unfold aNot
      rw [pif_pos h1]
    rw [e1]
    obtain ⟨v, hv⟩ := in_any (S := S) (x := x3) (a := 1) (b := 3)
    rw [hv]
    refine OK_cl (OK_some rfl) ?_
    rintro v26 rfl
    exact OK_jn (OK_neg (by decide) (OK_thr hM rfl (by decide)))
theorem OK_thrV {S : St} {H : Hs} {f : Nat → Nat} {c : Nat} {t : Int32} {A : St → Option St} (hM : RM S H) (ht : t = nI (f c)) (h0 : ¬ t = 0) : OK (cl2 (f_X7_goesWell S t) (fun v S1 => if v = 0 then some S1 else A S1)) (fun q => mres f (.inl c) 0 q ∧ RM q H) := by
  refine OK_c2 (goesN h0) (OK_pos rfl (OK_some ⟨⟨fun e he => ?_, fun r hr => by cases hr⟩, RM_si0 hM⟩))
  injection he with he
  rw [← he, gi_si_eq, ht]
theorem mMov {x1 x2 x3 : Int32} (hM : RM S H) : OK (f_X7_move S x1 x2 x3) (fun q => mres mcR (aMov H x1 x2 x3).1 0 q ∧ RM q (aMov H x1 x2 x3).2) := by
  unfold f_X7_move
  have thr1 : aMov H x1 x2 x3 = (.inl 1, H) → OK (cl2 (f_X7_goesWell S 1) (fun (v69 : Int32) (S_69 : St) => if v69 = 0 then (some S_69) else (cl2 (f_X7_deed S_69 x1 (3 : Int32) x3 x2) (fun (v80 : Int32) (S_80 : St) => some S_80)))) (fun q => mres mcR (aMov H x1 x2 x3).1 0 q ∧ RM q (aMov H x1 x2 x3).2) := by
    intro q
    rw [q]
    exact OK_thrV hM rfl (by decide)
  by_cases h1 : isS x1
  · obtain ⟨z, hz, rfl⟩ := h1
    rw [isSite_yes hz]
    refine OK_cl (OK_some rfl) ?_
    rintro v1 rfl
    have e1 : aMov H (nI z) x2 x3 = pif (¬ NK H (kn H z) x2) (.inl 1, H) (pif (¬ LK H (kn H z) x3) (.inl 1, H) (pif (¬ LT H (kn H z) x3) (.inl 4, H) (pif (¬ Hn H < 90) (.inl 3, H) (.inr 0, addH H z 3 (cN x3) (cN x2) 0 0 0 0)))) := by
      unfold aMov
      rw [pif_neg (fun q => q ⟨z, hz, rfl⟩), cN_nI (by omega)]
    refine OK_jnQ (aMov H (nI z) x2 x3 = (.inl 1, H)) (fun q => OK_jn (OK_neg (by decide) (thr1 q))) (fun j29 hj29 => ?_)
    refine OK_jn (OK_neg (by decide) ?_)
    by_cases h6 : NK H (kn H z) x2
    · rw [pif_neg (fun q => q h6)] at e1
      rw [(m_knowsNote hM hz).1 h6]
      refine OK_cl (OK_some rfl) ?_
      rintro v10 rfl
      refine OK_neg (by decide) ?_
      by_cases h2 : LK H (kn H z) x3
      · rw [pif_neg (fun q => q h2)] at e1
        rw [(m_knowsLine hM hz).1 h2, e1]
        refine OK_cl (OK_some rfl) ?_
        rintro v19 rfl
        refine OK_neg (by decide) (OK_jn (OK_pos (by decide) ?_))
        by_cases h3 : LT H (kn H z) x3
        · rw [pif_neg (fun q => q h3), (m_There hM hz h2).1 h3]
          refine OK_cl (OK_some rfl) ?_
          rintro v45 rfl
          refine OK_pos (by decide) ?_
          by_cases h5 : Hn H < 90
          · rw [pif_neg (fun q => q h5)]
            refine OK_pos ((m_room hM).1 h5) (OK_c2 goes0 (OK_neg (by decide) ?_))
            obtain ⟨y, rfl, hk⟩ := h2
            obtain ⟨m, rfl, hkm⟩ := h6
            have hy := kL_90 hM.1 hk
            have hm := kN_90 hM.1 hkm
            rw [cN_nI (by omega), cN_nI (by omega)]
            have hMay : May H z 3 y m 0 0 0 0 := ⟨hz, by omega, h5, fun q => by omega, fun _ => hk, fun q => by omega, fun _ => hkm⟩
            have hklen := kn_len hM.1 hz
            obtain ⟨m15, m16, m17, m18⟩ := hM.2.2.1 z hz
            refine OK_cl2 (P := fun a b => a = nI (Hn H) ∧ DeedEq (si S 0 0) b z (Hn H) (Hc H z) (kn H z).length 3 (nI y) (nI m)) (m_deed hz h5 hM.2.1.1.1 m15 m16 (by omega)) ?_
            rintro v80 S6 ⟨rfl, hD⟩
            obtain ⟨r1, r2⟩ := RM_plain (k := 3) hM hz (by decide) (by decide) hMay rfl (fun _ => rfl) hD
            exact OK_some ⟨mres_r r2 rfl, r1⟩
          · rw [pif_pos h5]
            exact OK_neg ((m_room hM).2 h5) (OK_thrV hM rfl (by decide))
        · rw [pif_pos h3, (m_There hM hz h2).2 h3]
          refine OK_cl (OK_some rfl) ?_
          rintro v45 rfl
          exact OK_neg (by decide) (OK_thrV hM rfl (by decide))
      · rw [(m_knowsLine hM hz).2 h2]
        refine OK_cl (OK_some rfl) ?_
        rintro v19 rfl
        exact OK_pos rfl (hj29 (by rw [e1, pif_pos h2]))
    · rw [(m_knowsNote hM hz).2 h6]
      refine OK_cl (OK_some rfl) ?_
      rintro v10 rfl
      exact OK_pos rfl (hj29 (by rw [e1, pif_pos h6]))
  · rw [isSite_no h1]
    refine OK_cl (OK_some rfl) ?_
    rintro v1 rfl
    refine OK_jnQ (aMov H x1 x2 x3 = (.inl 1, H)) (fun q => OK_jn (OK_neg (by decide) (thr1 q))) (fun j29 hj29 => OK_jn (OK_pos rfl (hj29 ?_)))
    unfold aMov
    rw [pif_pos h1]
end MOPS
