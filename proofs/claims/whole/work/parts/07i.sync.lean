/-! THE MODEL ANSWERS AS THE HISTORY SAYS: getting deeds, printing -/
section MSYNC
variable {S : St} {H : Hs}
def MK (S : St) (z : Nat) (l : List Nat) : Prop := ga S 16 z = nI l.length ∧ (∀ i d, l[i]? = some d → ga S 17 (90 * z + i) = nI d) ∧ (∀ d, d < 90 → ga S 18 (90 * z + d) = if d ∈ l then 1 else 0)
def SK (S S1 : St) (b : Nat) : Prop := (∀ j, j ≠ 16 → j ≠ 17 → j ≠ 18 → ga S1 j = ga S j) ∧ (∀ j, gi S1 j = gi S j) ∧ (∀ z, z ≠ b → ga S1 16 z = ga S 16 z) ∧ (∀ i, i < 90 * b ∨ 90 * b + 90 ≤ i → ga S1 17 i = ga S 17 i ∧ ga S1 18 i = ga S 18 i)
theorem SK_tr {S S1 S2 : St} {b : Nat} (h1 : SK S S1 b) (h2 : SK S1 S2 b) : SK S S2 b := ⟨fun j a1 a2 a3 => (h2.1 j a1 a2 a3).trans (h1.1 j a1 a2 a3), fun j => (h2.2.1 j).trans (h1.2.1 j), fun z hz => (h2.2.2.1 z hz).trans (h1.2.2.1 z hz), fun i hi => ⟨(h2.2.2.2 i hi).1.trans (h1.2.2.2 i hi).1, (h2.2.2.2 i hi).2.trans (h1.2.2.2 i hi).2⟩⟩
theorem MK_learn {b d : Nat} {l : List Nat} (hb : b < 4) (hd : d < 90) (hl : l.length < 90) (h : MK S b l) : OK (f_X7_learn S (nI b) (nI d)) (fun S1 => MK S1 b (l ++ [d]) ∧ SK S S1 b) := by
  obtain ⟨a1, a2, a3⟩ := h
  refine OK_mono (m_learn hb hd a1 hl) ?_
  rintro S1 ⟨e18, e17, e16, eo, eg⟩
  refine ⟨⟨by rw [e16, upd_eq, List.length_append]; rfl, fun i w hw => ?_, fun w hw => ?_⟩, eo, eg, fun z hz => by rw [e16, upd_ne hz], fun i hi => ⟨by rw [e17, upd_ne (by omega)], by rw [e18, upd_ne (by omega)]⟩⟩
  · rw [e17]
    have hi := (List.getElem?_eq_some_iff.mp hw).1
    rw [List.length_append, List.length_singleton] at hi
    refine upd_at (fun q => ?_) (fun q => ?_)
    · have : i = l.length := by omega
      subst this
      rw [List.getElem?_append_right (Nat.le_refl _), Nat.sub_self] at hw
      injection hw with hw
      rw [← hw]
    · rw [List.getElem?_append_left (by omega)] at hw
      exact a2 i w hw
  · rw [e18]
    refine upd_at (fun q => ?_) (fun q => ?_)
    · rw [if_pos]
      have : w = d := by omega
      rw [this]; simp
    · rw [a3 w hw]
      have : w ≠ d := by omega
      by_cases q2 : w ∈ l
      · rw [if_pos q2, if_pos (List.mem_append_left _ q2)]
      · rw [if_neg q2, if_neg]
        intro h
        rcases List.mem_append.mp h with h | h
        · exact q2 h
        · exact this (by simpa using h)
theorem mSyn {x1 x2 : Int32} (hM : RM S H) : OK (f_X7_sync S x1 x2) (fun q => mres mcI (aSyn H x1 x2).1 q.1 q.2 ∧ RM q.2 (aSyn H x1 x2).2) := by
  have hbs := mbs hM
  have hW := hM.1
  unfold f_X7_sync
  by_cases h1 : isS x1 ∧ isS x2
  · obtain ⟨⟨a, ha, rfl⟩, ⟨b, hb, rfl⟩⟩ := h1
    rw [isSite_yes ha]
    refine OK_cl (OK_some rfl) ?_
    rintro v2 rfl
    refine OK_jnQ False (fun q => q.elim) (fun j19 _ => OK_jn (OK_neg (by decide) ?_))
    rw [isSite_yes hb]
    refine OK_cl (OK_some rfl) ?_
    rintro v9 rfl
    refine OK_neg (by decide) ?_
    have e1 : aSyn H (nI a) (nI b) = (.inr (nI (((kn H a).filter (fun x => decide (x ∉ kn H b))).length)), synH H a b) := by
      unfold aSyn
      rw [pif_neg (fun q => q ⟨⟨a, ha, rfl⟩, ⟨b, hb, rfl⟩⟩), cN_nI (by omega), cN_nI (by omega)]
    rw [e1]
    refine OK_well ?_
    obtain ⟨S0, hS0⟩ : ∃ S0, S0 = si S 0 0 := ⟨_, rfl⟩
    rw [← hS0]
    have hM0 : RM S0 H := by rw [hS0]; exact RM_si0 hM
    have hg0 : gi S0 0 = 0 := by rw [hS0]; exact gi_si_eq
    obtain ⟨ma1, ma2, ma3, ma4⟩ := hM0.2.2.1 a ha
    obtain ⟨mb1, mb2, mb3, mb4⟩ := hM0.2.2.1 b hb
    have wa := hW.2.2.2.2.2.2.2.2 a ha
    have wb := hW.2.2.2.2.2.2.2.2 b hb
    have hla := kn_len hW ha
    have hlb := kn_len hW hb
    have ca := Hc_90 hW ha
    have cb := Hc_90 hW hb
    have hW2 := WF_syn hW ha hb
    rw [ck_eq hb (by omega), nI_clamp (n := b) (by omega), mb2]
    refine OK_lt ?_
    obtain ⟨F, hF⟩ : ∃ F : Nat → List Nat, F = fun t => ((kn H a).take t).filter (fun x => decide (x ∉ kn H b)) := ⟨_, rfl⟩
    have hFt : ∀ t d, (kn H a)[t]? = some d → F (t + 1) = F t ++ (if d ∈ kn H b then [] else [d]) := by
      intro t d h
      rw [hF]
      exact filter_snoc h
    have hFm : ∀ t x, x ∈ F t → x ∈ kn H a ∧ x ∉ kn H b := by
      intro t x hx
      rw [hF] at hx
      obtain ⟨h1, h2⟩ := List.mem_filter.mp hx
      exact ⟨List.mem_of_mem_take h1, by simpa using h2⟩
    have hnod : ∀ t, (kn H b ++ F t).Nodup := fun t => List.nodup_append.mpr ⟨wb.1, by rw [hF]; exact (wa.1.sublist (List.take_sublist _ _)).sublist List.filter_sublist, fun x hx y hy e => (hFm t y hy).2 (e ▸ hx)⟩
    have hltF : ∀ t, ∀ e ∈ kn H b ++ F t, e < Hn H := fun t e he => by
      rcases List.mem_append.mp he with q | q
      · exact (wb.2.1 e q).1
      · exact (wa.2.1 e (hFm t e q).1).1
    refine Lp2_ok (fun x4 S2 => ∃ t, x4 = nI t ∧ t ≤ (kn H a).length ∧ MK S2 b (kn H b ++ F t) ∧ SK S0 S2 b ∧ (a = b → t = 0)) (fun x4 _ => 200 - x4.toNatClampNeg) ?_ FU _ _ ⟨0, rfl, Nat.zero_le _, by rw [hF]; simpa using ⟨mb2, mb3, mb4⟩, ⟨fun _ _ _ _ => rfl, fun _ => rfl, fun _ _ => rfl, fun _ _ => ⟨rfl, rfl⟩⟩, fun _ => rfl⟩ (by rw [FU_1000]; omega)
    rintro next x4 S2 ⟨t, rfl, k1, k2, k3, k4⟩ hn
    obtain ⟨s1, s2, s3, s4⟩ := k3
    have h15 : ga S2 15 = ga S0 15 := s1 15 (by decide) (by decide) (by decide)
    rw [ck_eq ha (by omega), nI_clamp (n := a) (by omega)]
    refine OK_jnQ (F t = F (kn H a).length ∨ a = b) (fun hend => ?_) (fun J hJ => ?_)
    · rw [ck_eq ha (by omega), ck_eq hb (by omega), h15, ma1, mb1]
      have hFF : F t = (kn H a).filter (fun x => decide (x ∉ kn H b)) := by
        rcases hend with q | q
        · rw [q, hF]; dsimp only; rw [List.take_length]
        · have h0 := k4 q
          rw [h0, hF]
          dsimp only
          rw [List.take_zero, List.filter_nil]
          refine (List.filter_eq_nil_iff.mpr (fun x hx => ?_)).symm
          rw [q] at hx
          simpa using hx
      rw [hFF] at k2
      have fin : ∀ v, v = nI (max (Hc H b) (Hc H a)) → OK (ck (nI b) 4 (lt (sa S2 15 b v) fun S_131 => ck (nI b) 4 (some (ga S_131 16 b - nI (kn H b).length, S_131)))) (fun q => mres mcI (.inr (nI (((kn H a).filter (fun x => decide (x ∉ kn H b))).length))) q.1 q.2 ∧ RM q.2 (synH H a b)) := by
        rintro v rfl
        rw [ck_eq hb (by omega)]
        refine OK_lt ?_
        rw [ck_eq hb (by omega), ga_sa, if_neg (by decide), k2.1, List.length_append, nI_sub (by omega), Nat.add_sub_cancel_left]
        refine OK_some ⟨mres_r ?_ rfl, hW2, ?_, fun z hz => ?_, ?_, hM.2.2.2.2⟩
        · rw [gi_sa, s2]; exact hg0
        · obtain ⟨⟨q1, q2, q3⟩, q4, q5, q6⟩ := hM0.2.1
          have q0 : MT (sa S2 15 b (nI (max (Hc H b) (Hc H a)))) H := by
            unfold MT
            rw [gi_sa, gi_sa, gi_sa, s2, s2, s2, ga_sa, if_neg (by decide), ga_sa, if_neg (by decide), ga_sa, if_neg (by decide), ga_sa, if_neg (by decide), ga_sa, if_neg (by decide), ga_sa, if_neg (by decide), ga_sa, if_neg (by decide), ga_sa, if_neg (by decide), ga_sa, if_neg (by decide), ga_sa, if_neg (by decide), ga_sa, if_neg (by decide), s1 2 (by decide) (by decide) (by decide), s1 3 (by decide) (by decide) (by decide), s1 4 (by decide) (by decide) (by decide), s1 5 (by decide) (by decide) (by decide), s1 6 (by decide) (by decide) (by decide), s1 8 (by decide) (by decide) (by decide), s1 9 (by decide) (by decide) (by decide), s1 10 (by decide) (by decide) (by decide), s1 11 (by decide) (by decide) (by decide), s1 13 (by decide) (by decide) (by decide), s1 14 (by decide) (by decide) (by decide)]
            exact ⟨⟨q1, q2, q3⟩, q4, q5, q6⟩
          exact q0
        · unfold MS
          rw [ga_sa_eq, ga_sa, if_neg (by decide), ga_sa, if_neg (by decide), ga_sa, if_neg (by decide), h15]
          by_cases e : z = b
          · subst e
            have hkb : kn (synH H a z) z = kn H z ++ (kn H a).filter (fun x => decide (x ∉ kn H z)) := if_pos rfl
            have hcb : Hc (synH H a z) z = max (Hc H z) (Hc H a) := if_pos ⟨rfl, rfl⟩
            rw [hkb, hcb, upd_eq]
            exact ⟨rfl, k2.1, k2.2.1, k2.2.2⟩
          · have hkz : kn (synH H a b) z = kn H z := if_neg e
            have hcz : Hc (synH H a b) z = Hc H z := if_neg (fun q => e q.2)
            obtain ⟨m1, m2, m3, m4⟩ := hM0.2.2.1 z hz
            have hzl := kn_len hW hz
            rw [hkz, hcz, upd_ne e, s3 z e]
            refine ⟨m1, m2, fun i d hd => ?_, fun d hd => ?_⟩
            · have hi := (List.getElem?_eq_some_iff.mp hd).1
              rw [(s4 (90 * z + i) (by omega)).1]
              exact m3 i d hd
            · rw [(s4 (90 * z + d) (by omega)).2]
              exact m4 d hd
        · obtain ⟨q1, q2, q3⟩ := hM0.2.2.2.1
          unfold MP
          rw [gi_sa, s2, ga_sa, if_neg (by decide), ga_sa, if_neg (by decide), ga_sa, if_neg (by decide), s1 20 (by decide) (by decide) (by decide), s1 21 (by decide) (by decide) (by decide), s1 22 (by decide) (by decide) (by decide)]
          exact ⟨q1, q2, q3⟩
      refine OK_jn ?_
      by_cases q : Hc H a ≤ Hc H b
      · refine OK_pos (nI_le q (by omega)) ?_
        rw [ck_eq hb (by omega)]
        exact fin _ (by rw [Nat.max_eq_left q])
      · refine OK_neg (fun g => q ((nI_leI (by omega) (by omega)).mp g)) ?_
        rw [ck_eq ha (by omega)]
        exact fin _ (by rw [Nat.max_eq_right (by omega)])
    · by_cases hab : a = b
      · exact OK_ite (fun _ => hJ (Or.inr hab)) (fun _ => OK_pos (by rw [hab]) (hJ (Or.inr hab)))
      · rw [s3 a hab, ma2]
        refine OK_ite (fun c => hJ (Or.inl ?_)) (fun c => ?_)
        · have : t = (kn H a).length := by
            have := (nI_leI (by omega) (by omega)).mp c
            omega
          rw [this]
        · have ht : t < (kn H a).length := by
            rcases Nat.lt_or_ge t (kn H a).length with q | q
            · exact q
            · exact absurd (nI_le q (by omega)) c
          have hmt : 200 - (nI (t + 1)).toNatClampNeg < 200 - (nI t).toNatClampNeg := by rw [nI_clamp (by omega), nI_clamp (by omega)]; omega
          obtain ⟨d, hd⟩ : ∃ d, (kn H a)[t]? = some d := ⟨_, List.getElem?_eq_getElem ht⟩
          have hdn := (wa.2.1 d (List.mem_of_getElem? hd)).1
          have hcell : ga S2 17 (90 * a + t) = nI d := by
            rw [(s4 (90 * a + t) (by omega)).1]
            exact ma3 t d hd
          refine OK_neg (fun q => hab (nI_inj (by omega) (by omega) q)) ?_
          rw [k90, ck_eq (by omega) (by omega), nI_clamp (n := 90 * a + t) (by omega), hcell]
          refine OK_lt ?_
          rw [k90, ck_eq (by omega) (by omega), nI_clamp (n := 90 * b + d) (by omega), k2.2.2 d (by omega)]
          have hdF : d ∉ F t := by
            intro q
            rw [hF] at q
            have q1 := (List.mem_filter.mp q).1
            obtain ⟨i, hi, e⟩ := List.mem_iff_getElem.mp q1
            rw [List.getElem_take] at e
            rw [List.length_take] at hi
            rw [List.getElem?_eq_getElem ht] at hd
            injection hd with hd
            have := nd_inj wa.1 (by omega) ht (e.trans hd.symm)
            omega
          refine OK_jn ?_
          by_cases hin : d ∈ kn H b
          · rw [if_pos (List.mem_append_left _ hin)]
            refine OK_pos (by decide) (OK_lt ?_)
            rw [nI_1]
            have e : F (t + 1) = F t := by rw [hFt t d hd, if_pos hin, List.append_nil]
            exact hn _ _ ⟨t + 1, rfl, ht, by rw [e]; exact k2, ⟨s1, s2, s3, s4⟩, fun q => absurd q hab⟩ hmt
          · have hnd : d ∉ kn H b ++ F t := fun q => (List.mem_append.mp q).elim hin hdF
            rw [if_neg hnd]
            refine OK_neg (by decide) ?_
            have hlen : (kn H b ++ F t).length < 90 := by
              have h1 : (d :: (kn H b ++ F t)).Nodup := List.nodup_cons.mpr ⟨hnd, hnod t⟩
              have := nd_len (b := List.range (Hn H)) h1 (fun x hx => by
                rcases List.mem_cons.mp hx with rfl | q
                · exact List.mem_range.mpr hdn
                · exact List.mem_range.mpr (hltF t x q))
              simp only [List.length_range, List.length_cons] at this
              omega
            refine OK_cl (MK_learn hb (by omega) hlen k2) ?_
            rintro S3 ⟨b1, b2⟩
            refine OK_lt ?_
            rw [nI_1]
            have e : F (t + 1) = F t ++ [d] := by rw [hFt t d hd, if_neg hin]
            exact hn _ _ ⟨t + 1, rfl, ht, by rw [e, ← List.append_assoc]; exact b1, SK_tr ⟨s1, s2, s3, s4⟩ b2, fun q => absurd q hab⟩ hmt
  · have e1 : aSyn H x1 x2 = (.inl 1, H) := by
      unfold aSyn
      rw [pif_pos h1]
    rw [e1]
    by_cases h2 : isS x1
    · obtain ⟨a, ha, rfl⟩ := h2
      have h3 : ¬ isS x2 := fun q => h1 ⟨⟨a, ha, rfl⟩, q⟩
      rw [isSite_yes ha]
      refine OK_cl (OK_some rfl) ?_
      rintro v2 rfl
      refine OK_jnQ True (fun _ => OK_thr hM rfl (by decide)) (fun j19 hj19 => OK_jn (OK_neg (by decide) ?_))
      rw [isSite_no h3]
      refine OK_cl (OK_some rfl) ?_
      rintro v9 rfl
      exact OK_pos rfl (hj19 trivial)
    · rw [isSite_no h2]
      refine OK_cl (OK_some rfl) ?_
      rintro v2 rfl
      exact OK_jnQ True (fun _ => OK_thr hM rfl (by decide)) (fun j19 hj19 => OK_jn (OK_pos rfl (hj19 trivial)))
end MSYNC
