theorem bringNote_eq {S : St} {z m t sv : Nat} (hm : m < 90) : f_X5_bringNote S z (nI m) (nI t) (nI sv) = some (if nI sv ≤ ga S (oT z + 11) m then S else sa (sa S (oT z + 9) m (nI t)) (oT z + 11) m (nI sv)) := by
  have h1 := ln_ge (oT z + 9)
  have h2 := ln_ge (oT z + 11)
  unfold f_X5_bringNote cl
  rw [at_eq (by omega), Option.bind_some]
  by_cases c : nI sv ≤ ga S (oT z + 11) m
  · rw [if_pos c, if_pos c]
  · rw [if_neg c, if_neg c, put_eq (by omega), Option.bind_some, put_eq (by omega), Option.bind_some]
theorem Cau_pre {H : Hs} {l r : List Nat} (h : Cau H (l ++ r)) : Cau H l := by
  intro a d b e d' hd
  exact h a d (b ++ r) (by rw [e]; simp) d' hd
theorem Cau_last {H : Hs} {l : List Nat} {d : Nat} (h : Cau H (l ++ [d])) {d' : Nat} (hd : dep H d d') : d' ∈ l := h l d [] rfl d' hd
theorem change_ok {S : St} {z d : Nat} {H : Hs} {l : List Nat} (hz : z < 4) (hW : WF H) (hL : Led S H) (hT : TextOK S z H l) (hl : ∀ e ∈ l, e < Hn H) (hc : Cau H (l ++ [d])) (hd : d < Hn H) (hnd : d ∉ l) : OK (f_X5_change S z (nI d)) (fun S1 => TextOK S1 z H (l ++ [d]) ∧ offP (txt z) S S1) := by
  have h90 := hW.1
  obtain ⟨k1, k2, k3, k4⟩ := hW.2.2.2.2.1 d hd
  have hk := (hW.2.1 d hd).1
  have hln7 := ln_ge (oT z + 7)
  have hc0 := Cau_pre hc
  have ins : ∀ e ∈ l ++ [d], e < Hn H := fun e he => by
    rcases List.mem_append.mp he with q | q
    · exact hl e q
    · have : e = d := by simpa using q
      omega
  unfold f_X5_change
  rw [subjectOf_eq hW hL hd, kindOf_eq hW hL hd]
  refine OK_cl (OK_some rfl) ?_
  rintro v5 rfl
  refine OK_cl (OK_some rfl) ?_
  rintro v14 rfl
  have lit : ∀ k : Nat, k < 4 → (nI (dk H d) = nI k ↔ dk H d = k) := fun k hk9 => nI_eq (by omega) (by omega)
  have l0 : (nI (dk H d) = (0 : Int32)) ↔ dk H d = 0 := lit 0 (by omega)
  have l1 : (nI (dk H d) = (1 : Int32)) ↔ dk H d = 1 := lit 1 (by omega)
  have l2 : (nI (dk H d) = (2 : Int32)) ↔ dk H d = 2 := lit 2 (by omega)
  have l3 : (nI (dk H d) = (3 : Int32)) ↔ dk H d = 3 := lit 3 (by omega)
  refine OK_ite (fun c => ?_) (fun c0 => OK_ite (fun c => ?_) (fun c1 => ?_))
  · have h0 := l0.mp c
    have hm := k2 h0
    have hs : subj H d = nI (dl H d) := by unfold subj; rw [if_pos (by omega)]
    rw [hs]
    refine OK_cl (putIn_ok hz hW hL hT k1 (by rw [hm]; exact hnd) (fun hb => ?_)) ?_
    · refine ⟨by have := (hW.2.2.1 _ k1).2.2.2.1; omega, ?_⟩
      exact Cau_last hc (Or.inl ⟨h0, hb, rfl⟩)
    · rintro S1 ⟨o, o1, o2, o3, o4⟩
      rw [hm] at o1
      obtain ⟨-, -, a3, a4⟩ := hT
      have e := oo_eq hW o1
      have hkl : ∀ y, kL H (l ++ [d]) y ↔ kL H l y ∨ y = dl H d := by
        intro y
        unfold kL
        constructor
        · rintro ⟨q1, q2⟩
          rcases List.mem_append.mp q2 with q | q
          · exact Or.inl ⟨q1, q⟩
          · have e1 : mb H y = d := by simpa using q
            have e2 := (hW.2.2.1 y q1).2.2.1
            rw [e1] at e2
            exact Or.inr e2.symm
        · rintro (⟨q1, q2⟩ | rfl)
          · exact ⟨q1, by simp [q2]⟩
          · exact ⟨k1, by simp [hm]⟩
      refine OK_some ⟨⟨by rw [e]; exact o2, by rw [e]; exact o1, fun y hy => ?_, fun m hm9 => ?_⟩, o4.mono (fun j hj => by rcases hj with q | q <;> simp [txt, q])⟩
      · rw [o3, tkn_add, h0]
        simp only [show decide ((0 : Nat) = 1) = false from rfl, Bool.false_and, Bool.or_false]
        by_cases hy9 : y = dl H d
        · rw [hy9, upd_eq]
          refine ⟨fun q => absurd ((hkl _).mpr (Or.inr rfl)) q, fun _ => ?_⟩
          rw [tkn_false hW hl hc0 (by rw [hm]; exact hnd)]
          rfl
        · rw [upd_ne hy9]
          have := a3 y hy
          refine ⟨fun q => this.1 (fun q2 => q ((hkl y).mpr (Or.inl q2))), fun q => this.2 (((hkl y).mp q).resolve_right hy9)⟩
      · rw [kN_add_other hW (by omega), isBest_add_other (Or.inl (by omega)), bst_add_other (Or.inl (by omega)), (o4 (oT z + 9) (by omega)).2, (o4 (oT z + 11) (by omega)).2]
        exact a4 m hm9
  · have h1 := l1.mp c
    have hs : subj H d = nI (dl H d) := by unfold subj; rw [if_pos (by omega)]
    rw [hs, put_eq (by omega)]
    refine OK_cl (OK_some rfl) ?_
    rintro S1 rfl
    obtain ⟨a1, a2, a3, a4⟩ := hT
    have ord : OrdL H (l ++ [d]) (oo H l) := ⟨a2.1, a2.2.1, fun x => (a2.2.2 x).trans (kL_add_other hW (by omega) x).symm⟩
    have e := oo_eq hW ord
    refine OK_some ⟨⟨by rw [e]; exact isV.off a1 off_sa (by omega), by rw [e]; exact ord, fun y hy => ?_, fun m hm9 => ?_⟩, off_sa.P (by simp [txt])⟩
    · rw [kL_add_other hW (by omega), tkn_add, h1, ga_sa_eq]
      by_cases hy9 : y = dl H d
      · rw [hy9, upd_eq]
        refine ⟨fun q => absurd ⟨k1, Cau_last hc (Or.inr (Or.inl ⟨by omega, rfl⟩))⟩ q, fun _ => ?_⟩
        simp
      · rw [upd_ne hy9]
        have e9 : decide (dl H d = y) = false := by simpa using fun q => hy9 q.symm
        rw [e9, Bool.and_false, Bool.or_false]
        exact a3 y hy
    · rw [kN_add_other hW (by omega), isBest_add_other (Or.inl (by omega)), bst_add_other (Or.inl (by omega)), ga_sa, if_neg (by omega), ga_sa, if_neg (by omega)]
      exact a4 m hm9
  · have h2 : 2 ≤ dk H d := by
      have g0 : ¬ dk H d = 0 := fun q => c0 (l0.mpr q)
      have g1 : ¬ dk H d = 1 := fun q => c1 (l1.mpr q)
      omega
    have hm := k3 h2
    have hs : subj H d = nI (dn H d) := by unfold subj; rw [if_neg (by omega)]
    have ht : targ H d = nI (dl H d) := by unfold targ; rw [if_neg (by omega), if_neg (by omega)]
    have goal : OK (cl (f_X1_targetOf S (nI d)) fun v75 => cl (f_X1_stampOf S (nI d)) fun v83 => cl (f_X5_bringNote S z (subj H d) v75 v83) fun S_86 => some S_86) (fun S1 => TextOK S1 z H (l ++ [d]) ∧ offP (txt z) S S1) := by
      rw [targetOf_eq hW hL hd, stampOf_eq hW hL hd, ht, hs]
      refine OK_cl (OK_some rfl) ?_
      rintro v75 rfl
      refine OK_cl (OK_some rfl) ?_
      rintro v83 rfl
      rw [bringNote_eq (by omega)]
      refine OK_cl (OK_some rfl) ?_
      rintro S1 rfl
      refine OK_some ?_
      obtain ⟨a1, a2, a3, a4⟩ := hT
      have hsp := sp_lt hW hd
      have ord : OrdL H (l ++ [d]) (oo H l) := ⟨a2.1, a2.2.1, fun x => (a2.2.2 x).trans (kL_add_other hW (by omega) x).symm⟩
      have e := oo_eq hW ord
      -- the state is S or S with two cells written
      obtain ⟨S1, hS1⟩ : ∃ S1, S1 = if nI (sp H d) ≤ ga S (oT z + 11) (dn H d) then S else sa (sa S (oT z + 9) (dn H d) (nI (dl H d))) (oT z + 11) (dn H d) (nI (sp H d)) := ⟨_, rfl⟩
      rw [← hS1]
      have hoff : offP (fun j => j = oT z + 9 ∨ j = oT z + 11) S S1 := by
        rw [hS1]
        split
        · exact offP.rf
        · exact (off_sa.P (Or.inl rfl)).tr (off_sa.P (Or.inr rfl))
      refine ⟨⟨by rw [e]; exact offP_V hoff (by omega) a1, by rw [e]; exact ord, fun y hy => ?_, fun m hm9 => ?_⟩, hoff.mono (fun j hj => by rcases hj with q | q <;> simp [txt, q])⟩
      · have e1 : decide (dk H d = 1) = false := by simp; omega
        rw [kL_add_other hW (by omega), tkn_add, e1, Bool.false_and, Bool.or_false, (hoff (oT z + 7) (by omega)).2]
        exact a3 y hy
      · by_cases hmd : dn H d = m
        · -- the note itself
          subst hmd
          have hknown : kN H (l ++ [d]) (dn H d) := by
            refine ⟨hm, ?_⟩
            by_cases h3 : dk H d = 2
            · rw [k4 h3]; simp
            · have := Cau_last hc (Or.inr (Or.inr ⟨by omega, rfl⟩))
              simp [this]
          refine ⟨fun q => absurd hknown q, fun _ => ?_⟩
          by_cases hk0 : kN H l (dn H d)
          · obtain ⟨b1, b2, b3⟩ := (a4 _ (by omega)).2 hk0
            have hb := hl _ b1.1.1
            have hsb := sp_lt hW hb
            by_cases hle : sp H d ≤ sp H (bst H l (dn H d))
            · have hS1' : S1 = S := by rw [hS1, b3, if_pos (nI_le hle (by omega))]
              have hB : isBest H (l ++ [d]) (dn H d) (bst H l (dn H d)) := ⟨⟨by simp [b1.1.1], b1.1.2⟩, fun d' hd' q1 q2 => by
                rcases List.mem_append.mp hd' with q | q
                · exact b1.2 d' q q1 q2
                · have e9 : d' = d := by simpa using q
                  rw [e9]; exact hle⟩
              rw [bst_eq hW ins hB, hS1']
              exact ⟨hB, b2, b3⟩
            · have hS1' : S1 = sa (sa S (oT z + 9) (dn H d) (nI (dl H d))) (oT z + 11) (dn H d) (nI (sp H d)) := by
                rw [hS1, b3, if_neg (nI_ge (by omega) (by omega))]
              have hB : isBest H (l ++ [d]) (dn H d) d := ⟨⟨by simp, h2, rfl⟩, fun d' hd' q1 q2 => by
                rcases List.mem_append.mp hd' with q | q
                · have := b1.2 d' q q1 q2; omega
                · have e9 : d' = d := by simpa using q
                  rw [e9]; exact Nat.le_refl _⟩
              rw [bst_eq hW ins hB, hS1']
              refine ⟨hB, ?_, ?_⟩
              · rw [ga_sa, if_neg (by omega), ga_sa_eq, upd_eq]
              · rw [ga_sa_eq, upd_eq]
          · obtain ⟨b2, b3⟩ := (a4 _ (by omega)).1 hk0
            have hS1' : S1 = sa (sa S (oT z + 9) (dn H d) (nI (dl H d))) (oT z + 11) (dn H d) (nI (sp H d)) := by
              rw [hS1, b3, if_neg]
              intro q
              have q2 := nI_neg1_lt (n := sp H d) (by omega)
              rw [Int32.lt_iff_toInt_lt] at q2
              rw [Int32.le_iff_toInt_le] at q
              omega
            have hB : isBest H (l ++ [d]) (dn H d) d := ⟨⟨by simp, h2, rfl⟩, fun d' hd' q1 q2 => by
              rcases List.mem_append.mp hd' with q | q
              · exfalso
                obtain ⟨j1, j2, j3, j4⟩ := hW.2.2.2.2.1 d' (hl d' q)
                apply hk0
                refine ⟨hm, ?_⟩
                by_cases h3 : dk H d' = 2
                · rw [← q2, j4 h3]; exact q
                · obtain ⟨u, v, e9⟩ := List.append_of_mem q
                  have := hc0 u d' v e9 _ (Or.inr (Or.inr ⟨by have := (hW.2.1 d' (hl d' q)).1; omega, rfl⟩))
                  rw [q2] at this
                  rw [e9]
                  simp [this]
              · have e9 : d' = d := by simpa using q
                rw [e9]; exact Nat.le_refl _⟩
            rw [bst_eq hW ins hB, hS1']
            refine ⟨hB, ?_, ?_⟩
            · rw [ga_sa, if_neg (by omega), ga_sa_eq, upd_eq]
            · rw [ga_sa_eq, upd_eq]
        · have hkn : kN H (l ++ [d]) m ↔ kN H l m := by
            unfold kN
            constructor
            · rintro ⟨q1, q2⟩
              refine ⟨q1, ?_⟩
              rcases List.mem_append.mp q2 with q | q
              · exact q
              · have e1 : nb H m = d := by simpa using q
                have := (hW.2.2.2.1 m q1).2.2.1
                rw [e1] at this
                exact absurd this hmd
            · rintro ⟨q1, q2⟩
              exact ⟨q1, by simp [q2]⟩
          have c9 : ga S1 (oT z + 9) m = ga S (oT z + 9) m := by
            rw [hS1]
            split
            · rfl
            · rw [ga_sa, if_neg (by omega), ga_sa_eq, upd_ne (Ne.symm hmd)]
          have c11 : ga S1 (oT z + 11) m = ga S (oT z + 11) m := by
            rw [hS1]
            split
            · rfl
            · rw [ga_sa_eq, upd_ne (Ne.symm hmd), ga_sa, if_neg (by omega)]
          rw [hkn, isBest_add_other (Or.inr hmd), bst_add_other (Or.inr hmd), c9, c11]
          exact a4 m hm9
    refine OK_ite (fun _ => goal) (fun c2 => OK_ite (fun _ => goal) (fun c3 => ?_))
    exfalso
    have g2 : ¬ dk H d = 2 := fun q => c2 (l2.mpr q)
    have g3 : ¬ dk H d = 3 := fun q => c3 (l3.mpr q)
    omega
