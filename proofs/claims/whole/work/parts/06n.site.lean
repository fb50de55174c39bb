/-! A SITE LEARNS -/
def SiteOK (S : St) (z : Nat) (H : Hs) (l : List Nat) : Prop :=
  isV S (oS z + 1) (l.map nI) ∧ (∀ e, e < 90 → (ga S (oS z + 3) e = -1 ↔ e ∉ l)) ∧ TextOK S z H l
theorem SiteOK_offP {P : Nat → Prop} {S S1 : St} {z : Nat} {H : Hs} {l : List Nat} (ho : offP P S S1) (hP : ∀ j, oS z < j → j < oL z → ¬ P j) (h : SiteOK S z H l) : SiteOK S1 z H l := by
  have hzT : oT z = oS z + 5 := rfl
  have hzL : oL z = oS z + 18 := rfl
  obtain ⟨a1, a2, a3⟩ := h
  refine ⟨offP_V ho (hP _ (by omega) (by omega)) a1, ?_, TextOK_offP ho (fun j hj => hP j (by rcases hj with r | r | r | r <;> omega) (by rcases hj with r | r | r | r <;> omega)) a3⟩
  rw [(ho (oS z + 3) (hP _ (by omega) (by omega))).2]
  exact a2
theorem SiteOK_ext {S : St} {z : Nat} {H H2 : Hs} {l : List Nat} (hW : WF H) (hl : ∀ d ∈ l, d < Hn H) (hE : Ext H H2) (h : SiteOK S z H l) : SiteOK S z H2 l := ⟨h.1, h.2.1, TextOK_ext hW hl hE h.2.2⟩
def lrnK (z j : Nat) : Prop := oS z < j ∧ j < oL z
theorem learn_ok {S : St} {z d : Nat} {H : Hs} {l : List Nat} (hz : z < 4) (hW : WF H) (hL : Led S H) (hS : SiteOK S z H l) (hl : ∀ e ∈ l, e < Hn H) (hnl : l.Nodup) (hc : Cau H (l ++ [d])) (hd : d < Hn H) (hnd : d ∉ l) : OK (f_X4_learn S z (nI d)) (fun S1 => SiteOK S1 z H (l ++ [d]) ∧ offP (lrnK z) S S1) := by
  have hzT : oT z = oS z + 5 := rfl
  have hzL : oL z = oS z + 18 := rfl
  have hzS : oS z = 21 + 27 * z := rfl
  have h90 := hW.1
  obtain ⟨a1, a2, a3⟩ := hS
  have hlen : l.length < 90 := by
    have h1 : (d :: l).Nodup := List.nodup_cons.mpr ⟨hnd, hnl⟩
    have := nd_len (b := List.range (Hn H)) h1 (fun x hx => by
      rcases List.mem_cons.mp hx with rfl | q
      · exact List.mem_range.mpr hd
      · exact List.mem_range.mpr (hl x q))
    simp at this
    omega
  unfold f_X4_learn
  rw [size_eq, a1.1]
  refine OK_cl (OK_some rfl) ?_
  rintro v9 rfl
  rw [put_eq (by have := ln_ge (oS z + 3); omega)]
  refine OK_cl (OK_some rfl) ?_
  rintro S2 rfl
  refine OK_cl (add_ok (isV.off a1 off_sa (by omega)) (by have := ln_ge (oS z + 1); simp; omega)) ?_
  rintro S3 ⟨b1, b2⟩
  have hoff : offP (fun j => j = oS z + 1 ∨ j = oS z + 3) S S3 := (off_sa.P (Or.inr rfl)).tr (b2.P (Or.inl rfl))
  have hT3 : TextOK S3 z H l := TextOK_offP hoff (fun j hj q => by rcases hj with r | r | r | r <;> omega) a3
  have hL3 : Led S3 H := Led_offP hoff (fun k hk q => by omega) hL
  refine OK_cl (change_ok hz hW hL3 hT3 hl hc hd hnd) ?_
  rintro S4 ⟨c1, c2⟩
  refine OK_some ⟨⟨?_, ?_, c1⟩, (hoff.mono (fun j hj => ?_)).tr (c2.mono (fun j hj => ?_))⟩
  · have : (l ++ [d]).map nI = l.map nI ++ [nI d] := by simp
    rw [this]
    exact offP_V c2 (fun q => by rcases q with r | r | r | r <;> omega) b1
  · rw [(c2 (oS z + 3) (fun q => by rcases q with r | r | r | r <;> omega)).2, (b2 (oS z + 3) (by omega)).2, ga_sa_eq]
    intro e he
    by_cases hed : e = d
    · rw [hed, upd_eq]
      refine ⟨fun q => absurd q (nI_ne_neg1 (by simp; omega)), fun q => absurd (by simp) q⟩
    · rw [upd_ne hed, a2 e he]
      simp [hed]
  · unfold lrnK; rcases hj with r | r <;> omega
  · unfold lrnK; rcases hj with r | r | r | r <;> omega
def sitK (z j : Nat) : Prop := oS z ≤ j ∧ j < oS z + 27
theorem take_ok {S : St} {z d : Nat} {H : Hs} {l : List Nat} (hz : z < 4) (hW : WF H) (hL : Led S H) (hS : SiteOK S z H l) (hl : ∀ e ∈ l, e < Hn H) (hnl : l.Nodup) (hc : Cau H (l ++ [d])) (hd : d < Hn H) (hnd : d ∉ l) : OK (f_X4_take S z (nI d)) (fun S1 => SiteOK S1 z H (l ++ [d]) ∧ LayOK S1 z H (l ++ [d]) ∧ offP (fun j => oS z < j ∧ j < oS z + 27) S S1) := by
  have hzT : oT z = oS z + 5 := rfl
  have hzL : oL z = oS z + 18 := rfl
  have hzS : oS z = 21 + 27 * z := rfl
  unfold f_X4_take
  refine OK_cl (learn_ok hz hW hL hS hl hnl hc hd hnd) ?_
  rintro S1 ⟨a1, a2⟩
  have hL1 : Led S1 H := Led_offP a2 (fun k hk q => by unfold lrnK at q; omega) hL
  refine OK_cl (layAnew_ok hz hW hL1 a1.2.2 (fun e he => ?_) hc) ?_
  · rcases List.mem_append.mp he with q | q
    · exact hl e q
    · have : e = d := by simpa using q
      omega
  · rintro S2 ⟨b1, b2⟩
    refine OK_some ⟨SiteOK_offP b2 (fun j h1 h2 q => by unfold layK at q; omega) a1, b1, (a2.mono (fun j hj => ?_)).tr (b2.mono (fun j hj => ?_))⟩
    · unfold lrnK at hj; omega
    · unfold layK at hj; omega
theorem Cau_snoc {H : Hs} {l : List Nat} {d : Nat} (h : Cau H l) (hd : ∀ d', dep H d d' → d' ∈ l) : Cau H (l ++ [d]) := by
  intro a x b e d' hx
  rcases List.eq_nil_or_concat b with hb | ⟨b', y, hb⟩
  · subst hb
    have e2 : l = a ∧ [d] = [x] := List.append_inj' e rfl
    obtain ⟨rfl, e3⟩ := e2
    have : d = x := by simpa using e3
    subst this
    exact hd d' hx
  · subst hb
    rw [List.concat_eq_append, ← List.cons_append, ← List.append_assoc] at e
    obtain ⟨e1, -⟩ := List.append_inj' e rfl
    exact h a x b' e1 d' hx
theorem filter_snoc {g l : List Nat} {t d : Nat} (h : g[t]? = some d) : (g.take (t + 1)).filter (fun x => decide (x ∉ l)) = (g.take t).filter (fun x => decide (x ∉ l)) ++ (if d ∈ l then [] else [d]) := by
  have e : g.take (t + 1) = g.take t ++ [d] := by rw [List.take_succ, h]; rfl
  rw [e, List.filter_append]
  congr 1
  by_cases q : d ∈ l
  · rw [if_pos q]; simp [q]
  · rw [if_neg q]; simp [q]
theorem takeAll_ok {S : St} {z z1 : Nat} {H : Hs} {l g : List Nat} {cz cg : Nat} (hz : z < 4) (hz1 : z1 < 4) (hW : WF H) (hL : Led S H) (hS : SiteOK S z H l) (hg : isV S (oS z1 + 1) (g.map nI)) (hsame : z1 = z → g = l) (hl : ∀ e ∈ l, e < Hn H) (hnl : l.Nodup) (hgl : ∀ e ∈ g, e < Hn H) (hng : g.Nodup) (hcl : Cau H l) (hcg : Cau H g) (hcz : gi S (oS z) = nI cz) (hcg1 : gi S (oS z1) = nI cg) (hcz9 : cz < 1000) (hcg9 : cg < 1000) :
    OK (f_X4_takeAllOf S z z1) (fun q => q.1 = nI ((g.filter (fun x => decide (x ∉ l))).length) ∧ SiteOK q.2 z H (l ++ g.filter (fun x => decide (x ∉ l))) ∧ LayOK q.2 z H (l ++ g.filter (fun x => decide (x ∉ l))) ∧ Cau H (l ++ g.filter (fun x => decide (x ∉ l))) ∧ gi q.2 (oS z) = nI (max cz cg) ∧ offP (sitK z) S q.2) := by
  have hzT : oT z = oS z + 5 := rfl
  have hzL : oL z = oS z + 18 := rfl
  have hzS : oS z = 21 + 27 * z := rfl
  have hzS1 : oS z1 = 21 + 27 * z1 := rfl
  have h90 := hW.1
  have hglen : g.length ≤ 90 := by
    have := nd_len (b := List.range (Hn H)) hng (fun x hx => List.mem_range.mpr (hgl x hx))
    simp at this
    omega
  obtain ⟨F, hF⟩ : ∃ F : Nat → List Nat, F = fun t => (g.take t).filter (fun x => decide (x ∉ l)) := ⟨_, rfl⟩
  have hFt : ∀ t d, g[t]? = some d → F (t + 1) = F t ++ (if d ∈ l then [] else [d]) := by
    intro t d h
    rw [hF]
    exact filter_snoc h
  have hFm : ∀ t x, x ∈ F t → x ∈ g ∧ x ∉ l := by
    intro t x hx
    rw [hF] at hx
    obtain ⟨h1, h2⟩ := List.mem_filter.mp hx
    exact ⟨List.mem_of_mem_take h1, by simpa using h2⟩
  have hFn : ∀ t, (F t).Nodup := fun t => by
    rw [hF]
    exact (hng.sublist (List.take_sublist _ _)).sublist List.filter_sublist
  have hnod : ∀ t, (l ++ F t).Nodup := fun t => List.nodup_append.mpr ⟨hnl, hFn t, fun a ha b hb e => (hFm t b hb).2 (e ▸ ha)⟩
  have hlt : ∀ t, ∀ e ∈ l ++ F t, e < Hn H := fun t e he => by
    rcases List.mem_append.mp he with q | q
    · exact hl e q
    · exact hgl e (hFm t e q).1
  unfold f_X4_takeAllOf
  rw [size_eq, hS.1.1]
  refine OK_cl (OK_some rfl) ?_
  rintro v4 rfl
  refine Lp2_ok (fun y S2 => ∃ t, y = nI t ∧ t ≤ g.length ∧ SiteOK S2 z H (l ++ F t) ∧ Cau H (l ++ F t) ∧ offP (lrnK z) S S2) (fun y _ => 90 - y.toNatClampNeg) ?_ FU _ _ ⟨0, rfl, Nat.zero_le _, by rw [hF]; simpa using hS, by rw [hF]; simpa using hcl, offP.rf⟩ (by rw [FU_1000]; omega)
  rintro next y S2 ⟨t, rfl, k1, k2, k3, k4⟩ hn
  have hL2 : Led S2 H := Led_offP k4 (fun k hk q => by unfold lrnK at q; omega) hL
  have hg2 : isV S2 (oS z1 + 1) (g.map nI) := by
    by_cases e : z1 = z
    · have e1 := hsame e
      have e2 : F t = [] := by
        rw [List.eq_nil_iff_forall_not_mem]
        intro x hx
        obtain ⟨q1, q2⟩ := hFm t x hx
        rw [e1] at q1
        exact q2 q1
      have := k2.1
      rw [e2, List.append_nil] at this
      rw [e, e1]
      exact this
    · exact offP_V k4 (fun q => by unfold lrnK at q; omega) hg
  rw [size_eq, hg2.1, List.length_map]
  refine OK_cl (OK_some rfl) ?_
  rintro v15 rfl
  refine OK_ite (fun c => ?_) (fun c => ?_)
  · have ht : t = g.length := by
      have := (nI_leI (by omega) (by omega)).mp c
      omega
    have hFg : F t = g.filter (fun x => decide (x ∉ l)) := by rw [hF, ht]; dsimp only; rw [List.take_length]
    refine OK_lt ?_
    have e1 : gi S2 (oS z) = nI cz := by rw [(k4 (oS z) (fun q => by unfold lrnK at q; omega)).1]; exact hcz
    have e2 : gi S2 (oS z1) = nI cg := by
      rw [(k4 (oS z1) (fun q => by unfold lrnK at q; omega)).1]; exact hcg1
    have emax : (if gi S2 (oS z) < gi S2 (oS z1) then gi S2 (oS z1) else gi S2 (oS z)) = nI (max cz cg) := by
      rw [e1, e2]
      by_cases q : cz < cg
      · rw [if_pos (nI_lt q (by omega)), Nat.max_eq_right (by omega)]
      · rw [if_neg (nI_nlt (by omega) (by omega)), Nat.max_eq_left (by omega)]
    rw [emax]
    have hk5 : SiteOK (si S2 (oS z) (nI (max cz cg))) z H (l ++ F t) := SiteOK_offP (off_si.P (P := fun j => j = oS z) rfl) (fun j h1 h2 q => by omega) k2
    have hL5 : Led (si S2 (oS z) (nI (max cz cg))) H := Led_offP (off_si.P (P := fun j => j = oS z) rfl) (fun k hk q => by omega) hL2
    refine OK_cl (layAnew_ok hz hW hL5 hk5.2.2 (hlt t) k3) ?_
    rintro S3 ⟨b1, b2⟩
    have hk6 : SiteOK S3 z H (l ++ F t) := SiteOK_offP b2 (fun j h1 h2 q => by unfold layK at q; omega) hk5
    rw [size_eq, hk6.1.1]
    refine OK_cl (OK_some rfl) ?_
    rintro v82 rfl
    rw [hFg] at hk6 b1 k3 ⊢
    refine OK_some ⟨?_, hk6, b1, k3, ?_, ?_⟩
    · show nI _ - nI _ = _
      simp only [List.length_map, List.length_append]
      rw [nI_sub (by omega), Nat.add_sub_cancel_left]
    · show gi S3 (oS z) = _
      rw [(b2 (oS z) (fun q => by unfold layK at q; omega)).1, gi_si_eq]
    · refine ((k4.mono (fun j hj => ?_)).tr (off_si.P ?_)).tr (b2.mono (fun j hj => ?_))
      · unfold lrnK at hj; unfold sitK; omega
      · unfold sitK; omega
      · unfold layK at hj; unfold sitK; omega
  · have ht : t < g.length := by
      rcases Nat.lt_or_ge t g.length with q | q
      · exact q
      · exact absurd (nI_le q (by omega)) c
    have hgt : g[t]? = some g[t] := List.getElem?_eq_getElem ht
    obtain ⟨d, hd⟩ : ∃ d, d = g[t] := ⟨_, rfl⟩
    rw [← hd] at hgt
    have hdg : d ∈ g := List.mem_of_getElem? hgt
    have hdn := hgl d hdg
    rw [at_eq (by have := ln_ge (oS z1 + 1); omega), isV_at hg2 (by rw [List.getElem?_map, hgt]; rfl)]
    refine OK_cl (OK_some rfl) ?_
    rintro v26 rfl
    rw [at_eq (by have := ln_ge (oS z + 3); omega)]
    refine OK_cl (OK_some rfl) ?_
    rintro v37 rfl
    refine OK_jn ?_
    have hdF : d ∉ F t := by
      intro q
      rw [hF] at q
      have q1 := (List.mem_filter.mp q).1
      obtain ⟨i, hi, e⟩ := List.mem_iff_getElem.mp q1
      rw [List.getElem_take] at e
      rw [List.length_take] at hi
      have := nd_inj hng (by omega) ht (e.trans hd)
      omega
    by_cases hdl : d ∈ l
    · have : ¬ ga S2 (oS z + 3) d = -1 := fun q => ((k2.2.1 d (by omega)).mp q) (by simp [hdl])
      refine OK_pos this (OK_lt ?_)
      rw [nI_1]
      have e : F (t + 1) = F t := by rw [hFt t d hgt, if_pos hdl, List.append_nil]
      exact hn _ _ ⟨t + 1, rfl, ht, by rw [e]; exact k2, by rw [e]; exact k3, k4⟩ (by rw [nI_clamp (by omega), nI_clamp (by omega)]; omega)
    · have hnd : d ∉ l ++ F t := by
        intro q
        rcases List.mem_append.mp q with q | q
        · exact hdl q
        · exact hdF q
      have : ga S2 (oS z + 3) d = -1 := (k2.2.1 d (by omega)).mpr hnd
      refine OK_neg (fun q => q this) ?_
      have e : F (t + 1) = F t ++ [d] := by rw [hFt t d hgt, if_neg hdl]
      have hc9 : Cau H (l ++ F t ++ [d]) := by
        refine Cau_snoc k3 (fun d' hd' => ?_)
        have hsp : g = g.take t ++ d :: g.drop (t + 1) := by
          rw [hd, List.getElem_cons_drop, List.take_append_drop]
        have h1 := hcg _ d _ hsp d' hd'
        by_cases q : d' ∈ l
        · exact List.mem_append_left _ q
        · refine List.mem_append_right _ ?_
          rw [hF]
          exact List.mem_filter.mpr ⟨h1, by simpa using q⟩
      refine OK_cl (learn_ok hz hW hL2 k2 (hlt t) (hnod t) hc9 hdn hnd) ?_
      rintro S3 ⟨b1, b2⟩
      refine OK_lt ?_
      rw [nI_1]
      exact hn _ _ ⟨t + 1, rfl, ht, by rw [e, ← List.append_assoc]; exact b1, by rw [e, ← List.append_assoc]; exact hc9, k4.tr b2⟩ (by rw [nI_clamp (by omega), nI_clamp (by omega)]; omega)
