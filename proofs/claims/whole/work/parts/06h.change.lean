/-! A SITE'S TEXT LEARNS A DEED -/
theorem nd_len : ∀ {a b : List Nat}, a.Nodup → (∀ x ∈ a, x ∈ b) → a.length ≤ b.length := by
  intro a
  induction a with
  | nil => intro b _ _; exact Nat.zero_le _
  | cons x t ih =>
    intro b hn h
    obtain ⟨u, v, e⟩ := List.append_of_mem (h x (by simp))
    subst e
    obtain ⟨n1, n2⟩ := List.nodup_cons.mp hn
    have := ih (b := u ++ v) n2 (fun y hy => by
      have h1 := h y (by simp [hy])
      rcases List.mem_append.mp h1 with q | q
      · simp [q]
      · rcases List.mem_cons.mp q with rfl | q
        · exact absurd hy n1
        · simp [q])
    simp at this ⊢
    omega
theorem nd_inj {o : List Nat} (hn : o.Nodup) {i j : Nat} (hi : i < o.length) (hj : j < o.length) (h : o[i] = o[j]) : i = j := by
  have hp := List.pairwise_iff_getElem.mp hn
  rcases Nat.lt_trichotomy i j with q | q | q
  · exact absurd h (hp i j hi hj q)
  · exact q
  · exact absurd h.symm (hp j i hj hi q)
theorem insertIdx_split (o : List Nat) (p x : Nat) (hp : p ≤ o.length) : o.insertIdx p x = o.take p ++ x :: o.drop p := by
  induction o generalizing p with
  | nil => have : p = 0 := by simpa using hp
           subst this; rfl
  | cons a o ih =>
    cases p with
    | zero => rfl
    | succ p => simp at hp; simp [List.insertIdx_succ_cons, ih p hp]
theorem map_insertIdx' (o : List Nat) (p x : Nat) : (o.map nI).insertIdx p (nI x) = (o.insertIdx p x).map nI := by
  induction o generalizing p with
  | nil => cases p <;> simp
  | cons a o ih =>
    cases p with
    | zero => simp
    | succ p => simp [List.insertIdx_succ_cons, ih p]
theorem plc_nI {o : List Nat} {x : Nat} (ho : ∀ y ∈ o, y < 2 ^ 31) (hx : x < 2 ^ 31) (hn : o.Nodup) : (x ∉ o → plc (o.map nI) (nI x) = -1) ∧ (∀ i, o[i]? = some x → plc (o.map nI) (nI x) = nI i) := by
  constructor
  · intro h
    unfold plc
    rw [List.findIdx?_eq_none_iff.mpr]
    intro w hw
    obtain ⟨y, hy, rfl⟩ := List.mem_map.mp hw
    have : ¬ nI y = nI x := fun e => h (nI_inj (ho y hy) hx e ▸ hy)
    simpa using this
  · intro i hi
    obtain ⟨hi1, hi2⟩ := List.getElem?_eq_some_iff.mp hi
    unfold plc
    rw [List.findIdx?_eq_some_iff_getElem.mpr ⟨by simpa using hi1, ?_, ?_⟩]
    · simp [hi2]
    · intro j hj
      have hj1 : j < o.length := by omega
      have : ¬ nI (o[j]'hj1) = nI x := by
        intro e
        have e2 := nI_inj (ho _ (List.getElem_mem _)) hx e
        have := nd_inj hn hj1 hi1 (e2.trans hi2.symm)
        omega
      simpa using this
theorem plc_m1 {o : List Nat} (ho : ∀ y ∈ o, y < 2 ^ 31) : plc (o.map nI) (-1) = -1 := by
  unfold plc
  rw [List.findIdx?_eq_none_iff.mpr]
  intro w hw
  obtain ⟨y, hy, rfl⟩ := List.mem_map.mp hw
  simpa using nI_ne_neg1 (ho y hy)
/-- behind which place a line goes, and from where the greater ones are passed -/
theorem plc_par {H : Hs} {o : List Nat} {x : Nat} (hW : WF H) (hx : x < HL H) (hG : o.Nodup) (ho : ∀ y ∈ o, y < HL H) (hb : 0 < bh H x → bh H x - 1 ∈ o) :
    ∃ p, plc (o.map nI) (nI (bh H x) - 1) + 1 = nI p ∧ p ≤ o.length ∧ nsl (sl H) x (o.take p) = par H x := by
  have h90 : HL H ≤ 90 := by have := hW.1; omega
  have ho' : ∀ y ∈ o, y < 2 ^ 31 := fun y hy => by have := ho y hy; omega
  have hbx := (hW.2.2.1 x hx).2.2.2.1
  by_cases h0 : bh H x = 0
  · refine ⟨0, ?_, Nat.zero_le _, ?_⟩
    · rw [h0, show nI 0 - 1 = (-1 : Int32) by decide, plc_m1 ho', nI_neg1_add1]
    · simp [nsl, par, h0]
  · have hb := hb (by omega)
    obtain ⟨i, hi1, hi2⟩ := List.mem_iff_getElem.mp hb
    refine ⟨i + 1, ?_, by omega, ?_⟩
    · rw [nI_sub1 (by omega), (plc_nI ho' (by omega) hG).2 i (by rw [List.getElem?_eq_getElem hi1, hi2]), nI_1]
    · unfold nsl par
      rw [if_neg h0, List.take_succ, List.getElem?_eq_getElem hi1, hi2, List.filter_append]
      have h1 := hW.2.2.2.2.2.2.1 x hx (by omega)
      simp [h1]
theorem nsl_skip {st : Nat → Nat} {x : Nat} {a b : List Nat} (h : ∀ y ∈ b, ¬ st y < st x) : nsl st x (a ++ b) = nsl st x a := by
  unfold nsl
  have e : b.filter (fun y => decide (st y < st x)) = [] := List.filter_eq_nil_iff.mpr (by simpa using h)
  rw [List.filter_append, e, List.append_nil]
theorem putIn_ok {S : St} {z x : Nat} {H : Hs} {l : List Nat} (hz : z < 4) (hW : WF H) (hL : Led S H) (hT : TextOK S z H l) (hx : x < HL H) (hxl : ¬ mb H x ∈ l) (hb : 0 < bh H x → kL H l (bh H x - 1)) :
    OK (f_X5_putIn S z (nI x)) (fun S1 => ∃ o, OrdL H (l ++ [mb H x]) o ∧ isV S1 (oT z + 1) (o.map nI) ∧ ga S1 (oT z + 7) = upd (ga S (oT z + 7)) x 1 ∧ offP (fun j => j = oT z + 1 ∨ j = oT z + 7) S S1) := by
  obtain ⟨a1, a2, -, -⟩ := hT
  obtain ⟨g1, g2, g3⟩ := a2
  have h90 : HL H ≤ 90 := by have := hW.1; omega
  have ho : ∀ y ∈ oo H l, y < HL H := fun y hy => ((g3 y).mp hy).1
  have hxo : x ∉ oo H l := fun h => hxl ((g3 x).mp h).2
  have hlen : (oo H l).length < 90 := by
    have h1 : (x :: oo H l).Nodup := List.nodup_cons.mpr ⟨hxo, g2⟩
    have h2 : (x :: oo H l).length ≤ (List.range (HL H)).length := by
      refine nd_len h1 (fun y hy => ?_)
      rcases List.mem_cons.mp hy with rfl | hy
      · exact List.mem_range.mpr hx
      · exact List.mem_range.mpr (ho y hy)
    simp at h2
    omega
  obtain ⟨p0, hp1, hp2, hp3⟩ := plc_par hW hx g2 ho (fun h => (g3 _).mpr (hb h))
  have hln := ln_ge (oT z + 1)
  have hln7 := ln_ge (oT z + 7)
  unfold f_X5_putIn
  rw [stampOfLine_eq hW hL hx, behindOf_eq hW hL hx]
  refine OK_cl (OK_some rfl) ?_
  rintro v5 rfl
  refine OK_cl (OK_some rfl) ?_
  rintro v18 rfl
  rw [placeOf_eq _ a1 (by simp; omega)]
  refine OK_cl (OK_some rfl) ?_
  rintro v21 rfl
  refine OK_lt ?_
  rw [hp1]
  refine Lp1_ok (fun y => ∃ p, y = nI p ∧ p ≤ (oo H l).length ∧ nsl (sl H) x ((oo H l).take p) = par H x) (fun y => 90 - y.toNatClampNeg) ?_ FU _ ⟨p0, rfl, hp2, hp3⟩ (by rw [FU_1000]; omega)
  rintro next y ⟨p, rfl, h1, h2⟩ hn
  rw [size_eq]
  refine OK_cl (OK_some rfl) ?_
  rintro v32 rfl
  refine OK_jn ?_
  rw [a1.1, List.length_map]
  have fin : (∀ w r', (oo H l).drop p = w :: r' → sl H w < sl H x) → OK (cl (f_X2_putBetween S (oT z + 1) (nI p) (nI x)) fun S_69 => cl (f_X2_put S_69 (oT z + 7) (nI x) 1) fun S_78 => some S_78) (fun S1 => ∃ o, OrdL H (l ++ [mb H x]) o ∧ isV S1 (oT z + 1) (o.map nI) ∧ ga S1 (oT z + 7) = upd (ga S (oT z + 7)) x 1 ∧ offP (fun j => j = oT z + 1 ∨ j = oT z + 7) S S1) := by
    intro hdrop
    refine OK_cl (putBetween_ok a1 (by simpa using h1) (by simp; omega)) ?_
    rintro S2 ⟨k1, k2⟩
    rw [put_eq (by omega)]
    refine OK_cl (OK_some rfl) ?_
    rintro S3 rfl
    refine OK_some ⟨(oo H l).insertIdx p x, ⟨?_, ?_, fun y => ?_⟩, ?_, ?_, ?_⟩
    · rw [insertIdx_split _ _ _ h1]
      exact Good_insert (by rw [List.take_append_drop]; exact g1) h2 hdrop
    · rw [insertIdx_split _ _ _ h1]
      have e : ((oo H l).take p ++ x :: (oo H l).drop p).Perm (x :: oo H l) := by
        refine List.perm_middle.trans ?_
        rw [List.take_append_drop]
      exact e.nodup_iff.mpr (List.nodup_cons.mpr ⟨hxo, g2⟩)
    · rw [List.mem_insertIdx h1, g3 y]
      unfold kL
      constructor
      · rintro (rfl | ⟨q1, q2⟩)
        · exact ⟨hx, by simp⟩
        · exact ⟨q1, by simp [q2]⟩
      · rintro ⟨q1, q2⟩
        rcases List.mem_append.mp q2 with q | q
        · exact Or.inr ⟨q1, q⟩
        · have e : mb H y = mb H x := by simpa using q
          have e1 := (hW.2.2.1 y q1).2.2.1
          have e2 := (hW.2.2.1 x hx).2.2.1
          rw [e] at e1
          exact Or.inl (e1.symm.trans e2)
    · rw [map_insertIdx'] at k1
      exact isV.off k1 off_sa (by omega)
    · rw [ga_sa_eq, (k2 (oT z + 7) (by omega)).2]
    · exact (k2.P (Or.inl rfl)).tr (off_sa.P (Or.inr rfl))
  refine OK_ite (fun c => ?_) (fun c => ?_)
  · refine fin (fun w r' hw => ?_)
    have hp : p = (oo H l).length := by
      have := (nI_leI (by omega) (by omega)).mp c
      omega
    rw [hp, List.drop_length] at hw
    cases hw
  · have hp : p < (oo H l).length := by
      rcases Nat.lt_or_ge p (oo H l).length with q | q
      · exact q
      · exact absurd (nI_le q (by omega)) c
    have hw := isV_at a1 (i := p) (v := nI ((oo H l)[p]'hp)) (by rw [List.getElem?_map, List.getElem?_eq_getElem hp]; rfl)
    have hy := ho _ (List.getElem_mem hp)
    rw [at_eq (by omega), hw]
    refine OK_cl (OK_some rfl) ?_
    rintro v47 rfl
    rw [stampOfLine_eq hW hL hy]
    refine OK_cl (OK_some rfl) ?_
    rintro v50 rfl
    have s1 := sp_lt hW (hW.2.2.1 x hx).1
    have s2 := sp_lt hW (hW.2.2.1 _ hy).1
    change sl H x < 400 at s1
    change sl H _ < 400 at s2
    refine OK_ite (fun c1 => ?_) (fun c1 => ?_)
    · refine fin (fun w r' hw9 => ?_)
      rw [List.drop_eq_getElem_cons hp] at hw9
      injection hw9 with e1 e2
      rw [← e1]
      have h3 := (nI_leI (by omega) (by omega)).mp c1
      rcases Nat.lt_or_ge (sl H ((oo H l)[p]'hp)) (sl H x) with q | q
      · exact q
      · exfalso
        have := sl_inj hW hy hx (by omega)
        exact hxo (this ▸ List.getElem_mem hp)
    · refine OK_lt ?_
      rw [nI_1]
      refine hn _ ⟨p + 1, rfl, hp, ?_⟩ (by rw [nI_clamp (by omega), nI_clamp (by omega)]; omega)
      rw [List.take_succ, List.getElem?_eq_getElem hp, ← h2]
      refine nsl_skip (fun y hy9 => ?_)
      have e : y = (oo H l)[p]'hp := by simpa using hy9
      rw [e]
      intro h3
      exact c1 (nI_le (Nat.le_of_lt h3) (by omega))
