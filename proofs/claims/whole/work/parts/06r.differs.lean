/-! WHAT A PRINTED PAGE DIFFERS BY -/
noncomputable def cmN (H : Hs) (l : List Nat) (old : List (Nat × Nat)) (p : Nat) : Nat := ((pgL H l p).filter (fun q => decide (q ∈ old))).length
noncomputable def dfN (H : Hs) (l : List Nat) (P : List (List (Nat × Nat))) (p : Nat) : Nat := ((P[p]?).getD []).length + (pgL H l p).length - 2 * cmN H l ((P[p]?).getD []) p
noncomputable def spN (H : Hs) (l : List Nat) (P : List (List (Nat × Nat))) (p : Nat) : Nat := if dfN H l P p = 0 then 0 else 1 + dfN H l P p
noncomputable def biN (H : Hs) (l : List Nat) (P : List (List (Nat × Nat))) : Nat → Nat
  | 0 => 0
  | s + 1 => biN H l P s + min 10 (spN H l P (2 * s) + spN H l P (2 * s + 1))
theorem nd_len2 : ∀ {a b : List (Nat × Nat)}, a.Nodup → (∀ x ∈ a, x ∈ b) → a.length ≤ b.length := by
  intro a
  induction a with
  | nil => intro b _ _; exact Nat.zero_le _
  | cons x t ih =>
    intro b hn h
    obtain ⟨u, v, e⟩ := List.append_of_mem (h x (by simp))
    subst e
    obtain ⟨n1, n2⟩ := List.nodup_cons.mp hn
    have := ih (b := u ++ v) n2 (fun y hy => by
      have h1 := h y (by simp [hy])
      rcases List.mem_append.mp h1 with q | q
      · simp [q]
      · rcases List.mem_cons.mp q with rfl | q
        · exact absurd hy n1
        · simp [q])
    simp at this ⊢
    omega
section DIFFERS
variable {S : St} {H : Hs} {l : List Nat} {P : List (List (Nat × Nat))}
theorem cmN_le (hW : WF H) (hO : OrdL H l (oo H l)) {old : List (Nat × Nat)} {p : Nat} : cmN H l old p ≤ (pgL H l p).length ∧ cmN H l old p ≤ old.length := by
  unfold cmN
  refine ⟨List.length_filter_le _ _, nd_len2 ((pgL_ok hW hO p).2.1.sublist List.filter_sublist) (fun x hx => ?_)⟩
  simpa using (List.mem_filter.mp hx).2
theorem isPrinted_eq (hP : PressK S P) (hPW : PW P) {p x r : Nat} {old : List (Nat × Nat)} (hp : P[p]? = some old) (hx : x < 90) (hr : r ≤ 6) : f_X3_isPrinted S (nI p) (nI x) (nI r) = some (if (x, r) ∈ old then 1 else 0) := by
  have hp9 := (List.getElem?_eq_some_iff.mp hp).1
  obtain ⟨-, w2, w3⟩ := hPW
  have ho := w3 old (List.mem_of_getElem? hp)
  suffices h9 : OK (f_X3_isPrinted S (nI p) (nI x) (nI r)) (fun v => v = if (x, r) ∈ old then 1 else 0) by
    obtain ⟨v, h1, rfl⟩ := h9
    exact h1
  unfold f_X3_isPrinted
  refine Lp1_ok (fun y => ∃ t, y = nI t ∧ t ≤ old.length ∧ ∀ i, i < t → old[i]? ≠ some (x, r)) (fun y => 90 - y.toNatClampNeg) ?_ FU _ ⟨0, rfl, Nat.zero_le _, fun i h => by omega⟩ (by rw [FU_1000]; omega)
  rintro next y ⟨t, rfl, k1, k2⟩ hn
  rw [at_eq (by have := ln_ge 130; omega), isV_at hP.1 (i := p) (v := nI old.length) (by rw [List.getElem?_map, hp]; rfl)]
  refine OK_cl (OK_some rfl) ?_
  rintro v10 rfl
  refine OK_ite (fun c => ?_) (fun c => ?_)
  · have ht : t = old.length := by
      have := (nI_leI (by omega) (by omega)).mp c
      omega
    refine OK_some ?_
    rw [if_neg]
    intro hm
    obtain ⟨i, hi, e⟩ := List.mem_iff_getElem.mp hm
    exact k2 i (by omega) (by rw [List.getElem?_eq_getElem hi, e])
  · have ht : t < old.length := by
      rcases Nat.lt_or_ge t old.length with q | q
      · exact q
      · exact absurd (nI_le q (by omega)) c
    obtain ⟨q, hq⟩ : ∃ q, q = old[t] := ⟨_, rfl⟩
    have hqt : old[t]? = some q := by rw [hq]; exact List.getElem?_eq_getElem ht
    obtain ⟨m1, m2⟩ := hP.2 p old hp t q hqt
    obtain ⟨q1, q2⟩ := ho.2.2 q (List.mem_of_getElem? hqt)
    have e6 : nI p * (6 : Int32) + nI t = nI (6 * p + t) := by
      show nI p * nI 6 + nI t = _
      rw [nI_mul, nI_add, Nat.mul_comm]
    refine OK_lt ?_
    rw [e6, at_eq (by rw [ln_132]; omega), m1]
    refine OK_cl (OK_some rfl) ?_
    rintro v31 rfl
    refine OK_jn ?_
    have step : q ≠ (x, r) → OK (lt (nI t + 1) fun x4_53 => next x4_53) (fun v => v = if (x, r) ∈ old then 1 else 0) := by
      intro hne
      refine OK_lt ?_
      rw [nI_1]
      refine hn _ ⟨t + 1, rfl, ht, fun i hi => ?_⟩ (by rw [nI_clamp (by omega), nI_clamp (by omega)]; omega)
      rcases Nat.lt_or_ge i t with g | g
      · exact k2 i g
      · have : i = t := by omega
        rw [this, hqt]
        intro e
        injection e with e
        exact hne e
    refine OK_ite (fun c1 => ?_) (fun c1 => ?_)
    · exact step (fun e => c1 (by rw [e]))
    · rw [at_eq (by rw [ln_134]; omega), m2]
      refine OK_cl (OK_some rfl) ?_
      rintro v44 rfl
      refine OK_ite (fun c2 => ?_) (fun c2 => ?_)
      · exact step (fun e => c2 (by rw [e]))
      · have e1 : q.1 = x := nI_inj (by omega) (by omega) (Decidable.byContradiction c1)
        have e2 : q.2 = r := nI_inj (by omega) (by omega) (Decidable.byContradiction c2)
        refine OK_some ?_
        rw [if_pos]
        have : q = (x, r) := by rw [← e1, ← e2]
        rw [← this]
        exact List.mem_of_getElem? hqt
theorem difference_eq (hW : WF H) (hO : OrdL H l (oo H l)) (hL : LayOK S 0 H l) (hP : PressK S P) (hPW : PW P) {p : Nat} (hp : p < P.length) : f_X3_difference S (nI p) = some (nI (dfN H l P p)) := by
  obtain ⟨old, hold⟩ : ∃ old, old = P[p] := ⟨_, rfl⟩
  have hpo : P[p]? = some old := by rw [hold]; exact List.getElem?_eq_getElem hp
  have hp9 := hPW.2.1
  have ho := hPW.2.2 old (List.mem_of_getElem? hpo)
  have hsz := szP_le hW hO
  have h1 : stP H l (p + 1) ≤ szP H l := stP_le (p + 1)
  have h6 := stP_six (H := H) (l := l) p
  have hm := stP_mono1 (H := H) (l := l) p
  have hpl := pgL_len (H := H) (l := l) p
  suffices h9 : OK (f_X3_difference S (nI p)) (fun v => v = nI (dfN H l P p)) by
    obtain ⟨v, h1, rfl⟩ := h9
    exact h1
  unfold f_X3_difference
  rw [startOf_eq hW hO hL (by omega)]
  refine OK_cl (OK_some rfl) ?_
  rintro v5 rfl
  rw [nI_1, startOf_eq hW hO hL (by omega)]
  refine OK_cl (OK_some rfl) ?_
  rintro v16 rfl
  refine Lp2_ok (fun c y => ∃ t n, c = nI n ∧ y = nI (stP H l p + t) ∧ stP H l p + t ≤ stP H l (p + 1) ∧ n = (((pgL H l p).take t).filter (fun q => decide (q ∈ old))).length) (fun _ y => 200 - y.toNatClampNeg) ?_ FU _ _ ⟨0, 0, rfl, rfl, by omega, by simp⟩ (by rw [FU_1000]; omega)
  rintro next c y ⟨t, n, rfl, rfl, k1, k2⟩ hn
  refine OK_ite (fun c => ?_) (fun c => ?_)
  · have ht : t = (pgL H l p).length := by
      have := (nI_leI (by omega) (by omega)).mp c
      omega
    have hcm : n = cmN H l old p := by rw [k2, ht, List.take_length]; rfl
    obtain ⟨c1, c2⟩ := cmN_le (H := H) (l := l) hW hO (old := old) (p := p)
    rw [at_eq (by have := ln_ge 130; omega), isV_at hP.1 (i := p) (v := nI old.length) (by rw [List.getElem?_map, hpo]; rfl)]
    refine OK_cl (OK_some rfl) ?_
    rintro v72 rfl
    refine OK_some ?_
    show nI old.length - nI n + nI (stP H l (p + 1)) - nI (stP H l p) - nI n = _
    rw [nI_sub (by omega), nI_add, nI_sub (by omega), nI_sub (by omega)]
    unfold dfN
    rw [hpo]
    congr 1
    show _ = old.length + (pgL H l p).length - 2 * cmN H l old p
    omega
  · have ht : stP H l p + t < stP H l (p + 1) := by
      rcases Nat.lt_or_ge (stP H l p + t) (stP H l (p + 1)) with q | q
      · exact q
      · exact absurd (nI_le q (by omega)) c
    obtain ⟨hk, hat⟩ := pgL_at (H := H) (l := l) (p := p) (i := t) (by omega)
    have hmem := (pgL_ok hW hO p).2.2 _ (List.mem_of_getElem? hat)
    rw [line_eq hW hO hL.1 hk]
    refine OK_cl (OK_some rfl) ?_
    rintro v40 rfl
    rw [rows_eq hW hO hL.1 hk]
    refine OK_cl (OK_some rfl) ?_
    rintro v49 rfl
    rw [isPrinted_eq hP hPW hpo hmem.1 hmem.2]
    refine OK_cl (OK_some rfl) ?_
    rintro v52 rfl
    have htk : (pgL H l p).take (t + 1) = (pgL H l p).take t ++ [((tl H l)[stP H l p + t]'hk, rP H l (stP H l p + t))] := by rw [List.take_succ, hat]; rfl
    have hnle : n ≤ t := by
      rw [k2]
      refine Nat.le_trans (List.length_filter_le _ _) ?_
      rw [List.length_take]
      omega
    refine OK_jn ?_
    by_cases hin : ((tl H l)[stP H l p + t]'hk, rP H l (stP H l p + t)) ∈ old
    · rw [if_pos hin]
      refine OK_neg (by decide) (OK_lt (OK_lt ?_))
      rw [nI_1, nI_1]
      refine hn _ _ ⟨t + 1, n + 1, rfl, rfl, by omega, ?_⟩ (by rw [nI_clamp (by omega), nI_clamp (by omega)]; omega)
      rw [htk, List.filter_append, List.length_append, ← k2, List.filter_cons, if_pos (by simpa using hin)]
      rfl
    · rw [if_neg hin]
      refine OK_pos rfl (OK_lt ?_)
      rw [nI_1]
      refine hn _ _ ⟨t + 1, n, rfl, rfl, by omega, ?_⟩ (by rw [nI_clamp (by omega), nI_clamp (by omega)]; omega)
      rw [htk, List.filter_append, List.length_append, ← k2, List.filter_cons, if_neg (by simpa using hin)]
      rfl
theorem dfN_le (hW : WF H) (hO : OrdL H l (oo H l)) (hPW : PW P) (p : Nat) : dfN H l P p ≤ 12 := by
  have h1 := (pgL_ok hW hO p).1
  unfold dfN
  cases h : P[p]? with
  | none => show 0 + _ - _ ≤ 12; omega
  | some old =>
    have := (hPW.2.2 old (List.mem_of_getElem? h)).1
    show old.length + _ - _ ≤ 12
    omega
theorem spN_le (hW : WF H) (hO : OrdL H l (oo H l)) (hPW : PW P) (p : Nat) : spN H l P p ≤ 13 := by
  have h1 := dfN_le hW hO hPW p
  unfold spN
  split <;> omega
theorem slips_eq (hW : WF H) (hO : OrdL H l (oo H l)) (hL : LayOK S 0 H l) (hP : PressK S P) (hPW : PW P) {p : Nat} (hp : p + 1 < P.length) : f_X3_slips S (nI p) = some (nI (spN H l P p + spN H l P (p + 1))) := by
  have hp9 := hPW.2.1
  have q1 := spN_le (H := H) (l := l) hW hO hPW p
  have q2 := spN_le (H := H) (l := l) hW hO hPW (p + 1)
  suffices h9 : OK (f_X3_slips S (nI p)) (fun v => v = nI (spN H l P p + spN H l P (p + 1))) by
    obtain ⟨v, h1, rfl⟩ := h9
    exact h1
  unfold f_X3_slips
  refine Lp2_ok (fun c y => ∃ t n, c = nI n ∧ y = nI (p + t) ∧ t ≤ 2 ∧ n = (if 0 < t then spN H l P p else 0) + (if 1 < t then spN H l P (p + 1) else 0)) (fun _ y => 200 - y.toNatClampNeg) ?_ FU _ _ ⟨0, 0, rfl, rfl, by omega, by simp⟩ (by rw [FU_1000]; omega)
  rintro next c y ⟨t, n, rfl, rfl, k1, k2⟩ hn
  have e2 : nI p + (2 : Int32) = nI (p + 2) := nI_add p 2
  rw [e2]
  refine OK_ite (fun c => ?_) (fun c => ?_)
  · have ht : t = 2 := by
      have := (nI_leI (by omega) (by omega)).mp c
      omega
    refine OK_some ?_
    rw [k2, ht]
    rfl
  · have ht : t < 2 := by
      rcases Nat.lt_or_ge t 2 with q | q
      · exact q
      · exact absurd (nI_le (by omega) (by omega)) c
    rw [difference_eq hW hO hL hP hPW (by omega)]
    refine OK_cl (OK_some rfl) ?_
    rintro v13 rfl
    have hd := dfN_le (H := H) (l := l) hW hO hPW (p + t)
    have hs : (if 0 < t + 1 then spN H l P p else 0) + (if 1 < t + 1 then spN H l P (p + 1) else 0) = n + spN H l P (p + t) := by
      rw [k2]
      rcases Nat.eq_zero_or_pos t with r | r
      · subst r; simp
      · have : t = 1 := by omega
        subst this
        simp
    have hnb : n ≤ 26 := by
      rw [k2]
      split <;> split <;> omega
    refine OK_jn ?_
    by_cases h0 : dfN H l P (p + t) = 0
    · have : nI (dfN H l P (p + t)) = 0 := by rw [h0]; rfl
      refine OK_neg (fun q => q this) (OK_lt (OK_lt ?_))
      rw [nI_1, show nI n + (0 : Int32) = nI n from nI_add n 0]
      refine hn _ _ ⟨t + 1, n, rfl, by rw [Nat.add_assoc], by omega, ?_⟩ (by rw [nI_clamp (by omega), nI_clamp (by omega)]; omega)
      rw [hs]
      unfold spN
      rw [if_pos h0]
      rfl
    · refine OK_pos (nI_ne0 (by omega) (by omega)) (OK_lt (OK_lt ?_))
      rw [show (1 : Int32) + nI (dfN H l P (p + t)) = nI (1 + dfN H l P (p + t)) from nI_add 1 _, nI_add, nI_1]
      refine hn _ _ ⟨t + 1, n + (1 + dfN H l P (p + t)), rfl, by rw [Nat.add_assoc], by omega, ?_⟩ (by rw [nI_clamp (by omega), nI_clamp (by omega)]; omega)
      rw [hs]
      unfold spN
      rw [if_neg h0]
theorem biN_le : ∀ s, biN H l P s ≤ 10 * s := by
  intro s
  induction s with
  | zero => exact Nat.le_refl _
  | succ s ih => unfold biN; omega
theorem bill_eq (hW : WF H) (hO : OrdL H l (oo H l)) (hL : LayOK S 0 H l) (hP : PressK S P) (hPW : PW P) : f_X3_bill S = some (nI (biN H l P (P.length / 2))) := by
  have hp9 := hPW.2.1
  have hev := hPW.1
  suffices h9 : OK (f_X3_bill S) (fun v => v = nI (biN H l P (P.length / 2))) by
    obtain ⟨v, h1, rfl⟩ := h9
    exact h1
  unfold f_X3_bill
  refine Lp2_ok (fun c y => ∃ t, c = nI (biN H l P t) ∧ y = nI (2 * t) ∧ 2 * t ≤ P.length) (fun _ y => 200 - y.toNatClampNeg) ?_ FU _ _ ⟨0, rfl, rfl, by omega⟩ (by rw [FU_1000]; omega)
  rintro next c y ⟨t, rfl, rfl, k1⟩ hn
  have e1 : f_X3_pageCount S = some (nI P.length) := by
    unfold f_X3_pageCount cl
    rw [size_eq, hP.1.1, List.length_map]
    rfl
  rw [e1]
  refine OK_cl (OK_some rfl) ?_
  rintro v6 rfl
  refine OK_ite (fun c => ?_) (fun c => ?_)
  · have ht : t = P.length / 2 := by
      have := (nI_leI (by omega) (by omega)).mp c
      omega
    exact OK_some (by rw [ht])
  · have ht : 2 * t < P.length := by
      rcases Nat.lt_or_ge (2 * t) P.length with q | q
      · exact q
      · exact absurd (nI_le q (by omega)) c
    rw [slips_eq hW hO hL hP hPW (by omega)]
    refine OK_cl (OK_some rfl) ?_
    rintro v17 rfl
    have q1 := spN_le (H := H) (l := l) hW hO hPW (2 * t)
    have q2 := spN_le (H := H) (l := l) hW hO hPW (2 * t + 1)
    have q3 := biN_le (H := H) (l := l) (P := P) t
    have em : (if nI (spN H l P (2 * t) + spN H l P (2 * t + 1)) < (10 : Int32) then nI (spN H l P (2 * t) + spN H l P (2 * t + 1)) else (10 : Int32)) = nI (min 10 (spN H l P (2 * t) + spN H l P (2 * t + 1))) := by
      rw [show (10 : Int32) = nI 10 from rfl]
      by_cases g : spN H l P (2 * t) + spN H l P (2 * t + 1) < 10
      · rw [if_pos (nI_lt (b := 10) g (by omega)), Nat.min_eq_right (by omega)]
      · rw [if_neg (nI_nlt (b := 10) (by omega) (by omega)), Nat.min_eq_left (by omega)]
    refine OK_lt (OK_lt ?_)
    rw [em, nI_add, show nI (2 * t) + (2 : Int32) = nI (2 * (t + 1)) from nI_add (2 * t) 2]
    exact hn _ _ ⟨t + 1, rfl, rfl, by omega⟩ (by rw [nI_clamp (by omega), nI_clamp (by omega)]; omega)
theorem printSheet_ok (hW : WF H) (hO : OrdL H l (oo H l)) (hL : LayOK S 0 H l) (hP : PressK S P) (hPW : PW P) (hP9 : P.length < 89) :
    OK (f_X3_printSheet S) (fun q => q.1 = nI ((pgL H l P.length).length + (pgL H l (P.length + 1)).length) ∧ PressK q.2 (P ++ [pgL H l P.length, pgL H l (P.length + 1)]) ∧ offP prs S q.2) := by
  unfold f_X3_printSheet
  have e1 : ∀ (a b : Nat), nI a + nI b = nI (a + b) := nI_add
  have h6 : ∀ (p : Nat) (pg : List (Nat × Nat)), P[p]? = some pg → pg.length ≤ 6 := fun p pg h => (hPW.2.2 pg (List.mem_of_getElem? h)).1
  refine Lp3_ok (fun c y S2 => ∃ t, y = nI t ∧ t ≤ 2 ∧ offP prs S S2 ∧ ((t = 0 ∧ c = 0 ∧ PressK S2 P) ∨ (t = 1 ∧ c = nI (pgL H l P.length).length ∧ PressK S2 (P ++ [pgL H l P.length])) ∨ (t = 2 ∧ c = nI ((pgL H l P.length).length + (pgL H l (P.length + 1)).length) ∧ PressK S2 (P ++ [pgL H l P.length, pgL H l (P.length + 1)])))) (fun _ y _ => 90 - y.toNatClampNeg) ?_ FU _ _ _ ⟨0, rfl, by omega, offP.rf, Or.inl ⟨rfl, rfl, hP⟩⟩ (by rw [FU_1000]; omega)
  rintro next c y S2 ⟨t, rfl, k1, k2, k3⟩ hn
  have hL2 : LayOK S2 0 H l := LayOK_offP k2 (fun j hj q => by (have : oL 0 = 39 := rfl); rcases hj with r | r | r | r <;> rcases q with q | q | q <;> omega) hL
  refine OK_ite (fun cc => ?_) (fun cc => ?_)
  · have ht : t = 2 := by
      have := (nI_leI (a := 2) (by omega) (by omega)).mp cc
      omega
    rcases k3 with ⟨q, -, -⟩ | ⟨q, -, -⟩ | ⟨-, q1, q2⟩
    · omega
    · omega
    · exact OK_some ⟨q1, q2, k2⟩
  · have ht : t < 2 := by
      rcases Nat.lt_or_ge t 2 with q | q
      · exact q
      · exact absurd (nI_le (a := 2) q (by omega)) cc
    rcases k3 with ⟨q, rfl, q2⟩ | ⟨q, rfl, q2⟩ | ⟨q, -, -⟩
    · refine OK_cl2 (P := fun a b => a = nI (pgL H l P.length).length ∧ PressK b (P ++ [pgL H l P.length]) ∧ offP prs S2 b) (printPage_ok hW hO hL2 q2 (by omega) h6) ?_
      rintro v S3 ⟨rfl, b1, b2⟩
      refine OK_lt (OK_lt ?_)
      rw [nI_1, show (0 : Int32) + nI (pgL H l P.length).length = nI (pgL H l P.length).length by rw [show (0 : Int32) = nI 0 from rfl, nI_add, Nat.zero_add]]
      exact hn _ _ _ ⟨t + 1, rfl, by omega, k2.tr b2, Or.inr (Or.inl ⟨by omega, rfl, b1⟩)⟩ (by rw [nI_clamp (by omega), nI_clamp (by omega)]; omega)
    · have hpp := printPage_ok hW hO hL2 q2 (by simp; omega) (fun p pg h => by
        rcases List.mem_append.mp (List.mem_of_getElem? h) with g | g
        · exact (hPW.2.2 pg g).1
        · have : pg = pgL H l P.length := by simpa using g
          rw [this]
          exact (pgL_ok hW hO _).1)
      have el : (P ++ [pgL H l P.length]).length = P.length + 1 := by simp
      rw [el, List.append_assoc] at hpp
      refine OK_cl2 (P := fun a b => a = nI (pgL H l (P.length + 1)).length ∧ PressK b (P ++ ([pgL H l P.length] ++ [pgL H l (P.length + 1)])) ∧ offP prs S2 b) hpp ?_
      rintro v S3 ⟨rfl, b1, b2⟩
      refine OK_lt (OK_lt ?_)
      rw [nI_1, nI_add]
      exact hn _ _ _ ⟨t + 1, rfl, by omega, k2.tr b2, Or.inr (Or.inr ⟨by omega, rfl, b1⟩)⟩ (by rw [nI_clamp (by omega), nI_clamp (by omega)]; omega)
    · omega
end DIFFERS
