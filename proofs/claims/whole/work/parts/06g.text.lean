/-! THE CLASS'S TEXT of one site, by the deeds that it has learned -/
def isF (S : St) (k n : Nat) (f : Nat → Int32) : Prop := isV S k ((List.range n).map f)
theorem isF_size {S : St} {k n : Nat} {f : Nat → Int32} (h : isF S k n f) : gi S k = nI n := by
  have := h.1
  simpa using this
theorem isF_at {S : St} {k n i : Nat} {f : Nat → Int32} (h : isF S k n f) (hi : i < n) : ga S k i = f i := by
  refine h.2 i (f i) ?_
  rw [List.getElem?_map, List.getElem?_range hi]
  rfl
theorem isF_off {S S1 : St} {k j n : Nat} {f : Nat → Int32} (h : isF S k n f) (ho : off j S S1) (hj : k ≠ j) : isF S1 k n f := isV.off h ho hj
theorem isF_congr {S : St} {k n : Nat} {f g : Nat → Int32} (h : isF S k n f) (hfg : ∀ i, i < n → f i = g i) : isF S k n g := by
  have e : (List.range n).map f = (List.range n).map g := List.map_congr_left (fun i hi => hfg i (List.mem_range.mp hi))
  unfold isF
  rw [← e]
  exact h
theorem isF_add {S : St} {k n : Nat} {f : Nat → Int32} {v : Int32} (h : isF S k n f) (hn : n < ln k) : OK (f_X2_add S k v) (fun S1 => isF S1 k (n + 1) (fun i => if i < n then f i else v) ∧ off k S S1) := by
  refine OK_mono (add_ok h (by simpa using hn)) ?_
  rintro S1 ⟨h1, h2⟩
  refine ⟨?_, h2⟩
  unfold isF
  have e : (List.range (n + 1)).map (fun i => if i < n then f i else v) = (List.range n).map f ++ [v] := by
    rw [List.range_succ, List.map_append]
    congr 1
    · exact List.map_congr_left (fun i hi => if_pos (List.mem_range.mp hi))
    · simp
  rw [e]
  exact h1
/-- all but the keys in P is as it was -/
def offP (P : Nat → Prop) (S S1 : St) : Prop := ∀ j, ¬ P j → gi S1 j = gi S j ∧ ga S1 j = ga S j
theorem offP.rf {P : Nat → Prop} {S : St} : offP P S S := fun _ _ => ⟨rfl, rfl⟩
theorem offP.tr {P : Nat → Prop} {S S1 S2 : St} (h1 : offP P S S1) (h2 : offP P S1 S2) : offP P S S2 := fun j hj => ⟨(h2 j hj).1.trans (h1 j hj).1, (h2 j hj).2.trans (h1 j hj).2⟩
theorem offP.mono {P P2 : Nat → Prop} {S S1 : St} (h1 : offP P S S1) (h : ∀ j, P j → P2 j) : offP P2 S S1 := fun j hj => h1 j (fun q => hj (h j q))
theorem off.P {P : Nat → Prop} {k : Nat} {S S1 : St} (h1 : off k S S1) (h : P k) : offP P S S1 := fun j hj => h1 j (fun q => hj (q ▸ h))
theorem offP_V {P : Nat → Prop} {S S1 : St} {k : Nat} {vs : List Int32} (ho : offP P S S1) (hk : ¬ P k) (h : isV S k vs) : isV S1 k vs := ⟨by rw [(ho k hk).1]; exact h.1, fun i v hv => by rw [(ho k hk).2]; exact h.2 i v hv⟩
theorem offP_F {P : Nat → Prop} {S S1 : St} {k n : Nat} {f : Nat → Int32} (ho : offP P S S1) (hk : ¬ P k) (h : isF S k n f) : isF S1 k n f := offP_V ho hk h
def subj (H : Hs) (d : Nat) : Int32 := nI (if dk H d ≤ 1 then dl H d else dn H d)
def targ (H : Hs) (d : Nat) : Int32 := if dk H d = 0 then nI (bh H (dl H d)) - 1 else if dk H d = 1 then -1 else nI (dl H d)
def Led (S : St) (H : Hs) : Prop :=
  isF S 2 (Hn H) (fun d => nI (dk H d)) ∧ isF S 4 (Hn H) (fun d => nI (sp H d)) ∧ isF S 6 (Hn H) (subj H) ∧ isF S 8 (Hn H) (targ H) ∧
  isF S 10 (HL H) (fun x => nI (sl H x)) ∧ isF S 12 (HL H) (fun x => nI (bh H x) - 1) ∧ isF S 14 (HL H) (fun x => nI (va H x)) ∧ isF S 16 (HL H) (fun x => nI (bg H x)) ∧ isF S 18 (HN H) (fun m => nI (nr H m))
theorem Led_offP {P : Nat → Prop} {S S1 : St} {H : Hs} (ho : offP P S S1) (hP : ∀ k, k < 20 → ¬ P k) (h : Led S H) : Led S1 H := by
  obtain ⟨a1, a2, a3, a4, a5, a6, a7, a8, a9⟩ := h
  exact ⟨offP_F ho (hP _ (by omega)) a1, offP_F ho (hP _ (by omega)) a2, offP_F ho (hP _ (by omega)) a3, offP_F ho (hP _ (by omega)) a4, offP_F ho (hP _ (by omega)) a5, offP_F ho (hP _ (by omega)) a6, offP_F ho (hP _ (by omega)) a7, offP_F ho (hP _ (by omega)) a8, offP_F ho (hP _ (by omega)) a9⟩
theorem sp_lt {H : Hs} (hW : WF H) {d : Nat} (hd : d < Hn H) : sp H d < 400 := by
  obtain ⟨w1, w2, -, -, -, -, -, -, w9⟩ := hW
  obtain ⟨-, h1, h2⟩ := w2 d hd
  obtain ⟨-, h3, -, h4⟩ := w9 _ h1
  have h5 := (h3 d h2).2
  unfold sp
  omega
theorem kindOf_eq {S : St} {H : Hs} {d : Nat} (hW : WF H) (h : Led S H) (hd : d < Hn H) : f_X1_kindOf S (nI d) = some (nI (dk H d)) := by
  unfold f_X1_kindOf cl
  rw [at_eq (by have := ln_ge 2; have := hW.1.2; omega), isF_at h.1 hd]
  rfl
theorem stampOf_eq {S : St} {H : Hs} {d : Nat} (hW : WF H) (h : Led S H) (hd : d < Hn H) : f_X1_stampOf S (nI d) = some (nI (sp H d)) := by
  unfold f_X1_stampOf cl
  rw [at_eq (by have := ln_ge 4; have := hW.1.2; omega), isF_at h.2.1 hd]
  rfl
theorem subjectOf_eq {S : St} {H : Hs} {d : Nat} (hW : WF H) (h : Led S H) (hd : d < Hn H) : f_X1_subjectOf S (nI d) = some (subj H d) := by
  unfold f_X1_subjectOf cl
  rw [at_eq (by have := ln_ge 6; have := hW.1.2; omega), isF_at h.2.2.1 hd]
  rfl
theorem targetOf_eq {S : St} {H : Hs} {d : Nat} (hW : WF H) (h : Led S H) (hd : d < Hn H) : f_X1_targetOf S (nI d) = some (targ H d) := by
  unfold f_X1_targetOf cl
  rw [at_eq (by have := ln_ge 8; have := hW.1.2; omega), isF_at h.2.2.2.1 hd]
  rfl
theorem stampOfLine_eq {S : St} {H : Hs} {x : Nat} (hW : WF H) (h : Led S H) (hx : x < HL H) : f_X1_stampOfLine S (nI x) = some (nI (sl H x)) := by
  unfold f_X1_stampOfLine cl
  rw [at_eq (by have := ln_ge 10; have := hW.1; omega), isF_at h.2.2.2.2.1 hx]
  rfl
theorem behindOf_eq {S : St} {H : Hs} {x : Nat} (hW : WF H) (h : Led S H) (hx : x < HL H) : f_X1_behindOf S (nI x) = some (nI (bh H x) - 1) := by
  unfold f_X1_behindOf cl
  rw [at_eq (by have := ln_ge 12; have := hW.1; omega), isF_at h.2.2.2.2.2.1 hx]
  rfl
theorem valueOf_eq {S : St} {H : Hs} {x : Nat} (hW : WF H) (h : Led S H) (hx : x < HL H) : f_X1_valueOf S (nI x) = some (nI (va H x)) := by
  unfold f_X1_valueOf cl
  rw [at_eq (by have := ln_ge 14; have := hW.1; omega), isF_at h.2.2.2.2.2.2.1 hx]
  rfl
theorem beginsP_eq {S : St} {H : Hs} {x : Nat} (hW : WF H) (h : Led S H) (hx : x < HL H) : f_X1_beginsParagraph S (nI x) = some (if bg H x = 1 then 1 else 0) := by
  have h1 := (hW.2.2.1 x hx).2.2.2.2.2
  unfold f_X1_beginsParagraph cl
  rw [at_eq (by have := ln_ge 16; have := hW.1; omega), isF_at h.2.2.2.2.2.2.2.1 hx, Option.bind_some]
  by_cases h2 : bg H x = 1
  · rw [if_neg, if_pos h2]
    rw [h2]; decide
  · rw [if_pos, if_neg h2]
    rw [show bg H x = 0 by omega]; decide
theorem rowsOfNote_eq {S : St} {H : Hs} {m : Nat} (hW : WF H) (h : Led S H) (hm : m < HN H) : f_X1_rowsOfNote S (nI m) = some (nI (nr H m)) := by
  unfold f_X1_rowsOfNote cl
  rw [at_eq (by have := ln_ge 18; have := hW.1; omega), isF_at h.2.2.2.2.2.2.2.2 hm]
  rfl
/-- the text of the site z shows what the deeds l say -/
def TextOK (S : St) (z : Nat) (H : Hs) (l : List Nat) : Prop :=
  isV S (oT z + 1) ((oo H l).map nI) ∧ OrdL H l (oo H l) ∧
  (∀ x, x < 90 → (¬ kL H l x → ga S (oT z + 7) x = -1) ∧ (kL H l x → ga S (oT z + 7) x = if tkn H l x = true then 0 else 1)) ∧
  (∀ m, m < 90 → (¬ kN H l m → ga S (oT z + 9) m = -1 ∧ ga S (oT z + 11) m = -1) ∧ (kN H l m → isBest H l m (bst H l m) ∧ ga S (oT z + 9) m = nI (dl H (bst H l m)) ∧ ga S (oT z + 11) m = nI (sp H (bst H l m))))
def txt (z j : Nat) : Prop := j = oT z + 1 ∨ j = oT z + 7 ∨ j = oT z + 9 ∨ j = oT z + 11
theorem TextOK_offP {P : Nat → Prop} {S S1 : St} {z : Nat} {H : Hs} {l : List Nat} (ho : offP P S S1) (hP : ∀ j, txt z j → ¬ P j) (h : TextOK S z H l) : TextOK S1 z H l := by
  obtain ⟨a1, a2, a3, a4⟩ := h
  have e7 := (ho (oT z + 7) (hP _ (Or.inr (Or.inl rfl)))).2
  have e9 := (ho (oT z + 9) (hP _ (Or.inr (Or.inr (Or.inl rfl))))).2
  have e11 := (ho (oT z + 11) (hP _ (Or.inr (Or.inr (Or.inr rfl))))).2
  refine ⟨offP_V ho (hP _ (Or.inl rfl)) a1, a2, ?_, ?_⟩
  · rw [e7]; exact a3
  · rw [e9, e11]; exact a4
theorem TextOK_ext {S : St} {z : Nat} {H H2 : Hs} {l : List Nat} (hW : WF H) (hl : ∀ d ∈ l, d < Hn H) (hE : Ext H H2) (h : TextOK S z H l) : TextOK S z H2 l := by
  obtain ⟨a1, a2, a3, a4⟩ := h
  refine ⟨by rw [Ext_oo hE hW hl]; exact a1, by rw [Ext_oo hE hW hl, Ext_ordL hE hW hl]; exact a2, fun x hx => ?_, fun m hm => ?_⟩
  · rw [Ext_kL hE hl, Ext_tkn hE hl]; exact a3 x hx
  · rw [Ext_kN hE hl, Ext_isBest hE hl, Ext_bst hE hl]
    refine ⟨(a4 m hm).1, fun hk => ?_⟩
    obtain ⟨k1, k2, k3⟩ := (a4 m hm).2 hk
    have hb := hl _ k1.1.1
    rw [(hE.2.1 _ hb).2.2.2.1, Ext_sp hE hb]
    exact ⟨k1, k2, k3⟩
-- what one more deed does to the views
section ADD
variable {H : Hs} {l : List Nat} {d : Nat}
theorem tkn_add (x : Nat) : tkn H (l ++ [d]) x = (tkn H l x || (decide (dk H d = 1) && decide (dl H d = x))) := by
  unfold tkn
  rw [List.any_append]
  simp
theorem tkn_false (hW : WF H) (hl : ∀ d ∈ l, d < Hn H) (hc : Cau H l) {x : Nat} (hx : ¬ mb H x ∈ l) : tkn H l x = false := by
  unfold tkn
  rw [List.any_eq_false]
  intro d hd h
  simp at h
  obtain ⟨a, b, e⟩ := List.append_of_mem hd
  have := hc a d b e (mb H (dl H d)) (Or.inr (Or.inl ⟨by omega, rfl⟩))
  rw [h.2] at this
  exact hx (by rw [e]; simp [this])
theorem kL_add_other (hW : WF H) (h : dk H d ≠ 0) (x : Nat) : kL H (l ++ [d]) x ↔ kL H l x := by
  unfold kL
  constructor
  · rintro ⟨h1, h2⟩
    refine ⟨h1, ?_⟩
    rcases List.mem_append.mp h2 with q | q
    · exact q
    · have e : mb H x = d := by simpa using q
      exact absurd (e ▸ (hW.2.2.1 x h1).2.1) h
  · rintro ⟨h1, h2⟩
    exact ⟨h1, by simp [h2]⟩
theorem kN_add_other (hW : WF H) (h : dk H d ≠ 2) (x : Nat) : kN H (l ++ [d]) x ↔ kN H l x := by
  unfold kN
  constructor
  · rintro ⟨h1, h2⟩
    refine ⟨h1, ?_⟩
    rcases List.mem_append.mp h2 with q | q
    · exact q
    · have e : nb H x = d := by simpa using q
      exact absurd (e ▸ (hW.2.2.2.1 x h1).2.1) h
  · rintro ⟨h1, h2⟩
    exact ⟨h1, by simp [h2]⟩
theorem isBest_add_other {m : Nat} (h : dk H d < 2 ∨ dn H d ≠ m) : isBest H (l ++ [d]) m = isBest H l m := by
  funext d'
  unfold isBest
  refine propext ⟨fun ⟨⟨h1, h2, h3⟩, h4⟩ => ⟨⟨?_, h2, h3⟩, fun e he => h4 e (by simp [he])⟩, fun ⟨⟨h1, h2, h3⟩, h4⟩ => ⟨⟨by simp [h1], h2, h3⟩, fun e he q1 q2 => ?_⟩⟩
  · rcases List.mem_append.mp h1 with q | q
    · exact q
    · have e : d' = d := by simpa using q
      subst e
      rcases h with h | h
      · omega
      · exact absurd h3 h
  · rcases List.mem_append.mp he with q | q
    · exact h4 e q q1 q2
    · have e' : e = d := by simpa using q
      subst e'
      rcases h with h | h
      · omega
      · exact absurd q2 h
theorem bst_add_other {m : Nat} (h : dk H d < 2 ∨ dn H d ≠ m) : bst H (l ++ [d]) m = bst H l m := by
  unfold bst
  rw [isBest_add_other h]
end ADD
