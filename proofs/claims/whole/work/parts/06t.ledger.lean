/-! THE LEDGER GROWS, and what a site got -/
section LEDGER
variable {S : St} {H H2 : Hs} {s k x m b v g r : Nat}
theorem subj_ext (hE : Ext H H2) {d : Nat} (hd : d < Hn H) : subj H2 d = subj H d := by
  have h := hE.2.1 d hd
  unfold subj
  rw [h.1, h.2.2.2.1, h.2.2.2.2]
theorem targ_ext (hW : WF H) (hE : Ext H H2) {d : Nat} (hd : d < Hn H) : targ H2 d = targ H d := by
  have h := hE.2.1 d hd
  have h1 := (hW.2.2.2.2.1 d hd).1
  unfold targ
  rw [h.1, h.2.2.2.1, (hE.2.2.1 _ h1).2.1]
def LedD (S : St) (H : Hs) : Prop := isF S 2 (Hn H) (fun d => nI (dk H d)) ∧ isF S 4 (Hn H) (fun d => nI (sp H d)) ∧ isF S 6 (Hn H) (subj H) ∧ isF S 8 (Hn H) (targ H)
def LedL (S : St) (H : Hs) : Prop := isF S 10 (HL H) (fun x => nI (sl H x)) ∧ isF S 12 (HL H) (fun x => nI (bh H x) - 1) ∧ isF S 14 (HL H) (fun x => nI (va H x)) ∧ isF S 16 (HL H) (fun x => nI (bg H x))
def LedN (S : St) (H : Hs) : Prop := isF S 18 (HN H) (fun m => nI (nr H m))
theorem Led_all (h1 : LedD S H) (h2 : LedL S H) (h3 : LedN S H) : Led S H := ⟨h1.1, h1.2.1, h1.2.2.1, h1.2.2.2, h2.1, h2.2.1, h2.2.2.1, h2.2.2.2, h3⟩
theorem Led_D (h : Led S H) : LedD S H := ⟨h.1, h.2.1, h.2.2.1, h.2.2.2.1⟩
theorem Led_L (h : Led S H) : LedL S H := ⟨h.2.2.2.2.1, h.2.2.2.2.2.1, h.2.2.2.2.2.2.1, h.2.2.2.2.2.2.2.1⟩
theorem Led_N (h : Led S H) : LedN S H := h.2.2.2.2.2.2.2.2
theorem LedD_offP {P : Nat → Prop} {S1 : St} (ho : offP P S S1) (hP : ¬ P 2 ∧ ¬ P 4 ∧ ¬ P 6 ∧ ¬ P 8) (h : LedD S H) : LedD S1 H := ⟨offP_F ho hP.1 h.1, offP_F ho hP.2.1 h.2.1, offP_F ho hP.2.2.1 h.2.2.1, offP_F ho hP.2.2.2 h.2.2.2⟩
theorem LedL_offP {P : Nat → Prop} {S1 : St} (ho : offP P S S1) (hP : ¬ P 10 ∧ ¬ P 12 ∧ ¬ P 14 ∧ ¬ P 16) (h : LedL S H) : LedL S1 H := ⟨offP_F ho hP.1 h.1, offP_F ho hP.2.1 h.2.1, offP_F ho hP.2.2.1 h.2.2.1, offP_F ho hP.2.2.2 h.2.2.2⟩
theorem LedN_offP {P : Nat → Prop} {S1 : St} (ho : offP P S S1) (hP : ¬ P 18) (h : LedN S H) : LedN S1 H := offP_F ho hP h
theorem isF_grow {S : St} {k n : Nat} {f f2 : Nat → Int32} {v : Int32} (h : isF S k n f) (hn : n < ln k) (hf : ∀ i, i < n → f2 i = f i) (hv : f2 n = v) : OK (f_X2_add S k v) (fun S1 => isF S1 k (n + 1) f2 ∧ off k S S1) := by
  refine OK_mono (isF_add h hn) ?_
  rintro S1 ⟨h1, h2⟩
  refine ⟨isF_congr h1 (fun i hi => ?_), h2⟩
  by_cases q : i < n
  · rw [if_pos q, hf i q]
  · have : i = n := by omega
    subst this
    rw [if_neg q, hv]
def dkey (j : Nat) : Prop := j = 2 ∨ j = 4 ∨ j = 6 ∨ j = 8
theorem addDeed_ok (hW : WF H) (h90 : Hn H < 90) (h : LedD S H) (hN : New H s k x m b v g r H2) {st sj tg : Int32} (h1 : st = nI (sp H2 (Hn H))) (h2 : sj = subj H2 (Hn H)) (h3 : tg = targ H2 (Hn H)) :
    OK (f_X1_addDeed S (nI k) st sj tg) (fun q => q.1 = nI (Hn H) ∧ LedD q.2 H2 ∧ offP dkey S q.2) := by
  obtain ⟨hE, ⟨e1, e2, e3⟩, -, ⟨f1, f2, f3, f4, f5⟩, -, -, -, -⟩ := hN
  obtain ⟨a1, a2, a3, a4⟩ := h
  unfold f_X1_addDeed
  refine OK_cl (isF_grow (f2 := fun d => nI (dk H2 d)) a1 (by have := ln_ge 2; omega) (fun i hi => by rw [(hE.2.1 i hi).1]) (by rw [f1])) ?_
  rintro S1 ⟨b1, c1⟩
  refine OK_cl (isF_grow (f2 := fun d => nI (sp H2 d)) (isF_off a2 c1 (by decide)) (by have := ln_ge 4; omega) (fun i hi => by rw [Ext_sp hE hi]) h1.symm) ?_
  rintro S2 ⟨b2, c2⟩
  refine OK_cl (isF_grow (f2 := subj H2) (isF_off (isF_off a3 c1 (by decide)) c2 (by decide)) (by have := ln_ge 6; omega) (fun i hi => subj_ext hE hi) h2.symm) ?_
  rintro S3 ⟨b3, c3⟩
  refine OK_cl (isF_grow (f2 := targ H2) (isF_off (isF_off (isF_off a4 c1 (by decide)) c2 (by decide)) c3 (by decide)) (by have := ln_ge 8; omega) (fun i hi => targ_ext hW hE hi) h3.symm) ?_
  rintro S4 ⟨b4, c4⟩
  have b19 : isF S4 2 (Hn H + 1) (fun d => nI (dk H2 d)) := isF_off (isF_off (isF_off b1 c2 (by decide)) c3 (by decide)) c4 (by decide)
  rw [size_eq, isF_size b19]
  refine OK_cl (OK_some rfl) ?_
  rintro v37 rfl
  refine OK_some ⟨nI_pred _, ?_, ((((c1.P (P := dkey) (Or.inl rfl)).tr (c2.P (Or.inr (Or.inl rfl)))).tr (c3.P (Or.inr (Or.inr (Or.inl rfl))))).tr (c4.P (Or.inr (Or.inr (Or.inr rfl)))))⟩
  unfold LedD
  rw [e1]
  exact ⟨b19, isF_off (isF_off b2 c3 (by decide)) c4 (by decide), isF_off b3 c4 (by decide), b4⟩
def lkey (j : Nat) : Prop := j = 10 ∨ j = 12 ∨ j = 14 ∨ j = 16
theorem addLine_ok (hW : WF H) (h90 : HL H < 90) (h : LedL S H) (hN : New H s 0 x m b v g r H2) {st bb vv gg : Int32} (h1 : st = nI (sl H2 (HL H))) (h2 : bb = nI b - 1) (h3 : vv = nI v) (h4 : (gg = 0 ∧ g = 0) ∨ (¬ gg = 0 ∧ g = 1)) :
    OK (f_X1_addLine S st bb vv gg) (fun q => q.1 = nI (HL H) ∧ LedL q.2 H2 ∧ offP lkey S q.2) := by
  obtain ⟨hE, ⟨e1, e2, e3⟩, -, ⟨f1, f2, f3, f4, f5⟩, g0, -, -, -⟩ := hN
  obtain ⟨g1, g2, g3, g4⟩ := g0 rfl
  rw [if_pos rfl] at e2
  obtain ⟨a1, a2, a3, a4⟩ := h
  unfold f_X1_addLine
  refine OK_cl (isF_grow (f2 := fun d => nI (sl H2 d)) a1 (by have := ln_ge 10; omega) (fun i hi => by rw [Ext_sl hE hW hi]) h1.symm) ?_
  rintro S1 ⟨b1, c1⟩
  refine OK_cl (isF_grow (f2 := fun d => nI (bh H2 d) - 1) (isF_off a2 c1 (by decide)) (by have := ln_ge 12; omega) (fun i hi => by rw [(hE.2.2.1 i hi).2.1]) (by rw [g2, h2])) ?_
  rintro S2 ⟨b2, c2⟩
  refine OK_cl (isF_grow (f2 := fun d => nI (va H2 d)) (isF_off (isF_off a3 c1 (by decide)) c2 (by decide)) (by have := ln_ge 14; omega) (fun i hi => by rw [(hE.2.2.1 i hi).2.2.1]) (by rw [g3, h3])) ?_
  rintro S3 ⟨b3, c3⟩
  have fin : ∀ t, t = nI g → OK (cl (f_X2_add S3 16 t) fun S_38 => cl (f_X2_size S_38 10) fun v45 => some (v45 - 1, S_38)) (fun q => q.1 = nI (HL H) ∧ LedL q.2 H2 ∧ offP lkey S q.2) := by
    intro t ht
    refine OK_cl (isF_grow (f2 := fun d => nI (bg H2 d)) (isF_off (isF_off (isF_off a4 c1 (by decide)) c2 (by decide)) c3 (by decide)) (by have := ln_ge 16; omega) (fun i hi => by rw [(hE.2.2.1 i hi).2.2.2]) (by rw [g4, ht])) ?_
    rintro S4 ⟨b4, c4⟩
    have b19 : isF S4 10 (HL H + 1) (fun d => nI (sl H2 d)) := isF_off (isF_off (isF_off b1 c2 (by decide)) c3 (by decide)) c4 (by decide)
    rw [size_eq, isF_size b19]
    refine OK_cl (OK_some rfl) ?_
    rintro v45 rfl
    refine OK_some ⟨nI_pred _, ?_, ((((c1.P (P := lkey) (Or.inl rfl)).tr (c2.P (Or.inr (Or.inl rfl)))).tr (c3.P (Or.inr (Or.inr (Or.inl rfl))))).tr (c4.P (Or.inr (Or.inr (Or.inr rfl)))))⟩
    unfold LedL
    rw [e2]
    exact ⟨b19, isF_off (isF_off b2 c3 (by decide)) c4 (by decide), isF_off b3 c4 (by decide), b4⟩
  refine OK_jn ?_
  rcases h4 with ⟨q1, q2⟩ | ⟨q1, q2⟩
  · exact OK_pos q1 (fin _ (by rw [q2]; rfl))
  · exact OK_neg q1 (fin _ (by rw [q2]; rfl))
theorem addNote_ok (h90 : HN H < 90) (h : LedN S H) (hN : New H s 2 x m b v g r H2) {rr : Int32} (h1 : rr = nI r) :
    OK (f_X1_addNote S rr) (fun q => q.1 = nI (HN H) ∧ LedN q.2 H2 ∧ off 18 S q.2) := by
  obtain ⟨hE, ⟨e1, e2, e3⟩, -, -, -, g0, -, -⟩ := hN
  obtain ⟨g1, g2⟩ := g0 rfl
  rw [if_pos rfl] at e3
  unfold f_X1_addNote
  refine OK_cl (isF_grow (f2 := fun d => nI (nr H2 d)) h (by have := ln_ge 18; omega) (fun i hi => by rw [(hE.2.2.2.1 i hi).2]) (by rw [g2, h1])) ?_
  rintro S1 ⟨b1, c1⟩
  rw [size_eq, isF_size b1]
  refine OK_cl (OK_some rfl) ?_
  rintro v12 rfl
  refine OK_some ⟨nI_pred _, ?_, c1⟩
  unfold LedN
  rw [e3]
  exact b1
theorem LedL_same (hW : WF H) (h : LedL S H) (hk : k ≠ 0) (hN : New H s k x m b v g r H2) : LedL S H2 := by
  obtain ⟨hE, ⟨e1, e2, e3⟩, -⟩ := hN
  rw [if_neg hk, Nat.add_zero] at e2
  obtain ⟨a1, a2, a3, a4⟩ := h
  unfold LedL
  rw [e2]
  exact ⟨isF_congr a1 (fun i hi => by rw [Ext_sl hE hW hi]), isF_congr a2 (fun i hi => by rw [(hE.2.2.1 i hi).2.1]), isF_congr a3 (fun i hi => by rw [(hE.2.2.1 i hi).2.2.1]), isF_congr a4 (fun i hi => by rw [(hE.2.2.1 i hi).2.2.2])⟩
theorem LedN_same (h : LedN S H) (hk : k ≠ 2) (hN : New H s k x m b v g r H2) : LedN S H2 := by
  obtain ⟨hE, ⟨e1, e2, e3⟩, -⟩ := hN
  rw [if_neg hk, Nat.add_zero] at e3
  unfold LedN
  rw [e3]
  exact isF_congr h (fun i hi => by rw [(hE.2.2.2.1 i hi).2])
end LEDGER
-- a site gets deeds from another one
def synH (H : Hs) (a b : Nat) : Hs := (fun t i => if t = 1 ∧ i = b then max (Hc H b) (Hc H a) else H.1 t i, fun z => if z = b then kn H b ++ (kn H a).filter (fun x => decide (x ∉ kn H b)) else kn H z, pr H)
theorem synH_n {H : Hs} {a b : Nat} {t i : Nat} (h : t ≠ 1) : (synH H a b).1 t i = H.1 t i := if_neg (fun q => h q.1)
theorem synH_ext {H : Hs} {a b : Nat} : Ext H (synH H a b) := by
  have e : ∀ t i, t ≠ 1 → (synH H a b).1 t i = H.1 t i := fun t i h => synH_n h
  refine ⟨⟨Nat.le_of_eq (e 0 0 (by decide)).symm, Nat.le_of_eq (e 0 1 (by decide)).symm, Nat.le_of_eq (e 0 2 (by decide)).symm⟩, fun d _ => ⟨e 2 d (by decide), e 3 d (by decide), e 4 d (by decide), e 5 d (by decide), e 6 d (by decide)⟩, fun d _ => ⟨e 7 d (by decide), e 8 d (by decide), e 9 d (by decide), e 10 d (by decide)⟩, fun d _ => ⟨e 11 d (by decide), e 12 d (by decide)⟩, fun d h1 h2 => ?_, fun d h1 h2 => ?_⟩
  · have : HL (synH H a b) = HL H := e 0 1 (by decide)
    omega
  · have : HN (synH H a b) = HN H := e 0 2 (by decide)
    omega
theorem Cau_syn {H : Hs} {l g : List Nat} (hl : Cau H l) (hg : Cau H g) : Cau H (l ++ g.filter (fun x => decide (x ∉ l))) := by
  have key : ∀ t, t ≤ g.length → Cau H (l ++ (g.take t).filter (fun x => decide (x ∉ l))) := by
    intro t
    induction t with
    | zero => intro _; simpa using hl
    | succ t ih =>
      intro ht
      have h1 := ih (by omega)
      have hgt : g[t]? = some g[t] := List.getElem?_eq_getElem (by omega)
      rw [filter_snoc hgt]
      by_cases q : g[t] ∈ l
      · rw [if_pos q, List.append_nil]; exact h1
      · rw [if_neg q, ← List.append_assoc]
        refine Cau_snoc h1 (fun d' hd' => ?_)
        have hsp : g = g.take t ++ g[t] :: g.drop (t + 1) := by
          rw [List.getElem_cons_drop, List.take_append_drop]
        have h2 := hg _ _ _ hsp d' hd'
        by_cases r : d' ∈ l
        · exact List.mem_append_left _ r
        · exact List.mem_append_right _ (List.mem_filter.mpr ⟨h2, by simpa using r⟩)
  have := key g.length (Nat.le_refl _)
  rw [List.take_length] at this
  exact this
theorem WF_syn {H : Hs} {a b : Nat} (hW : WF H) (ha : a < 4) (hb : b < 4) : WF (synH H a b) := by
  have e : ∀ t i, t ≠ 1 → (synH H a b).1 t i = H.1 t i := fun t i h => synH_n h
  have hE : Ext H (synH H a b) := synH_ext
  have hkb : kn (synH H a b) b = kn H b ++ (kn H a).filter (fun x => decide (x ∉ kn H b)) := if_pos rfl
  have hkz : ∀ z, z ≠ b → kn (synH H a b) z = kn H z := fun z hz => if_neg hz
  have hcb : Hc (synH H a b) b = max (Hc H b) (Hc H a) := if_pos ⟨rfl, rfl⟩
  have hcz : ∀ z, z ≠ b → Hc (synH H a b) z = Hc H z := fun z hz => if_neg (fun q => hz q.2)
  have hsp : ∀ d, sp (synH H a b) d = sp H d := fun d => by
    unfold sp
    rw [show dc (synH H a b) d = dc H d from e 3 d (by decide), show dsi (synH H a b) d = dsi H d from e 4 d (by decide)]
  have hW0 := hW
  obtain ⟨w1, w2, w3, w4, w5, w6, w7, w8, w9⟩ := hW
  have hkn : ∀ z d, d ∈ kn H z → d ∈ kn (synH H a b) z := by
    intro z d hd
    by_cases q : z = b
    · rw [q] at hd ⊢
      rw [hkb]
      exact List.mem_append_left _ hd
    · rw [hkz z q]; exact hd
  have en : Hn (synH H a b) = Hn H := e 0 0 (by decide)
  have eL : HL (synH H a b) = HL H := e 0 1 (by decide)
  have eN : HN (synH H a b) = HN H := e 0 2 (by decide)
  have ek : ∀ d, dk (synH H a b) d = dk H d := fun d => e 2 d (by decide)
  have ec : ∀ d, dc (synH H a b) d = dc H d := fun d => e 3 d (by decide)
  have es : ∀ d, dsi (synH H a b) d = dsi H d := fun d => e 4 d (by decide)
  have el : ∀ d, dl (synH H a b) d = dl H d := fun d => e 5 d (by decide)
  have em : ∀ d, dn (synH H a b) d = dn H d := fun d => e 6 d (by decide)
  have e7 : ∀ d, mb (synH H a b) d = mb H d := fun d => e 7 d (by decide)
  have e8 : ∀ d, bh (synH H a b) d = bh H d := fun d => e 8 d (by decide)
  have e9 : ∀ d, va (synH H a b) d = va H d := fun d => e 9 d (by decide)
  have e10 : ∀ d, bg (synH H a b) d = bg H d := fun d => e 10 d (by decide)
  have e11 : ∀ d, nb (synH H a b) d = nb H d := fun d => e 11 d (by decide)
  have e12 : ∀ d, nr (synH H a b) d = nr H d := fun d => e 12 d (by decide)
  have hsl : ∀ y, sl (synH H a b) y = sl H y := fun y => by unfold sl; rw [e7, hsp]
  refine ⟨by rw [en, eL, eN]; exact w1, fun d hd => ?_, fun y hy => ?_, fun y hy => ?_, fun d hd => ?_, fun d hd d' hd' h => ?_, fun y hy h => ?_, fun d hd h => ?_, fun z hz => ?_⟩
  · rw [ek, es]
    rw [en] at hd
    exact ⟨(w2 d hd).1, (w2 d hd).2.1, hkn _ _ (w2 d hd).2.2⟩
  · rw [e7, ek, el, e8, e9, e10, en]
    exact w3 y (by rw [← eL]; exact hy)
  · rw [e11, ek, em, e12, en]
    exact w4 y (by rw [← eN]; exact hy)
  · rw [el, ek, em, e7, e11, eL, eN]
    exact w5 d (by rw [← en]; exact hd)
  · rw [hsp, hsp] at h
    exact w6 d (by rw [← en]; exact hd) d' (by rw [← en]; exact hd') h
  · rw [e8] at h ⊢
    rw [hsl, hsl]
    exact w7 y (by rw [← eL]; exact hy) h
  · rw [ek] at h
    rw [em, e11, hsp, hsp]
    exact w8 d (by rw [← en]; exact hd) h
  · have w := w9 z hz
    by_cases q : z = b
    · subst q
      have wa := w9 a ha
      rw [hkb, hcb, en]
      refine ⟨?_, fun d hd => ?_, ?_, by omega⟩
      · refine List.nodup_append.mpr ⟨w.1, wa.1.sublist List.filter_sublist, fun c hc d hd e => ?_⟩
        have := (List.mem_filter.mp hd).2
        rw [← e] at this
        simp at this
        exact this hc
      · rw [ec]
        rcases List.mem_append.mp hd with r | r
        · have := w.2.1 d r
          exact ⟨this.1, by omega⟩
        · have := wa.2.1 d (List.mem_filter.mp r).1
          exact ⟨this.1, by omega⟩
      · refine Cau_ext hW0 hE (fun d hd => ?_) (Cau_syn w.2.2.1 wa.2.2.1)
        rcases List.mem_append.mp hd with r | r
        · exact (w.2.1 d r).1
        · exact (wa.2.1 d (List.mem_filter.mp r).1).1
    · rw [hkz z q, hcz z q, en]
      exact ⟨w.1, fun d hd => by rw [ec]; exact w.2.1 d hd, Cau_ext hW0 hE (fun d hd => (w.2.1 d hd).1) w.2.2.1, w.2.2.2⟩
