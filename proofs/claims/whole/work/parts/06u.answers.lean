/-! WHAT EACH CALL ANSWERS, by the history -/
noncomputable def pif {R : Type} (c : Prop) (a b : R) : R := @ite R c (Classical.propDecidable c) a b
theorem pif_pos {R : Type} {c : Prop} {a b : R} (h : c) : pif c a b = a := @if_pos c (Classical.propDecidable c) h R a b
theorem pif_neg {R : Type} {c : Prop} {a b : R} (h : ¬ c) : pif c a b = b := @if_neg c (Classical.propDecidable c) h R a b
abbrev An : Type := (Nat ⊕ Int32) × Hs
def isS (x : Int32) : Prop := ∃ z, z < 4 ∧ x = nI z
def LK (H : Hs) (l : List Nat) (x : Int32) : Prop := ∃ y, x = nI y ∧ kL H l y
def LT (H : Hs) (l : List Nat) (x : Int32) : Prop := ∃ y, x = nI y ∧ thL H l y = true
def NK (H : Hs) (l : List Nat) (x : Int32) : Prop := ∃ y, x = nI y ∧ kN H l y
noncomputable def npg (H : Hs) (l : List Nat) : Nat := Classical.epsilon (fun P => ∀ p, p < P ↔ stP H l p < szP H l)
noncomputable def pgO (H : Hs) (l : List Nat) (k : Nat) : Nat := Classical.epsilon (fun p => stP H l p ≤ k ∧ k < stP H l (p + 1))
def cN (x : Int32) : Nat := x.toNatClampNeg
def bof (x : Int32) : Nat := if x = -1 then 0 else cN x + 1
noncomputable def aIns (H : Hs) (x1 x2 x3 x4 : Int32) : An :=
  pif (¬ isS x1) (.inl 1, H) (pif (¬ (x2 = -1 ∨ LK H (kn H (cN x1)) x2)) (.inl 1, H) (pif (x3 < 0 ∨ ¬ x3 ≤ 99) (.inl 2, H) (pif (¬ Hn H < 90) (.inl 3, H)
    (.inr (nI (HL H)), addH H (cN x1) 0 (HL H) 0 (bof x2) (cN x3) (if x4 = 0 then 0 else 1) 0))))
noncomputable def aRem (H : Hs) (x1 x2 : Int32) : An :=
  pif (¬ isS x1) (.inl 1, H) (pif (¬ LK H (kn H (cN x1)) x2) (.inl 1, H) (pif (¬ LT H (kn H (cN x1)) x2) (.inl 4, H) (pif (¬ Hn H < 90) (.inl 3, H)
    (.inr (nI (szP (addH H (cN x1) 1 (cN x2) 0 0 0 0 0) (kn H (cN x1) ++ [Hn H]))), addH H (cN x1) 1 (cN x2) 0 0 0 0 0))))
noncomputable def aNot (H : Hs) (x1 x2 x3 : Int32) : An :=
  pif (¬ isS x1) (.inl 1, H) (pif (¬ LK H (kn H (cN x1)) x2) (.inl 1, H) (pif (x3 < 1 ∨ ¬ x3 ≤ 3) (.inl 2, H) (pif (¬ LT H (kn H (cN x1)) x2) (.inl 4, H) (pif (¬ Hn H < 90) (.inl 3, H)
    (.inr (nI (HN H)), addH H (cN x1) 2 (cN x2) (HN H) 0 0 0 (cN x3))))))
noncomputable def aMov (H : Hs) (x1 x2 x3 : Int32) : An :=
  pif (¬ isS x1) (.inl 1, H) (pif (¬ NK H (kn H (cN x1)) x2) (.inl 1, H) (pif (¬ LK H (kn H (cN x1)) x3) (.inl 1, H) (pif (¬ LT H (kn H (cN x1)) x3) (.inl 4, H) (pif (¬ Hn H < 90) (.inl 3, H)
    (.inr 0, addH H (cN x1) 3 (cN x3) (cN x2) 0 0 0 0)))))
noncomputable def aSyn (H : Hs) (x1 x2 : Int32) : An :=
  pif (¬ (isS x1 ∧ isS x2)) (.inl 1, H) (.inr (nI (((kn H (cN x1)).filter (fun x => decide (x ∉ kn H (cN x2)))).length)), synH H (cN x1) (cN x2))
def prH (H : Hs) (P : List (List (Nat × Nat))) : Hs := (H.1, H.2.1, P)
noncomputable def aPri (H : Hs) : An :=
  pif ((pr H).length < npg H (kn H 0)) (.inr (nI ((pgL H (kn H 0) (pr H).length).length + (pgL H (kn H 0) ((pr H).length + 1)).length)), prH H (pr H ++ [pgL H (kn H 0) (pr H).length, pgL H (kn H 0) ((pr H).length + 1)])) (.inl 3, H)
noncomputable def aShe (H : Hs) : An := (.inr (nI ((pr H).length / 2)), H)
noncomputable def aDif (H : Hs) (x1 : Int32) : An := pif (x1 < 0 ∨ ¬ x1 < nI (pr H).length) (.inl 1, H) (.inr (nI (dfN H (kn H 0) (pr H) (cN x1))), H)
noncomputable def aCos (H : Hs) : An := (.inr (nI (biN H (kn H 0) (pr H) ((pr H).length / 2))), H)
noncomputable def aLin (H : Hs) (x1 : Int32) : An := pif (¬ isS x1) (.inl 1, H) (.inr (nI (szP H (kn H (cN x1)))), H)
noncomputable def what (H : Hs) (l : List Nat) (k : Nat) (x3 : Int32) : Int32 := match (tl H l)[k]? with
  | none => -1
  | some x => if x3 = 0 then nI x else if x3 = 1 then nI (va H x) else if x3 = 2 then nI (rP H l k) else if x3 = 3 then (if bP H l k = true then 1 else 0) else nI (pgO H l k)
noncomputable def aLat (H : Hs) (x1 x2 x3 : Int32) : An :=
  pif (¬ isS x1) (.inl 1, H) (pif (x2 < 0) (.inl 1, H) (pif (x3 < 0 ∨ ¬ x3 ≤ 4) (.inl 2, H) (.inr (what H (kn H (cN x1)) (cN x2) x3), H)))
noncomputable def aAne (H : Hs) (x1 x2 : Int32) : An := pif (¬ isS x1) (.inl 1, H) (pif (x2 < 0) (.inl 1, H) (.inr (opt (tl H (kn H (cN x1)))[cN x2]?), H))
noncomputable def aNat (H : Hs) (x1 x2 : Int32) : An := pif (¬ isS x1) (.inl 1, H) (pif (¬ NK H (kn H (cN x1)) x2) (.inl 1, H) (.inr (opt (lnote H (kn H (cN x1)) (cN x2))), H))
noncomputable def aPag (H : Hs) (x1 : Int32) : An := pif (¬ isS x1) (.inl 1, H) (.inr (nI (npg H (kn H (cN x1)))), H)
noncomputable def aAhe (H : Hs) (x1 x2 : Int32) : An := pif (¬ isS x1) (.inl 1, H) (pif (x2 < 0) (.inl 1, H) (.inr (nI (stP H (kn H (cN x1)) (cN x2))), H))
noncomputable def aKno (H : Hs) (x1 : Int32) : An := pif (¬ isS x1) (.inl 1, H) (.inr (nI (kn H (cN x1)).length), H)
-- the class shows the history
def RC (S : St) (H : Hs) : Prop :=
  WF H ∧ Led S H ∧ (∀ z, z < 4 → SiteOK S z H (kn H z) ∧ LayOK S z H (kn H z) ∧ gi S (oS z) = nI (Hc H z)) ∧ PressK S (pr H) ∧ PW (pr H)
theorem RC_O {S : St} {H : Hs} {z : Nat} (h : RC S H) (hz : z < 4) : OrdL H (kn H z) (oo H (kn H z)) := (h.2.2.1 z hz).1.2.2.2.1
theorem RC_lt {S : St} {H : Hs} {z : Nat} (h : RC S H) (hz : z < 4) : ∀ d ∈ kn H z, d < Hn H := fun d hd => ((h.1.2.2.2.2.2.2.2.2 z hz).2.1 d hd).1
theorem npg_eq {H : Hs} {l : List Nat} {P : Nat} (h : ∀ p, p < P ↔ stP H l p < szP H l) : npg H l = P := by
  have h1 : ∀ p, p < npg H l ↔ stP H l p < szP H l := Classical.epsilon_spec (p := fun P => ∀ p, p < P ↔ stP H l p < szP H l) ⟨P, h⟩
  exact np_uniq h1 h
theorem pgO_eq {H : Hs} {l : List Nat} {k p : Nat} (h : stP H l p ≤ k ∧ k < stP H l (p + 1)) : pgO H l k = p := by
  have h1 : stP H l (pgO H l k) ≤ k ∧ k < stP H l (pgO H l k + 1) := Classical.epsilon_spec (p := fun p => stP H l p ≤ k ∧ k < stP H l (p + 1)) ⟨p, h⟩
  exact pg_uniq h1 h
theorem RC_stay {P : Nat → Prop} {S S1 : St} {H H2 : Hs} (hE : Ext H H2) (hW2 : WF H2) (ho : offP P S S1) (hR : RC S H) (hL : Led S1 H2) {z : Nat} (hz : z < 4) (hk : kn H2 z = kn H z) (hc : Hc H2 z = Hc H z) (hP : ∀ j, oS z ≤ j → j < oS z + 27 → ¬ P j) :
    SiteOK S1 z H2 (kn H2 z) ∧ LayOK S1 z H2 (kn H2 z) ∧ gi S1 (oS z) = nI (Hc H2 z) := by
  have hzT : oT z = oS z + 5 := rfl
  have hzL : oL z = oS z + 18 := rfl
  obtain ⟨a1, a2, a3⟩ := hR.2.2.1 z hz
  rw [hk, hc]
  refine ⟨SiteOK_offP ho (fun j h1 h2 => hP j (by omega) (by omega)) (SiteOK_ext hR.1 (RC_lt hR hz) hE a1), LayOK_offP ho (fun j hj => hP j (by rcases hj with q | q | q | q <;> omega) (by rcases hj with q | q | q | q <;> omega)) (LayOK_ext hE hR.1 (RC_lt hR hz) (RC_O hR hz) a2), ?_⟩
  rw [(ho (oS z) (hP _ (Nat.le_refl _) (by omega))).1]
  exact a3
theorem Press_offP {P : Nat → Prop} {S S1 : St} {Q : List (List (Nat × Nat))} (ho : offP P S S1) (hP : ∀ j, prs j → ¬ P j) (h : PressK S Q) : PressK S1 Q := by
  refine ⟨offP_V ho (hP _ (Or.inl rfl)) h.1, ?_⟩
  rw [(ho 132 (hP _ (Or.inr (Or.inl rfl)))).2, (ho 134 (hP _ (Or.inr (Or.inr rfl)))).2]
  exact h.2
def dd (s j : Nat) : Prop := j < 20 ∨ j = oS s
/-- the deed is in the ledger, the clock is set: its site takes it -/
theorem deed_ok {S S3 : St} {H H2 : Hs} {s k x m b v g r : Nat} (hR : RC S H) (hM : May H s k x m b v g r) (hN : New H s k x m b v g r H2) (hL : Led S3 H2) (ho : offP (dd s) S S3) (hc : gi S3 (oS s) = nI (Hc H2 s)) :
    OK (f_X4_take S3 s (nI (Hn H))) (fun S4 => RC S4 H2) := by
  have hs := hM.1
  have hzT : oT s = oS s + 5 := rfl
  have hzL : oL s = oS s + 18 := rfl
  have hzS : oS s = 21 + 27 * s := rfl
  have hW2 := WF_new hR.1 hM hN
  have hcau := Cau_new hR.1 hM hN
  have hE := hN.1
  have hN2 := hN
  obtain ⟨-, ⟨e1, e2, e3⟩, ⟨c1, c2⟩, -, -, -, ⟨k1, k2⟩, k3⟩ := hN2
  obtain ⟨a1, a2, a3⟩ := hR.2.2.1 s hs
  have hlt := RC_lt hR hs
  have w9 := hR.1.2.2.2.2.2.2.2.2 s hs
  have hS3 : SiteOK S3 s H2 (kn H s) := SiteOK_offP ho (fun j h1 h2 q => by rcases q with q | q <;> omega) (SiteOK_ext hR.1 hlt hE a1)
  refine OK_mono (take_ok hs hW2 hL hS3 (fun d hd => by have := hlt d hd; omega) w9.1 hcau (by omega) (kn_new hR.1 hs)) ?_
  rintro S4 ⟨b1, b2, b3⟩
  have hL4 : Led S4 H2 := Led_offP b3 (fun j hj q => by omega) hL
  have ho4 : offP (fun j => j < 20 ∨ (oS s ≤ j ∧ j < oS s + 27)) S S4 := (ho.mono (fun j hj => by rcases hj with q | q <;> omega)).tr (b3.mono (fun j hj => by omega))
  refine ⟨hW2, hL4, fun z hz => ?_, ?_, ?_⟩
  · by_cases e : z = s
    · rw [e, k1]
      refine ⟨b1, b2, ?_⟩
      rw [(b3 (oS s) (by omega)).1]
      exact hc
    · refine RC_stay hE hW2 ho4 hR hL4 hz (k2 z e) (c2 z e) (fun j h1 h2 q => ?_)
      have : oS z = 21 + 27 * z := rfl
      omega
  · rw [k3]
    exact Press_offP ho4 (fun j hj q => by rcases hj with r | r | r <;> omega) hR.2.2.2.1
  · rw [k3]
    exact hR.2.2.2.2
