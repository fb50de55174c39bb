/-! ONE MORE DEED in the history -/
def addH (H : Hs) (s k x m b v g r : Nat) : Hs :=
  (fun a i => if a = 0 then (if i = 0 then Hn H + 1 else if i = 1 then HL H + (if k = 0 then 1 else 0) else HN H + (if k = 2 then 1 else 0))
    else if a = 1 then (if i = s then Hc H s + 1 else Hc H i)
    else if a = 2 then (if i = Hn H then k else dk H i)
    else if a = 3 then (if i = Hn H then Hc H s + 1 else dc H i)
    else if a = 4 then (if i = Hn H then s else dsi H i)
    else if a = 5 then (if i = Hn H then x else dl H i)
    else if a = 6 then (if i = Hn H then m else dn H i)
    else if a = 7 then (if k = 0 ∧ i = HL H then Hn H else mb H i)
    else if a = 8 then (if k = 0 ∧ i = HL H then b else bh H i)
    else if a = 9 then (if k = 0 ∧ i = HL H then v else va H i)
    else if a = 10 then (if k = 0 ∧ i = HL H then g else bg H i)
    else if a = 11 then (if k = 2 ∧ i = HN H then Hn H else nb H i)
    else (if k = 2 ∧ i = HN H then r else nr H i),
   fun z => if z = s then kn H s ++ [Hn H] else kn H z, pr H)
def New (H : Hs) (s k x m b v g r : Nat) (H2 : Hs) : Prop :=
  Ext H H2 ∧ (Hn H2 = Hn H + 1 ∧ HL H2 = HL H + (if k = 0 then 1 else 0) ∧ HN H2 = HN H + (if k = 2 then 1 else 0)) ∧
  (Hc H2 s = Hc H s + 1 ∧ ∀ z, z ≠ s → Hc H2 z = Hc H z) ∧
  (dk H2 (Hn H) = k ∧ dc H2 (Hn H) = Hc H s + 1 ∧ dsi H2 (Hn H) = s ∧ dl H2 (Hn H) = x ∧ dn H2 (Hn H) = m) ∧
  (k = 0 → mb H2 (HL H) = Hn H ∧ bh H2 (HL H) = b ∧ va H2 (HL H) = v ∧ bg H2 (HL H) = g) ∧
  (k = 2 → nb H2 (HN H) = Hn H ∧ nr H2 (HN H) = r) ∧
  (kn H2 s = kn H s ++ [Hn H] ∧ ∀ z, z ≠ s → kn H2 z = kn H z) ∧ pr H2 = pr H
theorem New_addH (H : Hs) (s k x m b v g r : Nat) : New H s k x m b v g r (addH H s k x m b v g r) := by
  have e7 : ∀ i, mb (addH H s k x m b v g r) i = if k = 0 ∧ i = HL H then Hn H else mb H i := fun _ => rfl
  have e8 : ∀ i, bh (addH H s k x m b v g r) i = if k = 0 ∧ i = HL H then b else bh H i := fun _ => rfl
  have e9 : ∀ i, va (addH H s k x m b v g r) i = if k = 0 ∧ i = HL H then v else va H i := fun _ => rfl
  have e10 : ∀ i, bg (addH H s k x m b v g r) i = if k = 0 ∧ i = HL H then g else bg H i := fun _ => rfl
  have e11 : ∀ i, nb (addH H s k x m b v g r) i = if k = 2 ∧ i = HN H then Hn H else nb H i := fun _ => rfl
  have e12 : ∀ i, nr (addH H s k x m b v g r) i = if k = 2 ∧ i = HN H then r else nr H i := fun _ => rfl
  have e0 : Hn (addH H s k x m b v g r) = Hn H + 1 := rfl
  have eL : HL (addH H s k x m b v g r) = HL H + (if k = 0 then 1 else 0) := rfl
  have eN : HN (addH H s k x m b v g r) = HN H + (if k = 2 then 1 else 0) := rfl
  refine ⟨⟨⟨by omega, by omega, by omega⟩, fun d hd => ?_, fun y hy => ?_, fun y hy => ?_, fun y h1 h2 => ?_, fun y h1 h2 => ?_⟩, ⟨rfl, rfl, rfl⟩, ⟨if_pos rfl, fun z hz => if_neg hz⟩, ⟨if_pos rfl, if_pos rfl, if_pos rfl, if_pos rfl, if_pos rfl⟩, fun hk => ⟨by rw [e7, if_pos ⟨hk, rfl⟩], by rw [e8, if_pos ⟨hk, rfl⟩], by rw [e9, if_pos ⟨hk, rfl⟩], by rw [e10, if_pos ⟨hk, rfl⟩]⟩, fun hk => ⟨by rw [e11, if_pos ⟨hk, rfl⟩], by rw [e12, if_pos ⟨hk, rfl⟩]⟩, ⟨if_pos rfl, fun z hz => if_neg hz⟩, rfl⟩
  · have h : ¬ d = Hn H := by omega
    exact ⟨if_neg h, if_neg h, if_neg h, if_neg h, if_neg h⟩
  · have h : ¬ (k = 0 ∧ y = HL H) := by omega
    exact ⟨by rw [e7, if_neg h], by rw [e8, if_neg h], by rw [e9, if_neg h], by rw [e10, if_neg h]⟩
  · have h : ¬ (k = 2 ∧ y = HN H) := by omega
    exact ⟨by rw [e11, if_neg h], by rw [e12, if_neg h]⟩
  · rw [eL] at h2
    by_cases hk : k = 0
    · rw [if_pos hk] at h2
      rw [e7, if_pos ⟨hk, by omega⟩]
      exact Nat.le_refl _
    · rw [if_neg hk] at h2
      omega
  · rw [eN] at h2
    by_cases hk : k = 2
    · rw [if_pos hk] at h2
      rw [e11, if_pos ⟨hk, by omega⟩]
      exact Nat.le_refl _
    · rw [if_neg hk] at h2
      omega
theorem dep_ext {H H2 : Hs} (hW : WF H) (hE : Ext H H2) {d d' : Nat} (hd : d < Hn H) : dep H2 d d' ↔ dep H d d' := by
  have h1 := hE.2.1 d hd
  have h2 := hW.2.2.2.2.1 d hd
  have h3 := hE.2.2.1 _ h2.1
  have h4 := hW.2.2.1 _ h2.1
  unfold dep
  rw [h1.1, h1.2.2.2.1, h1.2.2.2.2, h3.1, h3.2.1]
  have e1 : 0 < bh H (dl H d) → mb H2 (bh H (dl H d) - 1) = mb H (bh H (dl H d) - 1) := fun h => (hE.2.2.1 _ (by omega)).1
  have e2 : dk H d = 3 → nb H2 (dn H d) = nb H (dn H d) := fun h => (hE.2.2.2.1 _ (h2.2.2.1 (by omega))).1
  constructor
  · rintro (⟨a, b, c⟩ | q | ⟨a, b⟩)
    · exact Or.inl ⟨a, b, by rw [← e1 b]; exact c⟩
    · exact Or.inr (Or.inl q)
    · exact Or.inr (Or.inr ⟨a, by rw [← e2 a]; exact b⟩)
  · rintro (⟨a, b, c⟩ | q | ⟨a, b⟩)
    · exact Or.inl ⟨a, b, by rw [e1 b]; exact c⟩
    · exact Or.inr (Or.inl q)
    · exact Or.inr (Or.inr ⟨a, by rw [e2 a]; exact b⟩)
theorem Cau_ext {H H2 : Hs} {l : List Nat} (hW : WF H) (hE : Ext H H2) (hl : ∀ d ∈ l, d < Hn H) (hc : Cau H l) : Cau H2 l := fun a d b e d' hd => hc a d b e d' ((dep_ext hW hE (hl d (by rw [e]; simp))).mp hd)
/-- what a site may do -/
def May (H : Hs) (s k x m b v g r : Nat) : Prop :=
  s < 4 ∧ k ≤ 3 ∧ Hn H < 90 ∧ (k = 0 → x = HL H ∧ (0 < b → kL H (kn H s) (b - 1)) ∧ v ≤ 99 ∧ g ≤ 1) ∧ (0 < k → kL H (kn H s) x) ∧ (k = 2 → m = HN H ∧ 1 ≤ r ∧ r ≤ 3) ∧ (k = 3 → kN H (kn H s) m)
theorem kn_new {H : Hs} {s : Nat} (hW : WF H) (hs : s < 4) : Hn H ∉ kn H s := fun h => by
  have := (hW.2.2.2.2.2.2.2.2 s hs).2.1 _ h
  omega
theorem Cau_new {H H2 : Hs} {s k x m b v g r : Nat} (hW : WF H) (hM : May H s k x m b v g r) (hN : New H s k x m b v g r H2) : Cau H2 (kn H s ++ [Hn H]) := by
  obtain ⟨hE, -, -, ⟨f1, f2, f3, f4, f5⟩, g1, g2, -, -⟩ := hN
  obtain ⟨m1, m2, m3, m4, m5, m6, m7⟩ := hM
  have w9 := hW.2.2.2.2.2.2.2.2 s m1
  refine Cau_snoc (Cau_ext hW hE (fun d hd => (w9.2.1 d hd).1) w9.2.2.1) (fun d' hd => ?_)
  unfold dep at hd
  rw [f1, f4, f5] at hd
  rcases hd with ⟨q1, q2, q3⟩ | ⟨q1, q2⟩ | ⟨q1, q2⟩
  · obtain ⟨n1, n2, -, -⟩ := m4 q1
    rw [n1, (g1 q1).2.1] at q2 q3
    have h1 := n2 q2
    rw [q3, (hE.2.2.1 _ h1.1).1]
    exact h1.2
  · have h1 := m5 q1
    rw [q2, (hE.2.2.1 _ h1.1).1]
    exact h1.2
  · have h1 := m7 q1
    rw [q2, (hE.2.2.2.1 _ h1.1).1]
    exact h1.2
theorem WF_new {H H2 : Hs} {s k x m b v g r : Nat} (hW : WF H) (hM : May H s k x m b v g r) (hN : New H s k x m b v g r H2) : WF H2 := by
  have hcau := Cau_new hW hM hN
  obtain ⟨hE, ⟨e1, e2, e3⟩, ⟨c1, c2⟩, ⟨f1, f2, f3, f4, f5⟩, g1, g2, ⟨h1, h2⟩, -⟩ := hN
  obtain ⟨m1, m2, m3, m4, m5, m6, m7⟩ := hM
  have w9 := hW.2.2.2.2.2.2.2.2
  have hnew := kn_new hW m1
  obtain ⟨w1, w2, w3, w4, w5, w6, w7, w8, -⟩ := hW
  have hsame : ∀ d, d < Hn H → sp H2 d = sp H d := fun d hd => Ext_sp hE hd
  have hspn : sp H2 (Hn H) = 4 * (Hc H s + 1) + s := by unfold sp; rw [f2, f3]
  have hkn : ∀ z d, d ∈ kn H z → d ∈ kn H2 z := by
    intro z d hd
    by_cases e : z = s
    · rw [e] at hd ⊢
      rw [h1]
      exact List.mem_append_left _ hd
    · rw [h2 z e]; exact hd
  have hold : ∀ d, d ∈ kn H s → sp H d < 4 * (Hc H s + 1) + s := by
    intro d hd
    have q := (w9 s m1).2.1 d hd
    have := (w2 d q.1).2.1
    unfold sp
    omega
  have hlt2 : ∀ d, d < Hn H2 → d < Hn H ∨ d = Hn H := fun d hd => by omega
  refine ⟨⟨?_, by omega⟩, ?_, ?_, ?_, ?_, ?_, ?_, ?_, ?_⟩
  · rw [e1, e2, e3]
    by_cases q : k = 0
    · rw [if_pos q, if_neg (by omega)]; omega
    · rw [if_neg q]
      split <;> omega
  · intro d hd
    rcases hlt2 d hd with q | q
    · have e := hE.2.1 d q
      rw [e.1, e.2.2.1]
      exact ⟨(w2 d q).1, (w2 d q).2.1, hkn _ _ (w2 d q).2.2⟩
    · rw [q, f1, f3, h1]
      exact ⟨m2, m1, by simp⟩
  · intro y hy
    by_cases q : y < HL H
    · have e := hE.2.2.1 y q
      have w := w3 y q
      have e9 := hE.2.1 _ w.1
      rw [e.1, e.2.1, e.2.2.1, e.2.2.2, e9.1, e9.2.2.2.1]
      exact ⟨by omega, w.2⟩
    · have hk : k = 0 := by
        rcases Nat.eq_zero_or_pos k with r0 | r0
        · exact r0
        · rw [e2, if_neg (by omega)] at hy; omega
      rw [e2, if_pos hk] at hy
      have : y = HL H := by omega
      subst this
      obtain ⟨n1, n2, n3, n4⟩ := g1 hk
      obtain ⟨o1, o2, o3, o4⟩ := m4 hk
      rw [n1, n2, n3, n4, f1, f4]
      refine ⟨by omega, hk, o1, ?_, o3, o4⟩
      rcases Nat.eq_zero_or_pos b with r0 | r0
      · omega
      · have := (o2 r0).1
        omega
  · intro y hy
    by_cases q : y < HN H
    · have e := hE.2.2.2.1 y q
      have w := w4 y q
      have e9 := hE.2.1 _ w.1
      rw [e.1, e.2, e9.1, e9.2.2.2.2]
      exact ⟨by omega, w.2⟩
    · have hk : k = 2 := by
        by_cases r0 : k = 2
        · exact r0
        · rw [e3, if_neg r0] at hy; omega
      rw [e3, if_pos hk] at hy
      have : y = HN H := by omega
      subst this
      obtain ⟨n1, n2⟩ := g2 hk
      obtain ⟨o1, o2, o3⟩ := m6 hk
      rw [n1, n2, f1, f5]
      exact ⟨by omega, hk, o1, o2, o3⟩
  · intro d hd
    rcases hlt2 d hd with q | q
    · have e := hE.2.1 d q
      have w := w5 d q
      rw [e.1, e.2.2.2.1, e.2.2.2.2, (hE.2.2.1 _ w.1).1]
      refine ⟨by have := hE.1.2.1; omega, w.2.1, fun h => by have := w.2.2.1 h; have := hE.1.2.2; omega, fun h => ?_⟩
      rw [(hE.2.2.2.1 _ (w.2.2.1 (by omega))).1]
      exact w.2.2.2 h
    · rw [q, f1, f4, f5]
      refine ⟨?_, fun h => ?_, fun h => ?_, fun h => ?_⟩
      · rcases Nat.eq_zero_or_pos k with r0 | r0
        · rw [e2, if_pos r0, (m4 r0).1]; omega
        · have := (m5 r0).1
          omega
      · rw [(m4 h).1]; exact (g1 h).1
      · by_cases r0 : k = 2
        · rw [e3, if_pos r0, (m6 r0).1]; omega
        · have := (m7 (by omega)).1
          omega
      · rw [(m6 h).1]; exact (g2 h).1
  · have key : ∀ d, d < Hn H → sp H2 d ≠ sp H2 (Hn H) := by
      intro d hd e
      rw [hsame d hd, hspn] at e
      have a1 := (w2 d hd).2
      unfold sp at e
      have a2 : dsi H d = s := by omega
      rw [a2] at a1
      have := hold d a1.2
      unfold sp at this
      omega
    intro d hd d' hd' e
    rcases hlt2 d hd with q | q <;> rcases hlt2 d' hd' with q' | q'
    · rw [hsame d q, hsame d' q'] at e
      exact w6 d q d' q' e
    · rw [q'] at e
      exact absurd e (key d q)
    · rw [q] at e
      exact absurd e.symm (key d' q')
    · omega
  · intro y hy hb
    have hslo : ∀ w, w < HL H → sl H2 w = sl H w := fun w hw => by
      unfold sl
      rw [(hE.2.2.1 w hw).1, hsame _ (w3 w hw).1]
    by_cases q : y < HL H
    · have e := hE.2.2.1 y q
      rw [e.2.1] at hb ⊢
      have w := w3 y q
      rw [hslo y q, hslo _ (by omega)]
      exact w7 y q hb
    · have hk : k = 0 := by
        rcases Nat.eq_zero_or_pos k with r0 | r0
        · exact r0
        · rw [e2, if_neg (by omega)] at hy; omega
      rw [e2, if_pos hk] at hy
      have : y = HL H := by omega
      subst this
      obtain ⟨n1, n2, n3, n4⟩ := g1 hk
      obtain ⟨o1, o2, o3, o4⟩ := m4 hk
      rw [n2] at hb ⊢
      have o5 := o2 hb
      rw [hslo _ o5.1]
      show sp H (mb H (b - 1)) < sp H2 (mb H2 (HL H))
      rw [n1, hspn]
      exact hold _ o5.2
  · intro d hd h3
    rcases hlt2 d hd with q | q
    · have e := hE.2.1 d q
      rw [e.1] at h3
      have w := (w5 d q).2.2.1 (by omega)
      rw [e.2.2.2.2, (hE.2.2.2.1 _ w).1, hsame d q, hsame _ (w4 _ w).1]
      exact w8 d q h3
    · rw [q, f1] at h3
      have w := m7 h3
      rw [q, f5, (hE.2.2.2.1 _ w.1).1, hspn, hsame _ (w4 _ w.1).1]
      exact hold _ w.2
  · intro z hz
    have w := w9 z hz
    by_cases e : z = s
    · subst e
      rw [h1, c1]
      refine ⟨?_, ?_, hcau, by omega⟩
      · refine List.nodup_append.mpr ⟨w.1, by simp, fun a ha b' hb' e => ?_⟩
        have : b' = Hn H := by simpa using hb'
        rw [e, this] at ha
        exact hnew ha
      · intro d hd
        rcases List.mem_append.mp hd with q | q
        · have q1 := w.2.1 d q
          rw [(hE.2.1 d q1.1).2.1]
          exact ⟨by omega, by omega⟩
        · have : d = Hn H := by simpa using q
          rw [this, f2]
          exact ⟨by omega, Nat.le_refl _⟩
    · rw [h2 z e, c2 z e]
      refine ⟨w.1, fun d hd => ?_, Cau_ext ⟨w1, w2, w3, w4, w5, w6, w7, w8, w9⟩ hE (fun d hd => (w.2.1 d hd).1) w.2.2.1, by omega⟩
      have q1 := w.2.1 d hd
      rw [(hE.2.1 d q1.1).2.1]
      exact ⟨by omega, q1.2⟩
