/-! THE MODEL MAKES A DEED -/
def mres (f : Nat → Nat) (a : Nat ⊕ Int32) (v : Int32) (S1 : St) : Prop := (∀ e, a = .inl e → gi S1 0 = nI (f e)) ∧ (∀ r, a = .inr r → gi S1 0 = 0 ∧ v = r)
theorem goes0 {S : St} : f_X7_goesWell S 0 = some (1, si S 0 0) := rfl
theorem goesN {S : St} {t : Int32} (h : ¬ t = 0) : f_X7_goesWell S t = some (0, si S 0 t) := by
  unfold f_X7_goesWell lt
  dsimp only
  rw [if_pos h]
theorem OK_c2 {α β R : Type} {x : Option (α × β)} {k : α → β → Option R} {a : α} {b : β} {P : R → Prop} (h : x = some (a, b)) (h1 : OK (k a b) P) : OK (cl2 x k) P := by rw [h]; exact h1
theorem RM_si0 {S : St} {H : Hs} {v : Int32} (h : RM S H) : RM (si S 0 v) H := RM_offP (off_si.P (Or.inl rfl)) h
section MDEED
variable {S : St} {H H2 : Hs} {s k x m b v g r : Nat}
theorem nar_1 : vp_nar .boolean (1 : Int32) = 1 := rfl
theorem m_learn {z d n : Nat} (hz : z < 4) (hd : d < 90) (h16 : ga S 16 z = nI n) (hn : n < 90) :
    OK (f_X7_learn S (nI z) (nI d)) (fun S1 => ga S1 18 = upd (ga S 18) (90 * z + d) 1 ∧ ga S1 17 = upd (ga S 17) (90 * z + n) (nI d) ∧ ga S1 16 = upd (ga S 16) z (nI (n + 1)) ∧ (∀ j, j ≠ 16 → j ≠ 17 → j ≠ 18 → ga S1 j = ga S j) ∧ ∀ j, gi S1 j = gi S j) := by
  unfold f_X7_learn
  rw [k90, ck_eq (by omega) (by omega), nI_clamp (n := 90 * z + d) (by omega)]
  refine OK_lt ?_
  rw [ck_eq hz (by omega), nI_clamp (n := z) (by omega), ga_sa, if_neg (by decide), h16, k90, ck_eq (by omega) (by omega), nI_clamp (n := 90 * z + n) (by omega)]
  refine OK_lt ?_
  rw [ck_eq hz (by omega), ck_eq hz (by omega), ga_sa, if_neg (by decide), ga_sa, if_neg (by decide), h16, nI_1]
  refine OK_lt (OK_some ⟨?_, ?_, ?_, fun j h1 h2 h3 => ?_, fun j => rfl⟩)
  · rw [ga_sa, if_neg (by decide), ga_sa, if_neg (by decide), ga_sa_eq]; rfl
  · rw [ga_sa, if_neg (by decide), ga_sa_eq, ga_sa, if_neg (by decide)]
  · rw [ga_sa_eq, ga_sa, if_neg (by decide), ga_sa, if_neg (by decide)]
  · rw [ga_sa, if_neg h1, ga_sa, if_neg h2, ga_sa, if_neg h3]
/-- what the model's arrays are once a deed is made -/
def DeedEq (S S1 : St) (z n c len : Nat) (kk xx mm : Int32) : Prop :=
  (gi S1 1 = nI (n + 1) ∧ ∀ j, j ≠ 1 → gi S1 j = gi S j) ∧
  (ga S1 2 = upd (ga S 2) n kk ∧ ga S1 3 = upd (ga S 3) n (nI (c + 1)) ∧ ga S1 4 = upd (ga S 4) n (nI z) ∧ ga S1 5 = upd (ga S 5) n xx ∧ ga S1 6 = upd (ga S 6) n mm) ∧
  (ga S1 15 = upd (ga S 15) z (nI (c + 1)) ∧ ga S1 16 = upd (ga S 16) z (nI (len + 1)) ∧ ga S1 17 = upd (ga S 17) (90 * z + len) (nI n) ∧ ga S1 18 = upd (ga S 18) (90 * z + n) 1) ∧
  (∀ j, 7 ≤ j → j < 15 → ga S1 j = ga S j) ∧ (∀ j, 19 ≤ j → ga S1 j = ga S j)
theorem m_deed {z n c len : Nat} {kk xx mm : Int32} (hz : z < 4) (hn : n < 90) (h1 : gi S 1 = nI n) (h15 : ga S 15 z = nI c) (h16 : ga S 16 z = nI len) (hl : len < 90) :
    OK (f_X7_deed S (nI z) kk xx mm) (fun q => q.1 = nI n ∧ DeedEq S q.2 z n c len kk xx mm) := by
  unfold f_X7_deed
  rw [ck_eq hz (by omega), ck_eq hz (by omega), nI_clamp (n := z) (by omega), h15, nI_1]
  refine OK_lt ?_
  rw [gi_sa, h1, ck_eq hn (by omega), nI_clamp (n := n) (by omega)]
  refine OK_lt ?_
  rw [ck_eq hz (by omega), gi_sa, gi_sa, h1, ck_eq hn (by omega), nI_clamp (n := n) (by omega), ga_sa, if_neg (by decide), ga_sa_eq, upd_eq]
  refine OK_lt ?_
  rw [gi_sa, gi_sa, gi_sa, h1, ck_eq hn (by omega), nI_clamp (n := n) (by omega)]
  refine OK_lt ?_
  rw [gi_sa, gi_sa, gi_sa, gi_sa, h1, ck_eq hn (by omega), nI_clamp (n := n) (by omega)]
  refine OK_lt ?_
  rw [gi_sa, gi_sa, gi_sa, gi_sa, gi_sa, h1, ck_eq hn (by omega), nI_clamp (n := n) (by omega)]
  refine OK_lt ?_
  rw [gi_sa, gi_sa, gi_sa, gi_sa, gi_sa, gi_sa, h1, nI_1]
  refine OK_lt ?_
  rw [gi_si_eq, nI_pred]
  obtain ⟨S5, hS5⟩ : ∃ S5, S5 = si (sa (sa (sa (sa (sa (sa S 15 z (nI (c + 1))) 2 n kk) 3 n (nI (c + 1))) 4 n (nI z)) 5 n xx) 6 n mm) 1 (nI (n + 1)) := ⟨_, rfl⟩
  rw [← hS5]
  have e2 : ga S5 2 = upd (ga S 2) n kk := by rw [hS5]; rfl
  have e3 : ga S5 3 = upd (ga S 3) n (nI (c + 1)) := by rw [hS5]; rfl
  have e4 : ga S5 4 = upd (ga S 4) n (nI z) := by rw [hS5]; rfl
  have e5 : ga S5 5 = upd (ga S 5) n xx := by rw [hS5]; rfl
  have e6 : ga S5 6 = upd (ga S 6) n mm := by rw [hS5]; rfl
  have e15 : ga S5 15 = upd (ga S 15) z (nI (c + 1)) := by rw [hS5]; rfl
  have e16 : ga S5 16 = ga S 16 := by rw [hS5]; rfl
  have e17 : ga S5 17 = ga S 17 := by rw [hS5]; rfl
  have e18 : ga S5 18 = ga S 18 := by rw [hS5]; rfl
  have eo : ∀ j, j ≠ 2 → j ≠ 3 → j ≠ 4 → j ≠ 5 → j ≠ 6 → j ≠ 15 → ga S5 j = ga S j := fun j a1 a2 a3 a4 a5 a6 => by
    rw [hS5, ga_si, ga_sa, if_neg a5, ga_sa, if_neg a4, ga_sa, if_neg a3, ga_sa, if_neg a2, ga_sa, if_neg a1, ga_sa, if_neg a6]
  have g1 : gi S5 1 = nI (n + 1) := by rw [hS5, gi_si_eq]
  have go : ∀ j, j ≠ 1 → gi S5 j = gi S j := fun j hj => by rw [hS5, gi_si, if_neg hj]; rfl
  refine OK_cl (m_learn hz hn (by rw [e16]; exact h16) hl) ?_
  rintro S6 ⟨d1, d2, d3, d4, d5⟩
  rw [d5, g1, nI_pred]
  refine OK_some ⟨rfl, ⟨by rw [d5]; exact g1, fun j hj => by rw [d5]; exact go j hj⟩, ⟨?_, ?_, ?_, ?_, ?_⟩, ⟨?_, ?_, ?_, ?_⟩, fun j a1 a2 => ?_, fun j a1 => ?_⟩
  · rw [d4 2 (by decide) (by decide) (by decide)]; exact e2
  · rw [d4 3 (by decide) (by decide) (by decide)]; exact e3
  · rw [d4 4 (by decide) (by decide) (by decide)]; exact e4
  · rw [d4 5 (by decide) (by decide) (by decide)]; exact e5
  · rw [d4 6 (by decide) (by decide) (by decide)]; exact e6
  · rw [d4 15 (by decide) (by decide) (by decide)]; exact e15
  · rw [d3, e16]
  · rw [d2, e17]
  · rw [d1, e18]
  · rw [d4 j (by omega) (by omega) (by omega), eo j (by omega) (by omega) (by omega) (by omega) (by omega) (by omega)]
  · rw [d4 j (by omega) (by omega) (by omega), eo j (by omega) (by omega) (by omega) (by omega) (by omega) (by omega)]
theorem kn_len {z : Nat} (hW : WF H) (hz : z < 4) : (kn H z).length ≤ Hn H := by
  have w := hW.2.2.2.2.2.2.2.2 z hz
  have := nd_len (b := List.range (Hn H)) w.1 (fun x hx => List.mem_range.mpr (w.2.1 x hx).1)
  simpa using this
theorem upd_at {f : Nat → Int32} {i : Nat} {v : Int32} {j : Nat} {w : Int32} (h1 : j = i → v = w) (h2 : j ≠ i → f j = w) : upd f i v j = w := by
  by_cases e : j = i
  · rw [e, upd_eq]; exact h1 e
  · rw [upd_ne e]; exact h2 e
/-- the model shows the longer history -/
theorem RM_new {S1 : St} {kk xx mm : Int32} {c len : Nat} (hM : RM S H) (hMay : May H s k x m b v g r) (hN : New H s k x m b v g r H2)
    (hg : gi S1 1 = nI (Hn H + 1) ∧ gi S1 7 = nI (HL H2) ∧ gi S1 12 = nI (HN H2) ∧ gi S1 19 = gi S 19)
    (hc : c = Hc H s) (hlen : len = (kn H s).length) (hk : kk = nI k) (hx : xx = nI x) (hm : 2 ≤ k → mm = nI m)
    (h2 : ga S1 2 = upd (ga S 2) (Hn H) kk ∧ ga S1 3 = upd (ga S 3) (Hn H) (nI (c + 1)) ∧ ga S1 4 = upd (ga S 4) (Hn H) (nI s) ∧ ga S1 5 = upd (ga S 5) (Hn H) xx ∧ ga S1 6 = upd (ga S 6) (Hn H) mm)
    (h15 : ga S1 15 = upd (ga S 15) s (nI (c + 1)) ∧ ga S1 16 = upd (ga S 16) s (nI (len + 1)) ∧ ga S1 17 = upd (ga S 17) (90 * s + len) (nI (Hn H)) ∧ ga S1 18 = upd (ga S 18) (90 * s + Hn H) 1)
    (hL : ∀ y, y < HL H → ga S1 8 y = ga S 8 y ∧ ga S1 9 y = ga S 9 y ∧ ga S1 10 y = ga S 10 y ∧ ga S1 11 y = ga S 11 y)
    (hL0 : k = 0 → ga S1 8 (HL H) = nI (Hn H) ∧ ga S1 9 (HL H) = nI b - 1 ∧ ga S1 10 (HL H) = nI v ∧ ga S1 11 (HL H) = nI g)
    (hNt : ∀ y, y < HN H → ga S1 13 y = ga S 13 y ∧ ga S1 14 y = ga S 14 y)
    (hN0 : k = 2 → ga S1 13 (HN H) = nI (Hn H) ∧ ga S1 14 (HN H) = nI r)
    (hp : ga S1 20 = ga S 20 ∧ ga S1 21 = ga S 21 ∧ ga S1 22 = ga S 22) : RM S1 H2 := by
  have hW2 := WF_new hM.1 hMay hN
  have hbs := mbs hM
  have hs := hMay.1
  have h90 := hMay.2.2.1
  have hklen := kn_len hM.1 hs
  obtain ⟨hE, ⟨e1, e2, e3⟩, ⟨c1, c2⟩, ⟨f1, f2, f3, f4, f5⟩, g0, g2, ⟨k1, k2⟩, k3⟩ := hN
  refine ⟨hW2, ⟨⟨by rw [e1]; exact hg.1, hg.2.1, hg.2.2.1⟩, fun d hd => ?_, fun y hy => ?_, fun y hy => ?_⟩, fun z hz => ?_, ⟨?_, ?_, ?_⟩, ?_⟩
  · rw [e1] at hd
    rw [h2.1, h2.2.1, h2.2.2.1, h2.2.2.2.1, h2.2.2.2.2]
    by_cases e : d = Hn H
    · rw [e, upd_eq, upd_eq, upd_eq, upd_eq, upd_eq, f1, f2, f3, f4, f5]
      exact ⟨hk, by rw [hc], rfl, hx, hm⟩
    · rw [upd_ne e, upd_ne e, upd_ne e, upd_ne e, upd_ne e]
      have q := hE.2.1 d (by omega)
      rw [q.1, q.2.1, q.2.2.1, q.2.2.2.1, q.2.2.2.2]
      exact mD hM (by omega)
  · by_cases e : y < HL H
    · have q := hL y e
      have q2 := hE.2.2.1 y e
      rw [q.1, q.2.1, q.2.2.1, q.2.2.2, q2.1, q2.2.1, q2.2.2.1, q2.2.2.2]
      exact mL hM e
    · have hk0 : k = 0 := by
        rcases Nat.eq_zero_or_pos k with q | q
        · exact q
        · rw [e2, if_neg (by omega)] at hy; omega
      rw [e2, if_pos hk0] at hy
      have : y = HL H := by omega
      subst this
      obtain ⟨n1, n2, n3, n4⟩ := g0 hk0
      rw [n1, n2, n3, n4]
      exact hL0 hk0
  · by_cases e : y < HN H
    · have q := hNt y e
      have q2 := hE.2.2.2.1 y e
      rw [q.1, q.2, q2.1, q2.2]
      exact mN hM e
    · have hk0 : k = 2 := by
        by_cases q : k = 2
        · exact q
        · rw [e3, if_neg q] at hy; omega
      rw [e3, if_pos hk0] at hy
      have : y = HN H := by omega
      subst this
      obtain ⟨n1, n2⟩ := g2 hk0
      rw [n1, n2]
      exact hN0 hk0
  · obtain ⟨a1, a2, a3, a4⟩ := hM.2.2.1 z hz
    have hzl := kn_len hM.1 hz
    unfold MS
    rw [h15.1, h15.2.1, h15.2.2.1, h15.2.2.2]
    by_cases e : z = s
    · subst e
      rw [k1, c1]
      refine ⟨by rw [upd_eq, hc], by rw [upd_eq, List.length_append, hlen]; rfl, fun i d hd => ?_, fun d hd => ?_⟩
      · have hi := (List.getElem?_eq_some_iff.mp hd).1
        rw [List.length_append, List.length_singleton] at hi
        refine upd_at (fun q => ?_) (fun q => ?_)
        · have : i = (kn H z).length := by omega
          subst this
          rw [List.getElem?_append_right (Nat.le_refl _), Nat.sub_self] at hd
          injection hd with hd
          rw [← hd]
        · rw [List.getElem?_append_left (by omega)] at hd
          exact a3 i d hd
      · refine upd_at (fun q => ?_) (fun q => ?_)
        · rw [if_pos]
          have : d = Hn H := by omega
          rw [this]; simp
        · rw [a4 d hd]
          have : d ≠ Hn H := by omega
          by_cases q2 : d ∈ kn H z
          · rw [if_pos q2, if_pos (List.mem_append_left _ q2)]
          · rw [if_neg q2, if_neg]
            intro h
            rcases List.mem_append.mp h with h | h
            · exact q2 h
            · exact this (by simpa using h)
    · rw [k2 z e, c2 z e, upd_ne e, upd_ne e]
      refine ⟨a1, a2, fun i d hd => ?_, fun d hd => ?_⟩
      · have hi := (List.getElem?_eq_some_iff.mp hd).1
        rw [upd_ne (by omega)]
        exact a3 i d hd
      · rw [upd_ne (by omega)]
        exact a4 d hd
  · rw [hg.2.2.2, k3]; exact hM.2.2.2.1.1
  · rw [hp.1, k3]; exact hM.2.2.2.1.2.1
  · rw [hp.2.1, hp.2.2, k3]; exact hM.2.2.2.1.2.2
  · rw [k3]; exact hM.2.2.2.2
end MDEED
