/-! THE MODEL SHOWS THE HISTORY -/
def MT (S : St) (H : Hs) : Prop :=
  (gi S 1 = nI (Hn H) ∧ gi S 7 = nI (HL H) ∧ gi S 12 = nI (HN H)) ∧
  (∀ d, d < Hn H → ga S 2 d = nI (dk H d) ∧ ga S 3 d = nI (dc H d) ∧ ga S 4 d = nI (dsi H d) ∧ ga S 5 d = nI (dl H d) ∧ (2 ≤ dk H d → ga S 6 d = nI (dn H d))) ∧
  (∀ x, x < HL H → ga S 8 x = nI (mb H x) ∧ ga S 9 x = nI (bh H x) - 1 ∧ ga S 10 x = nI (va H x) ∧ ga S 11 x = nI (bg H x)) ∧
  (∀ m, m < HN H → ga S 13 m = nI (nb H m) ∧ ga S 14 m = nI (nr H m))
def MS (S : St) (H : Hs) (z : Nat) : Prop :=
  ga S 15 z = nI (Hc H z) ∧ ga S 16 z = nI (kn H z).length ∧ (∀ i d, (kn H z)[i]? = some d → ga S 17 (90 * z + i) = nI d) ∧ (∀ d, d < 90 → ga S 18 (90 * z + d) = if d ∈ kn H z then 1 else 0)
def MP (S : St) (Q : List (List (Nat × Nat))) : Prop :=
  gi S 19 = nI (Q.length / 2) ∧ (∀ p, p < 200 → ga S 20 p = nI ((Q[p]?).getD []).length) ∧ (∀ p pg, Q[p]? = some pg → ∀ i q, pg[i]? = some q → ga S 21 (6 * p + i) = nI q.1 ∧ ga S 22 (6 * p + i) = nI q.2)
def RM (S : St) (H : Hs) : Prop := WF H ∧ MT S H ∧ (∀ z, z < 4 → MS S H z) ∧ MP S (pr H) ∧ PW (pr H)
/-- the model's own room for its answers -/
def mscr (j : Nat) : Prop := j = 0 ∨ 23 ≤ j
theorem RM_offP {S S1 : St} {H : Hs} (ho : offP mscr S S1) (h : RM S H) : RM S1 H := by
  have e : ∀ j, 1 ≤ j → j < 23 → gi S1 j = gi S j ∧ ga S1 j = ga S j := fun j h1 h2 => ho j (fun q => by unfold mscr at q; omega)
  obtain ⟨h1, ⟨h2, h3, h4, h5⟩, h6, ⟨h7, h8, h9⟩, h10⟩ := h
  refine ⟨h1, ⟨?_, ?_, ?_, ?_⟩, fun z hz => ?_, ⟨?_, ?_, ?_⟩, h10⟩
  · rw [(e 1 (by omega) (by omega)).1, (e 7 (by omega) (by omega)).1, (e 12 (by omega) (by omega)).1]; exact h2
  · rw [(e 2 (by omega) (by omega)).2, (e 3 (by omega) (by omega)).2, (e 4 (by omega) (by omega)).2, (e 5 (by omega) (by omega)).2, (e 6 (by omega) (by omega)).2]; exact h3
  · rw [(e 8 (by omega) (by omega)).2, (e 9 (by omega) (by omega)).2, (e 10 (by omega) (by omega)).2, (e 11 (by omega) (by omega)).2]; exact h4
  · rw [(e 13 (by omega) (by omega)).2, (e 14 (by omega) (by omega)).2]; exact h5
  · unfold MS
    rw [(e 15 (by omega) (by omega)).2, (e 16 (by omega) (by omega)).2, (e 17 (by omega) (by omega)).2, (e 18 (by omega) (by omega)).2]; exact h6 z hz
  · rw [(e 19 (by omega) (by omega)).1]; exact h7
  · rw [(e 20 (by omega) (by omega)).2]; exact h8
  · rw [(e 21 (by omega) (by omega)).2, (e 22 (by omega) (by omega)).2]; exact h9
theorem in_yes {S : St} {x a b : Int32} (h1 : ¬ x < a) (h2 : ¬ b < x) : f_X7_in S x a b = some 1 := by
  unfold f_X7_in jn
  dsimp only
  rw [if_neg h1, if_neg h2]
theorem in_no {S : St} {x a b : Int32} (h : x < a ∨ b < x) : f_X7_in S x a b = some 0 := by
  unfold f_X7_in jn
  dsimp only
  by_cases h1 : x < a
  · rw [if_pos h1]
  · rw [if_neg h1, if_pos (h.resolve_left h1)]
theorem lim_lt {n j : Nat} (hn : n ≤ 2000) (hj : j < 2 ^ 31) : (nI n - 1 < nI j) ↔ n ≤ j := by
  rcases Nat.eq_zero_or_pos n with q | q
  · subst q
    exact ⟨fun _ => Nat.zero_le _, fun _ => nI_neg1_lt hj⟩
  · rw [nI_sub1 q, nI_ltI (by omega) hj]
    omega
theorem isSite_yes {S : St} {z : Nat} (hz : z < 4) : f_X7_isSite S (nI z) = some 1 := by
  unfold f_X7_isSite
  rw [show (3 : Int32) = nI 3 from rfl, in_yes (nI_pos (by omega)) (nI_nlt (by omega) (by omega))]
  rfl
theorem isSite_no {S : St} {x : Int32} (h : ¬ isS x) : f_X7_isSite S x = some 0 := by
  unfold f_X7_isSite
  rw [in_no]
  · rfl
  · rcases neg_cases x with q | ⟨j, hj, rfl⟩
    · exact Or.inl q
    · refine Or.inr (show nI 3 < nI j from nI_lt ?_ hj)
      rcases Nat.lt_or_ge 3 j with q | q
      · exact q
      · exact absurd ⟨j, by omega, rfl⟩ h
section MODEL
variable {S : St} {H : Hs} {z : Nat}
theorem k90 (a b : Nat) : (90 : Int32) * nI a + nI b = nI (90 * a + b) := by
  show nI 90 * nI a + nI b = _
  rw [nI_mul, nI_add]
theorem ck_eq {R : Type} {i n : Nat} {k : Option R} (h : i < n) (hn : n < 2 ^ 31) : ck (nI i) n k = k := by
  unfold ck
  rw [if_neg (nI_in h hn)]
theorem mhas {d : Nat} (hM : RM S H) (hz : z < 4) (hd : d < 90) : ga S 18 (90 * z + d) = if d ∈ kn H z then 1 else 0 := (hM.2.2.1 z hz).2.2.2 d hd
theorem mL {x : Nat} (hM : RM S H) (hx : x < HL H) : ga S 8 x = nI (mb H x) ∧ ga S 9 x = nI (bh H x) - 1 ∧ ga S 10 x = nI (va H x) ∧ ga S 11 x = nI (bg H x) := hM.2.1.2.2.1 x hx
theorem mN {m : Nat} (hM : RM S H) (hm : m < HN H) : ga S 13 m = nI (nb H m) ∧ ga S 14 m = nI (nr H m) := hM.2.1.2.2.2 m hm
theorem mD {d : Nat} (hM : RM S H) (hd : d < Hn H) : ga S 2 d = nI (dk H d) ∧ ga S 3 d = nI (dc H d) ∧ ga S 4 d = nI (dsi H d) ∧ ga S 5 d = nI (dl H d) ∧ (2 ≤ dk H d → ga S 6 d = nI (dn H d)) := hM.2.1.2.1 d hd
theorem mbs (hM : RM S H) : HL H ≤ 90 ∧ HN H ≤ 90 ∧ Hn H ≤ 90 := by
  have := hM.1.1
  omega
theorem m_knowsLine {x : Int32} (hM : RM S H) (hz : z < 4) : (LK H (kn H z) x → f_X7_knowsLine S (nI z) x = some 1) ∧ (¬ LK H (kn H z) x → f_X7_knowsLine S (nI z) x = some 0) := by
  have hb := mbs hM
  unfold f_X7_knowsLine
  rw [hM.2.1.1.2.1]
  rcases neg_cases x with q | ⟨j, hj, rfl⟩
  · rw [in_no (Or.inl q)]
    refine ⟨?_, fun _ => rfl⟩
    rintro ⟨y, rfl, hk⟩
    exact absurd q (nI_pos (by have := kL_90 hM.1 hk; omega))
  · rw [LK_nI hM.1 hj]
    by_cases hL : HL H ≤ j
    · rw [in_no (Or.inr ((lim_lt (by omega) hj).mpr hL))]
      exact ⟨fun h => by have := h.1; omega, fun _ => rfl⟩
    · rw [in_yes (nI_pos hj) (fun q => hL ((lim_lt (by omega) hj).mp q))]
      unfold cl jn
      dsimp only
      rw [Option.bind_some, if_neg (show ¬ (1 : Int32) = 0 by decide), ck_eq (by omega) (by omega), nI_clamp hj, (mL hM (by omega)).1, k90]
      have hm := (hM.1.2.2.1 j (by omega)).1
      rw [ck_eq (by omega) (by omega), nI_clamp (by omega), mhas hM hz (by omega)]
      refine ⟨fun h => ?_, fun h => ?_⟩
      · rw [if_pos h.2, if_neg (by decide)]
      · rw [if_neg (fun q => h ⟨by omega, q⟩), if_pos rfl]
theorem m_knowsNote {x : Int32} (hM : RM S H) (hz : z < 4) : (NK H (kn H z) x → f_X7_knowsNote S (nI z) x = some 1) ∧ (¬ NK H (kn H z) x → f_X7_knowsNote S (nI z) x = some 0) := by
  have hb := mbs hM
  unfold f_X7_knowsNote
  rw [hM.2.1.1.2.2]
  rcases neg_cases x with q | ⟨j, hj, rfl⟩
  · rw [in_no (Or.inl q)]
    refine ⟨?_, fun _ => rfl⟩
    rintro ⟨y, rfl, hk⟩
    exact absurd q (nI_pos (by have := kN_90 hM.1 hk; omega))
  · rw [NK_nI hM.1 hj]
    by_cases hL : HN H ≤ j
    · rw [in_no (Or.inr ((lim_lt (by omega) hj).mpr hL))]
      exact ⟨fun h => by have := h.1; omega, fun _ => rfl⟩
    · rw [in_yes (nI_pos hj) (fun q => hL ((lim_lt (by omega) hj).mp q))]
      unfold cl jn
      dsimp only
      rw [Option.bind_some, if_neg (show ¬ (1 : Int32) = 0 by decide), ck_eq (by omega) (by omega), nI_clamp hj, (mN hM (by omega)).1, k90]
      have hm := (hM.1.2.2.2.1 j (by omega)).1
      rw [ck_eq (by omega) (by omega), nI_clamp (by omega), mhas hM hz (by omega)]
      refine ⟨fun h => ?_, fun h => ?_⟩
      · rw [if_pos h.2, if_neg (by decide)]
      · rw [if_neg (fun q => h ⟨by omega, q⟩), if_pos rfl]
theorem tkn_iff {l : List Nat} {x : Nat} : tkn H l x = true ↔ ∃ d ∈ l, dk H d = 1 ∧ dl H d = x := by
  unfold tkn
  rw [List.any_eq_true]
  simp
theorem m_isThere {x : Nat} (hM : RM S H) (hz : z < 4) (hx : x < 90) : f_X7_isThere S (nI z) (nI x) = some (if tkn H (kn H z) x = true then 0 else 1) := by
  have hb := mbs hM
  suffices h9 : OK (f_X7_isThere S (nI z) (nI x)) (fun v => v = if tkn H (kn H z) x = true then 0 else 1) by
    obtain ⟨v, h1, rfl⟩ := h9
    exact h1
  unfold f_X7_isThere
  refine Lp2_ok (fun f y => ∃ t, y = nI t ∧ t ≤ Hn H ∧ ((f = 0 ∧ tkn H (kn H z) x = true) ∨ (f = 1 ∧ ∀ d, d < t → ¬ (d ∈ kn H z ∧ dk H d = 1 ∧ dl H d = x)))) (fun _ y => 200 - y.toNatClampNeg) ?_ FU _ _ ⟨0, rfl, Nat.zero_le _, Or.inr ⟨rfl, fun d h => by omega⟩⟩ (by rw [FU_1000]; omega)
  rintro next f y ⟨t, rfl, k1, k2⟩ hn
  rw [hM.2.1.1.1]
  refine OK_ite (fun c => ?_) (fun c => ?_)
  · have ht : t = Hn H := by
      have := (nI_leI (by omega) (by omega)).mp c
      omega
    rcases k2 with ⟨rfl, q⟩ | ⟨rfl, q⟩
    · exact OK_bz (Or.inl rfl) (OK_some (by rw [if_pos q]))
    · refine OK_bz (Or.inr rfl) (OK_some ?_)
      rw [if_neg]
      intro h
      obtain ⟨d, h1, h2, h3⟩ := tkn_iff.mp h
      exact q d (by rw [ht]; exact ((hM.1.2.2.2.2.2.2.2.2 z hz).2.1 d h1).1) ⟨h1, h2, h3⟩
  · have ht : t < Hn H := by
      rcases Nat.lt_or_ge t (Hn H) with q | q
      · exact q
      · exact absurd (nI_le q (by omega)) c
    have hm : 200 - (nI (t + 1)).toNatClampNeg < 200 - (nI t).toNatClampNeg := by rw [nI_clamp (by omega), nI_clamp (by omega)]; omega
    obtain ⟨m1, m2, m3, m4, m5⟩ := mD hM ht
    refine OK_jnQ (tkn H (kn H z) x = true) (fun h => ?_) (fun j59 hj59 => ?_)
    · refine OK_lt ?_
      rw [nI_1]
      exact hn _ _ ⟨t + 1, rfl, ht, Or.inl ⟨rfl, h⟩⟩ hm
    refine OK_jn ?_
    rcases k2 with ⟨rfl, q⟩ | ⟨rfl, q⟩
    · exact OK_pos rfl (hj59 q)
    refine OK_neg (by decide) ?_
    have h90 : t < 90 := by omega
    rw [ck_eq h90 (by omega), nI_clamp (by omega)]
    refine OK_jnQ (¬ (t ∈ kn H z ∧ dk H t = 1 ∧ dl H t = x)) (fun h => ?_) (fun j55 hj55 => ?_)
    · refine OK_lt ?_
      rw [nI_1]
      refine hn _ _ ⟨t + 1, rfl, ht, Or.inr ⟨rfl, fun d hd => ?_⟩⟩ hm
      rcases Nat.lt_or_ge d t with g | g
      · exact q d g
      · have : d = t := by omega
        rw [this]
        exact h
    · rw [m1, m4, ck_eq h90 (by omega), k90]
      have hk3 := (hM.1.2.1 t ht).1
      have hdl := (hM.1.2.2.2.2.1 t ht).1
      refine OK_ite (fun c1 => hj55 (fun g => c1 (by rw [g.2.1]; rfl))) (fun c1 => ?_)
      have e1 : dk H t = 1 := nI_inj (b := 1) (by omega) (by omega) (Decidable.byContradiction c1)
      refine OK_ite (fun c2 => hj55 (fun g => c2 (by rw [g.2.2]))) (fun c2 => ?_)
      have e2 : dl H t = x := nI_inj (by omega) (by omega) (Decidable.byContradiction c2)
      rw [ck_eq (by omega) (by omega), nI_clamp (by omega), mhas hM hz h90]
      by_cases hin : t ∈ kn H z
      · rw [if_pos hin]
        exact OK_pos (by decide) (hj59 (tkn_iff.mpr ⟨t, hin, e1, e2⟩))
      · rw [if_neg hin]
        exact OK_neg (by decide) (hj55 (fun g => hin g.1))
theorem m_isGreater {d e : Nat} (hM : RM S H) (hd : d < Hn H) (he : e < Hn H) : f_X7_isGreater S (nI d) (nI e) = some (if sp H e < sp H d then 1 else 0) := by
  have hb := mbs hM
  obtain ⟨d1, d2, d3, d4, d5⟩ := mD hM hd
  obtain ⟨e1, e2, e3, e4, e5⟩ := mD hM he
  have w1 := sp_lt hM.1 hd
  have w2 := sp_lt hM.1 he
  have w3 := (hM.1.2.1 d hd).2.1
  have w4 := (hM.1.2.1 e he).2.1
  have hd90 : d < 90 := by omega
  have he90 : e < 90 := by omega
  unfold sp at w1 w2
  unfold f_X7_isGreater
  simp only [ck_eq hd90 (show 90 < 2 ^ 31 by omega), ck_eq he90 (show 90 < 2 ^ 31 by omega), nI_clamp (show d < 2 ^ 31 by omega), nI_clamp (show e < 2 ^ 31 by omega), d2, d3, e2, e3]
  unfold sp
  by_cases c1 : dc H d = dc H e
  · rw [if_pos (by rw [c1])]
    by_cases c2 : dsi H d ≤ dsi H e
    · rw [if_pos (nI_le c2 (by omega)), if_neg (by omega)]
    · rw [if_neg (fun q => c2 ((nI_leI (by omega) (by omega)).mp q)), if_pos (by omega)]
  · rw [if_neg (fun q => c1 (nI_inj (by omega) (by omega) q))]
    by_cases c2 : dc H d ≤ dc H e
    · rw [if_pos (nI_le c2 (by omega)), if_neg (by omega)]
    · rw [if_neg (fun q => c2 ((nI_leI (by omega) (by omega)).mp q)), if_pos (by omega)]
end MODEL
