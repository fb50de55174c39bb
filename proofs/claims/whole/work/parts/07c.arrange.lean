/-! THE MODEL'S ORDER IS THE ORDER -/
def ArrOK (S : St) (H : Hs) (l : List Nat) : Prop := (gi S 23 = nI (oo H l).length ∧ PL S 24 (oo H l)) ∧ (gi S 26 = nI (tl H l).length ∧ PL S 27 (tl H l)) ∧ OrdL H l (oo H l)
def ms5 (j : Nat) : Prop := 23 ≤ j ∧ j ≤ 27
section ARR
variable {S : St} {H : Hs} {z : Nat}
theorem all_in {l o : List Nat} (hW : WF H) (hc : Cau H l) (h : ∀ y, kL H l y → (bh H y = 0 ∨ bh H y - 1 ∈ o) → y ∈ o) : ∀ n y, sl H y < n → kL H l y → y ∈ o := by
  intro n
  induction n with
  | zero => intro y h0 _; omega
  | succ n ih =>
    intro y hy hk
    refine h y hk ?_
    rcases Nat.eq_zero_or_pos (bh H y) with q | q
    · exact Or.inl q
    · have h1 := kL_bh hW hc hk q
      have h2 := hW.2.2.2.2.2.2.1 y hk.1 q
      exact Or.inr (ih _ (by omega) h1)
theorem m_arrange (hM : RM S H) (hz : z < 4) : OK (f_X7_arrange S (nI z)) (fun S1 => ArrOK S1 H (kn H z) ∧ offP ms5 S S1) := by
  have hbs := mbs hM
  have hW := hM.1
  have w9 := hW.2.2.2.2.2.2.2.2 z hz
  obtain ⟨l, hl⟩ : ∃ l, l = kn H z := ⟨_, rfl⟩
  rw [← hl] at w9 ⊢
  have h5 : ∀ j, ms5 j → mscr j := fun j hj => Or.inr hj.1
  have h25 : ∀ j, (fun j => j = 25) j → ms5 j := fun j hj => by unfold ms5; omega
  have hlen : ∀ o : List Nat, o.Nodup → (∀ y ∈ o, kL H l y) → o.length ≤ 90 := by
    intro o h1 h2
    have := nd_len (b := List.range (HL H)) h1 (fun x hx => List.mem_range.mpr (h2 x hx).1)
    simp only [List.length_range] at this
    omega
  unfold f_X7_arrange
  refine OK_lt (OK_lt ?_)
  obtain ⟨S0, hS0⟩ : ∃ S0, S0 = si (si S 23 0) 26 0 := ⟨_, rfl⟩
  rw [← hS0]
  have ho0 : offP ms5 S S0 := by
    rw [hS0]
    exact (off_si.P ⟨by omega, by omega⟩).tr (off_si.P ⟨by omega, by omega⟩)
  have hM0 : RM S0 H := RM_offP (ho0.mono h5) hM
  have hp0 := m_pileUp (b := 0) (B := []) hM0 hz (by omega) (fun i y h => by simp at h) List.nodup_nil (fun y h => by simp at h)
  rw [← hl, show nI 0 - 1 = (-1 : Int32) by decide] at hp0
  have g23 : gi S0 23 = nI 0 := by rw [hS0, gi_si, if_neg (by decide), gi_si_eq]; rfl
  have g26 : gi S0 26 = nI 0 := by rw [hS0, gi_si_eq]; rfl
  refine OK_cl2 (P := fun a S1 => ∃ C, a = nI (([] : List Nat) ++ C).length ∧ (([] : List Nat) ++ C).length ≤ 90 ∧ PL S1 25 (([] : List Nat) ++ C) ∧ C.Nodup ∧ (∀ y, y ∈ C ↔ kL H l y ∧ bh H y = 0) ∧ C.Pairwise (fun x y => sl H x < sl H y) ∧ offP (fun j => j = 25) S0 S1) hp0 ?_
  rintro v14 S1 ⟨C, rfl, c1, c2, c3, c4, c5, c6⟩
  rw [List.nil_append] at c1 c2 ⊢
  refine Lp2_ok (fun x2 S2 => ∃ o W, x2 = nI W.length ∧ PL S2 25 W ∧ (gi S2 23 = nI o.length ∧ PL S2 24 o) ∧ (gi S2 26 = nI (o.filter (thL H l)).length ∧ PL S2 27 (o.filter (thL H l))) ∧ (o ++ W).Nodup ∧ (∀ y ∈ o ++ W, kL H l y) ∧ W.Pairwise (fun x y => sl H x < sl H y) ∧ Good (sl H) (par H) o ∧ (∀ y ∈ W, nsl (sl H) y o = par H y) ∧ (∀ y, kL H l y → (bh H y = 0 ∨ bh H y - 1 ∈ o) → y ∈ o ++ W) ∧ offP ms5 S S2) (fun _ S2 => 200 - (gi S2 23).toNatClampNeg) ?_ FU _ _ ⟨[], C, rfl, c2, ⟨by rw [(c6 23 (by omega)).1]; exact g23, fun i y h => by simp at h⟩, ⟨by rw [(c6 26 (by omega)).1]; exact g26, fun i y h => by simp at h⟩, by rw [List.nil_append]; exact c3, fun y hy => ((c4 y).mp (by simpa using hy)).1, c5, Good_nil, fun y hy => ?_, fun y h1 h2 => ?_, ho0.tr (c6.mono h25)⟩ (by rw [FU_1000]; omega)
  · rintro next x2 S2 ⟨o, W, rfl, k1, ⟨k2, k3⟩, ⟨k4, k5⟩, k6, k7, k8, k9, k10, k11, k12⟩ hn
    have how := hlen (o ++ W) k6 k7
    rw [List.length_append] at how
    rcases List.eq_nil_or_concat W with hW0 | ⟨B, x, hWB⟩
    · subst hW0
      rw [List.append_nil] at k6 k7 k11
      refine OK_pos (by decide) ?_
      have hO : OrdL H l o := ⟨k9, k6, fun y => ⟨k7 y, fun hk => all_in hW w9.2.2.1 k11 (sl H y + 1) y (Nat.lt_succ_self _) hk⟩⟩
      have e : oo H l = o := oo_eq hW hO
      refine OK_some ⟨⟨?_, ?_, ?_⟩, k12⟩
      · rw [e]; exact ⟨k2, k3⟩
      · unfold tl
        rw [e]; exact ⟨k4, k5⟩
      · rw [e]; exact hO
    · rw [List.concat_eq_append] at hWB
      subst hWB
      rw [List.length_append, List.length_singleton] at how ⊢
      obtain ⟨n1, n2, n3⟩ := List.nodup_append.mp k6
      obtain ⟨n4, n5, n6⟩ := List.nodup_append.mp n2
      obtain ⟨p1, p2, p3⟩ := List.pairwise_append.mp k8
      have hxW : x ∈ B ++ [x] := by simp
      have hxk := k7 x (List.mem_append_right _ hxW)
      have hxo : x ∉ o := fun q => n3 x q x hxW rfl
      have hx90 : x < 90 := kL_90 hW hxk
      have hcell : ga S2 25 B.length = nI x := k1 _ _ (by rw [List.getElem?_append_right (Nat.le_refl _), Nat.sub_self]; rfl)
      refine OK_neg (nI_nle (by omega) (by omega)) (OK_lt ?_)
      rw [nI_addm1 (by omega), Nat.add_sub_cancel, ck_eq (by omega) (by omega), nI_clamp (by omega), hcell]
      refine OK_lt ?_
      rw [k2, ck_eq (by omega) (by omega), nI_clamp (by omega)]
      refine OK_lt (OK_lt ?_)
      rw [gi_sa, k2, nI_1]
      obtain ⟨S3, hS3⟩ : ∃ S3, S3 = si (sa S2 24 o.length (nI x)) 23 (nI (o.length + 1)) := ⟨_, rfl⟩
      rw [← hS3]
      have ho3 : offP (fun j => j = 23 ∨ j = 24) S2 S3 := by
        rw [hS3]
        exact (off_sa.P (Or.inr rfl)).tr (off_si.P (Or.inl rfl))
      have ho3' : offP ms5 S S3 := k12.tr (ho3.mono (fun j hj => by unfold ms5; omega))
      have hM3 : RM S3 H := RM_offP (ho3'.mono h5) hM
      have e23 : gi S3 23 = nI (o ++ [x]).length := by rw [hS3, gi_si_eq, List.length_append]; rfl
      have e24 : PL S3 24 (o ++ [x]) := by
        rw [hS3]
        exact PL_off (PL_snoc k3) (off_si.P (P := fun j => j = 23) rfl) (by omega)
      rw [m_isThere hM3 hz hx90, ← hl]
      refine OK_cl (OK_some rfl) ?_
      rintro v55 rfl
      have hpx : nsl (sl H) x o = par H x := k10 x hxW
      have hG : Good (sl H) (par H) (o ++ [x]) := Good_snoc k9 hpx
      have hparx : ∀ y, bh H y = x + 1 → par H y = some x := fun y hy => by unfold par; rw [if_neg (by omega), hy]; rfl
      have hnslm : ∀ (y : Nat) (a : List Nat), nsl (sl H) y a = some x → x ∈ a := fun y a hy => by
        unfold nsl at hy
        exact (List.mem_filter.mp (List.mem_of_getLast? hy)).1
      have cont : ∀ S4, (gi S4 26 = nI ((o ++ [x]).filter (thL H l)).length ∧ PL S4 27 ((o ++ [x]).filter (thL H l))) → offP (fun j => j = 26 ∨ j = 27) S3 S4 → OK (cl2 (f_X7_pileUp S4 (nI z) (nI x) (nI B.length)) fun v85 S_85 => next v85 S_85) (fun S1 => ArrOK S1 H l ∧ offP ms5 S S1) := by
        rintro S4 ⟨q1, q2⟩ ho4
        have ho4' : offP ms5 S S4 := ho3'.tr (ho4.mono (fun j hj => by unfold ms5; omega))
        have hM4 : RM S4 H := RM_offP (ho4'.mono h5) hM
        have hB4 : PL S4 25 B := PL_off (PL_off (PL_pre k1) ho3 (by omega)) ho4 (by omega)
        have hpu := m_pileUp (b := x + 1) (B := B) hM4 hz (by omega) hB4 n4 (fun y hy => by
          refine ⟨by rw [← hl]; exact k7 y (List.mem_append_right _ (List.mem_append_left _ hy)), fun hb => ?_⟩
          have h1 := k10 y (List.mem_append_left _ hy)
          rw [hparx y hb] at h1
          exact hxo (hnslm y o h1))
        rw [← hl, nI_pred] at hpu
        refine OK_cl2 (P := fun a S1 => ∃ C, a = nI (B ++ C).length ∧ (B ++ C).length ≤ 90 ∧ PL S1 25 (B ++ C) ∧ C.Nodup ∧ (∀ y, y ∈ C ↔ kL H l y ∧ bh H y = x + 1) ∧ C.Pairwise (fun x y => sl H x < sl H y) ∧ offP (fun j => j = 25) S4 S1) hpu ?_
        rintro v85 S5 ⟨C, rfl, d1, d2, d3, d4, d5, d6⟩
        have hCk : ∀ y ∈ C, sl H x < sl H y := fun y hy => by
          obtain ⟨r1, r2⟩ := (d4 y).mp hy
          have := hW.2.2.2.2.2.2.1 y r1.1 (by omega)
          rw [r2, Nat.add_sub_cancel] at this
          exact this
        have hCo : ∀ y ∈ C, y ∉ o := fun y hy q => by
          obtain ⟨r1, r2⟩ := (d4 y).mp hy
          obtain ⟨u, v, e⟩ := List.append_of_mem q
          have h1 := k9 u y v e
          rw [hparx y r2] at h1
          refine hxo ?_
          rw [e]
          exact List.mem_append_left _ (hnslm y u h1)
        have hCB : ∀ y ∈ C, y ∉ B := fun y hy q => by
          have h1 := p3 y q x (by simp)
          have := hCk y hy
          omega
        refine hn _ _ ⟨o ++ [x], B ++ C, rfl, d2, ⟨?_, ?_⟩, ⟨?_, ?_⟩, ?_, ?_, ?_, hG, ?_, ?_, ho4'.tr (d6.mono h25)⟩ ?_
        · rw [(d6 23 (by omega)).1, (ho4 23 (by omega)).1]; exact e23
        · exact PL_off (PL_off e24 ho4 (by omega)) d6 (by omega)
        · rw [(d6 26 (by omega)).1]; exact q1
        · exact PL_off q2 d6 (by omega)
        · rw [List.append_assoc]
          refine List.nodup_append.mpr ⟨n1, ?_, fun a ha b hb e => ?_⟩
          · rw [List.singleton_append]
            refine List.nodup_cons.mpr ⟨fun q => ?_, List.nodup_append.mpr ⟨n4, d3, fun a ha b hb e => hCB b hb (e ▸ ha)⟩⟩
            rcases List.mem_append.mp q with q | q
            · exact n6 x q x (by simp) rfl
            · have := hCk x q
              omega
          · subst e
            rcases List.mem_append.mp hb with q | q
            · have : a = x := by simpa using q
              exact hxo (this ▸ ha)
            · rcases List.mem_append.mp q with q | q
              · exact n3 a ha a (List.mem_append_left _ q) rfl
              · exact hCo a q ha
        · intro y hy
          rcases List.mem_append.mp hy with q | q
          · rcases List.mem_append.mp q with q | q
            · exact k7 y (List.mem_append_left _ q)
            · have : y = x := by simpa using q
              rw [this]; exact hxk
          · rcases List.mem_append.mp q with q | q
            · exact k7 y (List.mem_append_right _ (List.mem_append_left _ q))
            · exact ((d4 y).mp q).1
        · refine List.pairwise_append.mpr ⟨p1, d5, fun a ha b hb => ?_⟩
          have := p3 a ha x (by simp)
          have := hCk b hb
          omega
        · intro y hy
          rcases List.mem_append.mp hy with q | q
          · have h1 := p3 y q x (by simp)
            rw [nsl_skip (fun w hw => by
              have : w = x := by simpa using hw
              rw [this]; omega)]
            exact k10 y (List.mem_append_left _ q)
          · have h1 := hCk y q
            rw [hparx y ((d4 y).mp q).2]
            unfold nsl
            rw [List.filter_append, List.filter_cons, if_pos (by simpa using h1)]
            simp
        · intro y h1 h2
          by_cases q : bh H y = x + 1
          · exact List.mem_append_right _ (List.mem_append_right _ ((d4 y).mpr ⟨h1, q⟩))
          · have h3 : bh H y = 0 ∨ bh H y - 1 ∈ o := by
              rcases h2 with h2 | h2
              · exact Or.inl h2
              · rcases List.mem_append.mp h2 with r | r
                · exact Or.inr r
                · have : bh H y - 1 = x := by simpa using r
                  exact Or.inl (by omega)
            have h4 := k11 y h1 h3
            rcases List.mem_append.mp h4 with r | r
            · exact List.mem_append_left _ (List.mem_append_left _ r)
            · rcases List.mem_append.mp r with r | r
              · exact List.mem_append_right _ (List.mem_append_left _ r)
              · exact List.mem_append_left _ (List.mem_append_right _ r)
        · rw [(d6 23 (by omega)).1, (ho4 23 (by omega)).1, e23, k2, nI_clamp (by simp; omega), nI_clamp (by omega), List.length_append]
          simp
          omega
      have h26 : gi S3 26 = nI (o.filter (thL H l)).length := by rw [(ho3 26 (by omega)).1]; exact k4
      have h27 : PL S3 27 (o.filter (thL H l)) := PL_off k5 ho3 (by omega)
      have hfl : (o.filter (thL H l)).length ≤ o.length := List.length_filter_le _ _
      refine OK_jn ?_
      by_cases ht : tkn H l x = true
      · rw [if_pos ht]
        refine OK_pos rfl (cont S3 ?_ offP.rf)
        have hf : thL H l x = false := by
          rw [← Bool.not_eq_true]
          intro q
          have := (thL_iff.mp q).2
          rw [ht] at this
          cases this
        have : (o ++ [x]).filter (thL H l) = o.filter (thL H l) := by
          rw [List.filter_append, List.filter_cons, hf]
          simp
        rw [this]
        exact ⟨h26, h27⟩
      · rw [if_neg ht]
        refine OK_neg (by decide) ?_
        rw [h26, ck_eq (by omega) (by omega), nI_clamp (by omega)]
        refine OK_lt (OK_lt ?_)
        rw [gi_sa, h26, nI_1]
        have hf : thL H l x = true := thL_iff.mpr ⟨hxk, by rw [← Bool.not_eq_true]; exact ht⟩
        have hfe : (o ++ [x]).filter (thL H l) = o.filter (thL H l) ++ [x] := by
          rw [List.filter_append, List.filter_cons, hf]
          simp
        refine cont _ ⟨?_, ?_⟩ ((off_sa.P (Or.inr rfl)).tr (off_si.P (Or.inl rfl)))
        · rw [gi_si_eq, hfe, List.length_append]
          rfl
        · rw [hfe]
          exact PL_off (PL_snoc h27) (off_si.P (P := fun j => j = 26) rfl) (by omega)
  · have h1 := ((c4 y).mp hy).2
    unfold nsl par
    rw [if_pos h1]
    rfl
  · rcases h2 with h2 | h2
    · exact List.mem_append_right _ ((c4 y).mpr ⟨h1, h2⟩)
    · simp at h2
end ARR
