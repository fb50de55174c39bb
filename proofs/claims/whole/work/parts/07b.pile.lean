/-! THE MODEL PUTS ALL LINES IN ORDER -/
def PL (S : St) (k : Nat) (W : List Nat) : Prop := ∀ i y, W[i]? = some y → ga S k i = nI y
theorem PL_off {P : Nat → Prop} {S S1 : St} {k : Nat} {W : List Nat} (h : PL S k W) (ho : offP P S S1) (hk : ¬ P k) : PL S1 k W := by
  intro i y hy
  rw [(ho k hk).2]
  exact h i y hy
theorem PL_pre {S : St} {k : Nat} {W V : List Nat} (h : PL S k (W ++ V)) : PL S k W := by
  intro i y hy
  refine h i y ?_
  rw [List.getElem?_append_left (List.getElem?_eq_some_iff.mp hy).1]
  exact hy
theorem PL_snoc {S : St} {k : Nat} {W : List Nat} {x : Nat} (h : PL S k W) : PL (sa S k W.length (nI x)) k (W ++ [x]) := by
  intro i y hy
  rw [ga_sa_eq]
  have hi := (List.getElem?_eq_some_iff.mp hy).1
  rw [List.length_append] at hi
  rcases Nat.lt_or_ge i W.length with q | q
  · rw [List.getElem?_append_left q] at hy
    rw [upd_ne (by omega)]
    exact h i y hy
  · have e : i = W.length := by simp at hi; omega
    subst e
    rw [List.getElem?_append_right (Nat.le_refl _), Nat.sub_self] at hy
    injection hy with hy
    rw [upd_eq, ← hy]
theorem sub1_eq {a b : Nat} (ha : a < 2 ^ 31) (hb : b < 2 ^ 31) : nI a - 1 = nI b - 1 ↔ a = b := by
  constructor
  · intro h
    have := congrArg (fun v : Int32 => v + 1) h
    rw [Int32.sub_add_cancel, Int32.sub_add_cancel] at this
    exact nI_inj ha hb this
  · intro h; rw [h]
section PILE
variable {S : St} {H : Hs} {z : Nat}
theorem app_at {B C : List Nat} {i : Nat} {y : Nat} : (B ++ C)[B.length + i]? = some y ↔ C[i]? = some y := by
  rw [List.getElem?_append_right (by omega), Nat.add_sub_cancel_left]
theorem m_pileUp {b : Nat} {B : List Nat} (hM : RM S H) (hz : z < 4) (hb : b ≤ 90) (hP : PL S 25 B) (hBn : B.Nodup) (hBk : ∀ y ∈ B, kL H (kn H z) y ∧ bh H y ≠ b) :
    OK (f_X7_pileUp S (nI z) (nI b - 1) (nI B.length)) (fun q => ∃ C, q.1 = nI (B ++ C).length ∧ (B ++ C).length ≤ 90 ∧ PL q.2 25 (B ++ C) ∧ C.Nodup ∧ (∀ y, y ∈ C ↔ kL H (kn H z) y ∧ bh H y = b) ∧ C.Pairwise (fun x y => sl H x < sl H y) ∧ offP (fun j => j = 25) S q.2) := by
  have hbs := mbs hM
  have h25 : ∀ j, (fun j => j = 25) j → mscr j := fun j hj => Or.inr (by omega)
  have hlen : ∀ C : List Nat, C.Nodup → (∀ y ∈ C, kL H (kn H z) y ∧ bh H y = b) → (B ++ C).Nodup ∧ (B ++ C).length ≤ HL H := by
    intro C h1 h2
    have h3 : (B ++ C).Nodup := List.nodup_append.mpr ⟨hBn, h1, fun x hx y hy e => (hBk x hx).2 (by rw [e]; exact (h2 y hy).2)⟩
    have := nd_len (b := List.range (HL H)) h3 (fun x hx => by
      rcases List.mem_append.mp hx with q | q
      · exact List.mem_range.mpr (hBk x q).1.1
      · exact List.mem_range.mpr (h2 x q).1.1)
    simp only [List.length_range] at this
    exact ⟨h3, this⟩
  unfold f_X7_pileUp
  refine Lp3_ok (fun x4 x5 S2 => ∃ t C, x5 = nI t ∧ x4 = nI (B ++ C).length ∧ t ≤ HL H ∧ PL S2 25 (B ++ C) ∧ C.Nodup ∧ (∀ y, y ∈ C ↔ y < t ∧ kL H (kn H z) y ∧ bh H y = b) ∧ C.Pairwise (fun x y => sl H x < sl H y) ∧ offP (fun j => j = 25) S S2) (fun _ x5 _ => 200 - x5.toNatClampNeg) ?_ FU _ _ _ ⟨0, [], rfl, by rw [List.append_nil], Nat.zero_le _, by rw [List.append_nil]; exact hP, List.nodup_nil, fun y => ⟨fun q => by simp at q, fun q => by omega⟩, List.Pairwise.nil, offP.rf⟩ (by rw [FU_1000]; omega)
  rintro next x4 x5 S2 ⟨t, C, rfl, rfl, k1, k2, k3, k4, k5, k6⟩ hn
  have hM2 : RM S2 H := RM_offP (k6.mono h25) hM
  have hC := hlen C k3 (fun y hy => ((k4 y).mp hy).2)
  rw [hM2.2.1.1.2.1]
  refine OK_ite (fun c => ?_) (fun c => ?_)
  · have ht : t = HL H := by
      have := (nI_leI (by omega) (by omega)).mp c
      omega
    refine OK_some ⟨C, rfl, by omega, k2, k3, fun y => ?_, k5, k6⟩
    rw [k4 y]
    exact ⟨fun h => h.2, fun h => ⟨by rw [ht]; exact h.1.1, h⟩⟩
  have ht : t < HL H := by
    rcases Nat.lt_or_ge t (HL H) with q | q
    · exact q
    · exact absurd (nI_le q (by omega)) c
  have ht90 : t < 90 := by omega
  have hmt : 200 - (nI (t + 1)).toNatClampNeg < 200 - (nI t).toNatClampNeg := by rw [nI_clamp (by omega), nI_clamp (by omega)]; omega
  have skip : ¬ (kL H (kn H z) t ∧ bh H t = b) → OK (next (nI (B ++ C).length) (nI (t + 1)) S2) (fun q => ∃ C, q.1 = nI (B ++ C).length ∧ (B ++ C).length ≤ 90 ∧ PL q.2 25 (B ++ C) ∧ C.Nodup ∧ (∀ y, y ∈ C ↔ kL H (kn H z) y ∧ bh H y = b) ∧ C.Pairwise (fun x y => sl H x < sl H y) ∧ offP (fun j => j = 25) S q.2) := by
    intro h
    refine hn _ _ _ ⟨t + 1, C, rfl, rfl, ht, k2, k3, fun y => ?_, k5, k6⟩ hmt
    rw [k4 y]
    constructor
    · rintro ⟨q1, q2⟩
      exact ⟨by omega, q2⟩
    · rintro ⟨q1, q2⟩
      have : y ≠ t := fun e => h (e ▸ q2)
      exact ⟨by omega, q2⟩
  obtain ⟨l1, l2, l3, l4⟩ := mL hM2 ht
  by_cases hk : kL H (kn H z) t
  · rw [(m_knowsLine hM2 hz).1 ((LK_nI hM.1 (by omega)).mpr hk)]
    refine OK_cl (OK_some rfl) ?_
    rintro v19 rfl
    refine OK_jn (OK_neg (by decide) ?_)
    rw [ck_eq ht90 (by omega), nI_clamp (by omega), l2]
    have hbt := (hM.1.2.2.1 t ht).2.2.2.1
    by_cases hbe : bh H t = b
    · refine OK_neg (fun q => q (by rw [hbe])) ?_
      have htC : t ∉ C := fun q => by have := ((k4 t).mp q).1; omega
      have hCt := hlen (t :: C) (List.nodup_cons.mpr ⟨htC, k3⟩) (fun y hy => by
        rcases List.mem_cons.mp hy with rfl | q
        · exact ⟨hk, hbe⟩
        · exact ((k4 y).mp q).2)
      have hl1 : (B ++ C).length = B.length + C.length := List.length_append
      have hl2 : (B ++ t :: C).length = B.length + (C.length + 1) := by rw [List.length_append, List.length_cons]
      refine Lp2_ok (fun x6 S3 => ∃ p, x6 = nI (B.length + p) ∧ p ≤ C.length ∧ (∀ i y, i < B.length + p → (B ++ C)[i]? = some y → ga S3 25 i = nI y) ∧ (∀ i y, B.length + p ≤ i → (B ++ C)[i]? = some y → ga S3 25 (i + 1) = nI y) ∧ (∀ q y, p ≤ q → C[q]? = some y → sl H t < sl H y) ∧ offP (fun j => j = 25) S S3) (fun x6 _ => x6.toNatClampNeg) ?_ FU _ _ ⟨C.length, by rw [hl1], Nat.le_refl _, fun i y _ h => k2 i y h, fun i y h1 h2 => ?_, fun q y h1 h2 => ?_, k6⟩ (by rw [FU_1000, nI_clamp (by omega)]; omega)
      · rintro next2 x6 S3 ⟨p, rfl, p1, p2, p3, p4, p5⟩ hn2
        have hM3 : RM S3 H := RM_offP (p5.mono h25) hM
        refine OK_jnQ (∀ y, 0 < p → C[p - 1]? = some y → sl H y < sl H t) (fun hstop => ?_) (fun j hj => ?_)
        · rw [ck_eq (by omega) (by omega), nI_clamp (by omega)]
          refine OK_lt (OK_lt (OK_lt ?_))
          rw [nI_1, nI_1]
          have hins : B ++ C.insertIdx p t = (B ++ C).insertIdx (B.length + p) t := by
            rw [insertIdx_split _ _ _ p1, insertIdx_split _ _ _ (by omega), List.take_append, List.drop_append, List.take_of_length_le (l := B) (by omega), List.drop_eq_nil_of_le (as := B) (by omega), Nat.add_sub_cancel_left]
            simp
          refine hn _ _ _ ⟨t + 1, C.insertIdx p t, rfl, ?_, ht, ?_, ?_, fun y => ?_, ?_, p5.tr (off_sa.P rfl)⟩ hmt
          · simp only [List.length_append, List.length_insertIdx_of_le_length p1, Nat.add_assoc]
          · rw [hins]
            intro i y hy
            rw [List.getElem?_insertIdx] at hy
            rw [ga_sa_eq]
            by_cases c1 : i < B.length + p
            · rw [if_pos c1] at hy
              rw [upd_ne (by omega)]
              exact p2 i y c1 hy
            · rw [if_neg c1] at hy
              by_cases c2 : i = B.length + p
              · rw [if_pos c2] at hy
                rw [if_pos (by omega)] at hy
                injection hy with hy
                rw [c2, upd_eq, hy]
              · rw [if_neg c2] at hy
                rw [upd_ne c2]
                have := p3 (i - 1) y (by omega) hy
                rw [show i - 1 + 1 = i by omega] at this
                exact this
          · rw [insertIdx_split _ _ _ p1]
            have e : (C.take p ++ t :: C.drop p).Perm (t :: C) := by
              refine List.perm_middle.trans ?_
              rw [List.take_append_drop]
            exact e.nodup_iff.mpr (List.nodup_cons.mpr ⟨htC, k3⟩)
          · rw [List.mem_insertIdx p1, k4 y]
            constructor
            · rintro (rfl | q)
              · exact ⟨by omega, hk, hbe⟩
              · exact ⟨by omega, q.2⟩
            · rintro ⟨q1, q2⟩
              by_cases e : y = t
              · exact Or.inl e
              · exact Or.inr ⟨by omega, q2⟩
          · rw [insertIdx_split _ _ _ p1]
            have h0 : (C.take p ++ C.drop p).Pairwise (fun x y => sl H x < sl H y) := by rw [List.take_append_drop]; exact k5
            obtain ⟨a1, a2, a3⟩ := List.pairwise_append.mp h0
            have htk : ∀ a ∈ C.take p, sl H a < sl H t := by
              intro a ha
              obtain ⟨i, hi, e⟩ := List.mem_iff_getElem.mp ha
              rw [List.getElem_take] at e
              rw [List.length_take] at hi
              have hp1 : p - 1 < C.length := by omega
              have h3 := hstop _ (by omega) (List.getElem?_eq_getElem hp1)
              rcases Nat.lt_or_ge i (p - 1) with q | q
              · have := List.pairwise_iff_getElem.mp k5 i (p - 1) (by omega) hp1 q
                rw [e] at this
                omega
              · have : i = p - 1 := by omega
                subst this
                rw [e] at h3
                exact h3
            have hdr : ∀ w ∈ C.drop p, sl H t < sl H w := by
              intro w hw
              obtain ⟨i, hi, e⟩ := List.mem_iff_getElem.mp hw
              rw [List.getElem_drop] at e
              rw [List.length_drop] at hi
              refine p4 (p + i) w (by omega) ?_
              rw [List.getElem?_eq_getElem (by omega), e]
            refine List.pairwise_append.mpr ⟨a1, List.pairwise_cons.mpr ⟨hdr, a2⟩, fun a ha w hw => ?_⟩
            rcases List.mem_cons.mp hw with rfl | hw
            · exact htk a ha
            · exact a3 a ha w hw
        · refine OK_ite (fun c1 => ?_) (fun c1 => ?_)
          · have h0 : p = 0 := by
              have := (nI_leI (by omega) (by omega)).mp c1
              omega
            exact hj (fun y q => by omega)
          · have h0 : 0 < p := by
              rcases Nat.eq_zero_or_pos p with q | q
              · exact absurd (nI_le (by omega) (by omega)) c1
              · exact q
            have hp1 : p - 1 < C.length := by omega
            obtain ⟨w, hw⟩ : ∃ w, w = C[p - 1] := ⟨_, rfl⟩
            have hwC : C[p - 1]? = some w := by rw [hw]; exact List.getElem?_eq_getElem hp1
            have hwm := (k4 w).mp (List.mem_of_getElem? hwC)
            have hBp : B.length + p - 1 = B.length + (p - 1) := by omega
            have hcell : ga S3 25 (B.length + p - 1) = nI w := by
              rw [hBp]
              exact p2 _ _ (by omega) (app_at.mpr hwC)
            rw [nI_sub1 (by omega), ck_eq (by omega) (by omega), nI_clamp (by omega), hcell, ck_eq (by omega) (by omega), ck_eq ht90 (by omega), nI_clamp (by omega), nI_clamp (by omega), (mL hM3 ht).1, (mL hM3 hwm.2.1.1).1, m_isGreater hM3 (hM.1.2.2.1 w hwm.2.1.1).1 (hM.1.2.2.1 t ht).1]
            refine OK_cl (OK_some rfl) ?_
            rintro v68 rfl
            by_cases hg : sp H (mb H t) < sp H (mb H w)
            · rw [if_pos hg]
              refine OK_neg (by decide) ?_
              rw [ck_eq (by omega) (by omega), ck_eq (by omega) (by omega)]
              refine OK_lt (OK_lt ?_)
              rw [nI_addm1 (by omega), hBp]
              refine hn2 _ _ ⟨p - 1, rfl, by omega, fun i y h1 h2 => ?_, fun i y h1 h2 => ?_, fun q y h1 h2 => ?_, p5.tr (off_sa.P rfl)⟩ (by rw [nI_clamp (by omega), nI_clamp (by omega)]; omega)
              · rw [ga_sa_eq, upd_ne (by omega)]
                exact p2 i y (by omega) h2
              · rw [ga_sa_eq]
                by_cases e : i = B.length + (p - 1)
                · rw [e] at h2 ⊢
                  rw [show B.length + (p - 1) + 1 = B.length + p by omega, upd_eq]
                  rw [app_at.mpr hwC] at h2
                  injection h2 with h2
                  rw [h2]
                · rw [upd_ne (by omega)]
                  exact p3 i y (by omega) h2
              · rcases Nat.eq_or_lt_of_le h1 with e | e
                · rw [← e, hwC] at h2
                  injection h2 with h2
                  rw [← h2]
                  exact hg
                · exact p4 q y (by omega) h2
            · rw [if_neg hg]
              refine OK_pos rfl (hj (fun y _ hy => ?_))
              rw [hwC] at hy
              injection hy with hy
              rw [← hy]
              rcases Nat.lt_or_ge (sl H w) (sl H t) with q | q
              · exact q
              · exfalso
                have : sl H w = sl H t := Nat.le_antisymm (Nat.le_of_not_lt hg) q
                have := sl_inj hM.1 hwm.2.1.1 ht this
                rw [this] at hwm
                omega
      · have := (List.getElem?_eq_some_iff.mp h2).1
        omega
      · have := (List.getElem?_eq_some_iff.mp h2).1
        omega
    · refine OK_pos (fun q => hbe ((sub1_eq (by omega) (by omega)).mp q)) (OK_lt ?_)
      rw [nI_1]
      exact skip (fun q => hbe q.2)
  · rw [(m_knowsLine hM2 hz).2 (fun q => hk ((LK_nI hM.1 (by omega)).mp q))]
    refine OK_cl (OK_some rfl) ?_
    rintro v19 rfl
    refine OK_jn (OK_pos rfl (OK_lt ?_))
    rw [nI_1]
    exact skip (fun q => hk q.1)
end PILE
