/-! THE MODEL'S LAYOUT -/
noncomputable def raw (H : Hs) (l : List Nat) (x : Nat) : Nat → Nat
  | 0 => 1
  | m + 1 => raw H l x m + (if nb H m ∈ l ∧ lnote H l m = some x then nr H m else 0)
theorem raw_rwN {H : Hs} {l : List Nat} {x : Nat} : ∀ m, rwN H l x m = min 6 (raw H l x m) := by
  intro m
  induction m with
  | zero => rfl
  | succ m ih =>
    rw [rwN_succ]
    unfold raw
    split
    · rw [ih]; omega
    · rw [ih]; rfl
theorem raw_le {H : Hs} {l : List Nat} {x : Nat} (hW : WF H) : ∀ m, m ≤ HN H → raw H l x m ≤ 1 + 3 * m := by
  intro m
  induction m with
  | zero => intro _; exact Nat.le_refl _
  | succ m ih =>
    intro hm
    have h1 := ih (by omega)
    have h2 := (hW.2.2.2.1 m (by omega)).2.2.2.2
    unfold raw
    split <;> omega
theorem opt_eq {x : Nat} {tt : Option Nat} (hx : x < 2 ^ 31) (h : ∀ y, tt = some y → y < 2 ^ 31) : nI x = opt tt ↔ tt = some x := by
  cases tt with
  | none => exact ⟨fun q => absurd q (nI_ne_neg1 hx), fun q => by cases q⟩
  | some y => exact ⟨fun q => by rw [nI_inj hx (h y rfl) q], fun q => by injection q with q; rw [q]; rfl⟩
def o28 (j : Nat) : Prop := j = 28
def RowsOK (S : St) (H : Hs) (l : List Nat) : Prop := ∀ i, i < szP H l → ga S 28 i = nI (rP H l i)
section LAYM
variable {S : St} {H : Hs} {z : Nat}
theorem m_layRows (hM : RM S H) (hz : z < 4) (hA : ArrOK S H (kn H z)) : OK (f_X7_layRows S (nI z)) (fun S1 => RowsOK S1 H (kn H z) ∧ offP o28 S S1) := by
  have hbs := mbs hM
  have hW := hM.1
  have w9 := hW.2.2.2.2.2.2.2.2 z hz
  obtain ⟨l, hl⟩ : ∃ l, l = kn H z := ⟨_, rfl⟩
  rw [← hl] at w9 hA ⊢
  have hO := hA.2.2
  have hsz := szP_le hW hO
  have h28 : ∀ j, o28 j → mscr j := fun j hj => Or.inr (by unfold o28 at hj; omega)
  have hAr : ∀ S2, offP o28 S S2 → ArrOK S2 H l := fun S2 ho => ArrOK_offP ho (fun j h1 h2 q => by unfold o28 at q; omega) hA
  have hMr : ∀ S2, offP o28 S S2 → RM S2 H := fun S2 ho => RM_offP (ho.mono h28) hM
  have g26 : ∀ S2, offP o28 S S2 → gi S2 26 = nI (szP H l) := fun S2 ho => (hAr S2 ho).2.1.1
  have msz : ∀ t, t < 90 → 200 - (nI (t + 1)).toNatClampNeg < 200 - (nI t).toNatClampNeg := fun t h => by rw [nI_clamp (by omega), nI_clamp (by omega)]; omega
  have lim : ∀ t n, t ≤ n → n ≤ 90 → nI n ≤ nI t → t = n := fun t n h1 h2 h3 => by
    have := (nI_leI (by omega) (by omega)).mp h3
    omega
  have limn : ∀ t n, t ≤ n → n ≤ 90 → ¬ nI n ≤ nI t → t < n := fun t n h1 h2 h3 => by
    rcases Nat.lt_or_ge t n with q | q
    · exact q
    · exact absurd (nI_le q (by omega)) h3
  unfold f_X7_layRows
  refine Lp2_ok (fun x2 S2 => ∃ t, x2 = nI t ∧ t ≤ szP H l ∧ offP o28 S S2 ∧ ∀ i, i < t → ga S2 28 i = nI 1) (fun x2 _ => 200 - x2.toNatClampNeg) ?_ FU _ _ ⟨0, rfl, Nat.zero_le _, offP.rf, fun i h => by omega⟩ (by rw [FU_1000]; omega)
  rintro n1 x2 S2 ⟨t, rfl, a1, a2, a3⟩ hn1
  rw [g26 S2 a2]
  refine OK_ite (fun c => ?_) (fun c => ?_)
  · have ht := lim t _ a1 hsz c
    refine Lp2_ok (fun x2 S3 => ∃ m, x2 = nI m ∧ m ≤ HN H ∧ offP o28 S S3 ∧ ∀ i x, (tl H l)[i]? = some x → ga S3 28 i = nI (raw H l x m)) (fun x2 _ => 200 - x2.toNatClampNeg) ?_ FU _ _ ⟨0, rfl, Nat.zero_le _, a2, fun i x hx => a3 i (by rw [ht]; exact (List.getElem?_eq_some_iff.mp hx).1)⟩ (by rw [FU_1000]; omega)
    rintro n2 x2 S3 ⟨m, rfl, b1, b2, b3⟩ hn2
    rw [(hMr S3 b2).2.1.1.2.2]
    refine OK_ite (fun c1 => ?_) (fun c1 => ?_)
    · have hm := lim m _ b1 (by omega) c1
      refine Lp2_ok (fun x2 S4 => ∃ t, x2 = nI t ∧ t ≤ szP H l ∧ offP o28 S S4 ∧ ∀ i x, (tl H l)[i]? = some x → ga S4 28 i = nI (if i < t then rwL H l x else raw H l x (HN H))) (fun x2 _ => 200 - x2.toNatClampNeg) ?_ FU _ _ ⟨0, rfl, Nat.zero_le _, b2, fun i x hx => by rw [if_neg (by omega), b3 i x hx, hm]⟩ (by rw [FU_1000]; omega)
      rintro n3 x2 S4 ⟨t3, rfl, d1, d2, d3⟩ hn3
      rw [g26 S4 d2]
      refine OK_ite (fun c2 => ?_) (fun c2 => ?_)
      · have ht3 := lim t3 _ d1 hsz c2
        refine OK_some ⟨fun i hi => ?_, d2⟩
        obtain ⟨x, hx⟩ : ∃ x, (tl H l)[i]? = some x := ⟨_, List.getElem?_eq_getElem hi⟩
        rw [d3 i x hx, if_pos (by omega), rP_eq hx]
      · have ht3 := limn t3 _ d1 hsz c2
        have h90 : t3 < 90 := by omega
        obtain ⟨x, hx⟩ : ∃ x, (tl H l)[t3]? = some x := ⟨_, List.getElem?_eq_getElem ht3⟩
        have hcell := d3 t3 x hx
        rw [if_neg (by omega)] at hcell
        have hraw := raw_le (l := l) (x := x) hW (HN H) (Nat.le_refl _)
        rw [ck_eq h90 (by omega), nI_clamp (by omega), hcell]
        have fin : ∀ v, v = nI (rwL H l x) → OK (ck (nI t3) 90 (lt (sa S4 28 t3 v) fun S_145 => lt (nI t3 + 1) fun x2_146 => n3 x2_146 S_145)) (fun S1 => RowsOK S1 H l ∧ offP o28 S S1) := by
          rintro v rfl
          rw [ck_eq h90 (by omega)]
          refine OK_lt (OK_lt ?_)
          rw [nI_1]
          refine hn3 _ _ ⟨t3 + 1, rfl, ht3, d2.tr (off_sa.P rfl), fun i y hy => ?_⟩ (msz t3 h90)
          rw [ga_sa_eq]
          by_cases e : i = t3
          · rw [e] at hy ⊢
            rw [hx] at hy
            injection hy with hy
            rw [upd_eq, if_pos (by omega), hy]
          · rw [upd_ne e, d3 i y hy]
            by_cases q : i < t3
            · rw [if_pos q, if_pos (by omega)]
            · rw [if_neg q, if_neg (by omega)]
        have hr : rwL H l x = min 6 (raw H l x (HN H)) := raw_rwN _
        refine OK_jn ?_
        by_cases q : raw H l x (HN H) ≤ 6
        · refine OK_pos (nI_le (b := 6) q (by omega)) ?_
          rw [ck_eq h90 (by omega)]
          exact fin _ (by rw [hr, Nat.min_eq_right q])
        · refine OK_neg (fun g => q ((nI_leI (b := 6) (by omega) (by omega)).mp g)) (fin _ ?_)
          rw [hr, Nat.min_eq_left (by omega)]
          rfl
    · have hm := limn m _ b1 (by omega) c1
      have hm90 : m < 90 := by omega
      have inner : ∀ tt : Option Nat, (∀ y, tt = some y → y < 2 ^ 31) → (∀ x, tt = some x ↔ (nb H m ∈ l ∧ lnote H l m = some x)) → OK (Lp2 (fun (x4_56 : Int32) (S_56 : St) nx56 => if (gi S_56 26) ≤ x4_56 then (lt (nI m + 1) (fun (x2_102 : Int32) => n2 x2_102 S_56)) else (ck x4_56 90 (ck x4_56 90 (jn (fun (t0_94 : Int32) => ck x4_56 90 (lt (sa S_56 28 x4_56.toNatClampNeg ((ga S_56 28 x4_56.toNatClampNeg) + t0_94)) (fun (S_95 : St) => lt (x4_56 + 1) (fun (x4_96 : Int32) => nx56 x4_96 S_95)))) (fun J94 => if ¬ (ga S_56 27 x4_56.toNatClampNeg) = opt tt then (J94 (0 : Int32)) else (ck (nI m) 90 (J94 (ga S_56 14 (nI m).toNatClampNeg)))))))) FU (0 : Int32) S3) (fun S1 => RowsOK S1 H l ∧ offP o28 S S1) := by
        intro tt htb htt
        refine Lp2_ok (fun x4 S5 => ∃ i, x4 = nI i ∧ i ≤ szP H l ∧ offP o28 S S5 ∧ ∀ j x, (tl H l)[j]? = some x → ga S5 28 j = nI (if j < i then raw H l x (m + 1) else raw H l x m)) (fun x4 _ => 200 - x4.toNatClampNeg) ?_ FU _ _ ⟨0, rfl, Nat.zero_le _, b2, fun j x hx => by rw [if_neg (by omega)]; exact b3 j x hx⟩ (by rw [FU_1000]; omega)
        rintro n5 x4 S5 ⟨i, rfl, e1, e2, e3⟩ hn5
        rw [g26 S5 e2]
        refine OK_ite (fun c2 => ?_) (fun c2 => ?_)
        · have hi := lim i _ e1 hsz c2
          refine OK_lt ?_
          rw [nI_1]
          refine hn2 _ _ ⟨m + 1, rfl, hm, e2, fun j x hx => ?_⟩ (msz m hm90)
          rw [e3 j x hx, if_pos (by rw [hi]; exact (List.getElem?_eq_some_iff.mp hx).1)]
        · have hi := limn i _ e1 hsz c2
          have hi90 : i < 90 := by omega
          obtain ⟨x, hx⟩ : ∃ x, (tl H l)[i]? = some x := ⟨_, List.getElem?_eq_getElem hi⟩
          have hx90 := tl_lt hO (List.mem_of_getElem? hx)
          have hcell := e3 i x hx
          rw [if_neg (by omega)] at hcell
          have h27 : ga S5 27 i = nI x := (hAr S5 e2).2.1.2 i x hx
          have hraw := raw_le (l := l) (x := x) hW m (by omega)
          rw [ck_eq hi90 (by omega), ck_eq hi90 (by omega), nI_clamp (n := i) (by omega), h27, hcell]
          have fin : ∀ v, nI (raw H l x m) + v = nI (raw H l x (m + 1)) → OK (ck (nI i) 90 (lt (sa S5 28 i (nI (raw H l x m) + v)) fun S_95 => lt (nI i + 1) fun x4_96 => n5 x4_96 S_95)) (fun S1 => RowsOK S1 H l ∧ offP o28 S S1) := by
            intro v hv
            rw [ck_eq hi90 (by omega), hv]
            refine OK_lt (OK_lt ?_)
            rw [nI_1]
            refine hn5 _ _ ⟨i + 1, rfl, hi, e2.tr (off_sa.P rfl), fun j y hy => ?_⟩ (msz i hi90)
            rw [ga_sa_eq]
            by_cases e : j = i
            · rw [e] at hy ⊢
              rw [hx] at hy
              injection hy with hy
              rw [upd_eq, if_pos (by omega), hy]
            · rw [upd_ne e, e3 j y hy]
              by_cases q : j < i
              · rw [if_pos q, if_pos (by omega)]
              · rw [if_neg q, if_neg (by omega)]
          refine OK_jn ?_
          by_cases q : tt = some x
          · refine OK_neg (fun g => g ((opt_eq (by omega) htb).mpr q)) ?_
            rw [ck_eq hm90 (by omega), nI_clamp (n := m) (by omega), (mN (hMr S5 e2) hm).2]
            refine fin _ ?_
            rw [nI_add]
            show _ = nI (raw H l x m + _)
            rw [if_pos ((htt x).mp q)]
          · refine OK_pos (fun g => q ((opt_eq (by omega) htb).mp g)) (fin _ ?_)
            rw [show (0 : Int32) = nI 0 from rfl, nI_add]
            show _ = nI (raw H l x m + _)
            rw [if_neg (fun g => q ((htt x).mpr g))]
      have hln : kN H l m → ∀ y, lnote H l m = some y → y < 2 ^ 31 := fun hk y hy => by
        have hin := bst_in hW (fun d hd => (w9.2.1 d hd).1) w9.2.2.1 hO (best_ex hW hk)
        have := (List.mem_filter.mp (near_mem hin hy)).2
        have := kL_90 hW (thL_iff.mp this).1
        omega
      have hM3 := hMr S3 b2
      by_cases hk : kN H l m
      · have hkk : kN H (kn H z) m := by rw [← hl]; exact hk
        rw [(m_knowsNote hM3 hz).1 ((NK_nI hW (by omega)).mpr hkk)]
        refine OK_cl (OK_some rfl) ?_
        rintro v36 rfl
        refine OK_jn (OK_neg (by decide) ?_)
        rw [m_placeOf hM3 hz (by rw [← hl]; exact hAr S3 b2) hkk, ← hl]
        refine OK_cl (OK_some rfl) ?_
        rintro v45 rfl
        exact inner (lnote H l m) (hln hk) (fun x => ⟨fun q => ⟨hk.2, q⟩, fun q => q.2⟩)
      · rw [(m_knowsNote hM3 hz).2 (fun q => hk (by rw [hl]; exact (NK_nI hW (by omega)).mp q))]
        refine OK_cl (OK_some rfl) ?_
        rintro v36 rfl
        refine OK_jn (OK_pos rfl ?_)
        exact inner none (fun y hy => by cases hy) (fun x => Iff.intro (fun q => nomatch q) (fun q => absurd (And.intro hm q.1) hk))
  · have ht := limn t _ a1 hsz c
    have h90 : t < 90 := by omega
    rw [ck_eq h90 (by omega), nI_clamp (by omega)]
    refine OK_lt (OK_lt ?_)
    rw [nI_1]
    refine hn1 _ _ ⟨t + 1, rfl, ht, a2.tr (off_sa.P rfl), fun i hi => ?_⟩ (msz t h90)
    rw [ga_sa_eq]
    by_cases e : i = t
    · rw [e, upd_eq]; rfl
    · rw [upd_ne e]
      exact a3 i (by omega)
theorem m_isBegun {l : List Nat} {k : Nat} (hM : RM S H) (hA : ArrOK S H l) (hk : k < szP H l) : f_X7_isBegun S (nI k) = some (if bP H l k = true then 1 else 0) := by
  have hbs := mbs hM
  have hO := hA.2.2
  have hsz := szP_le hM.1 hO
  obtain ⟨x, hx⟩ : ∃ x, (tl H l)[k]? = some x := ⟨_, List.getElem?_eq_getElem hk⟩
  have hxl := tl_lt hO (List.mem_of_getElem? hx)
  have hbg := (hM.1.2.2.1 x hxl).2.2.2.2.2
  rw [bP_eq hx]
  unfold f_X7_isBegun jn
  dsimp only
  by_cases h0 : k = 0
  · rw [h0, if_pos (show nI 0 = (0 : Int32) from rfl)]
    rfl
  · rw [if_neg (nI_ne0 (by omega) (by omega)), ck_eq (by omega) (by omega), nI_clamp (by omega), hA.2.1.2 k x hx, ck_eq (by omega) (by omega), nI_clamp (by omega), (mL hM hxl).2.2.2]
    by_cases h1 : bg H x = 1
    · rw [if_neg (nI_ne0 (by omega) (by omega)), if_pos (by simp [h1])]
    · rw [show bg H x = 0 by omega, if_pos (show nI 0 = (0 : Int32) from rfl), if_neg (by simp [h0])]
theorem m_isBad {l : List Nat} {c : Nat} (hM : RM S H) (hA : ArrOK S H l) (h0 : 0 < c) (hc : c < szP H l) : f_X7_isBad S (nI c) = some (if badC (szP H l) (bP H l) c = true then 1 else 0) := by
  have hO := hA.2.2
  have hsz := szP_le hM.1 hO
  have g26 : gi S 26 = nI (szP H l) := hA.2.1.1
  have core : ∀ t : Int32, (t = 0 ∨ t = 1) → (cl (f_X7_isBegun S (nI c)) (fun (v42 : Int32) => jn (some (0 : Int32)) (fun J66 => if ¬ v42 = 0 then (J66) else (cl (f_X7_isBegun S (nI c - (1 : Int32))) (fun (v52 : Int32) => jn (some (1 : Int32)) (fun J62 => if ¬ v52 = 0 then (J62) else (if t = 0 then (J66) else (J62)))))))) = some (if (!bP H l c && (bP H l (c - 1) || decide (t = 1))) = true then 1 else 0) := by
    intro t ht
    rw [nI_sub1 h0, m_isBegun hM hA hc, m_isBegun hM hA (show c - 1 < szP H l by omega)]
    rcases ht with rfl | rfl <;> cases bP H l c <;> cases bP H l (c - 1) <;> rfl
  have hb : badC (szP H l) (bP H l) c = (!bP H l c && (bP H l (c - 1) || (decide (c + 1 = szP H l) || bP H l (c + 1)))) := by
    unfold badC
    rw [decide_eq_true hc, Bool.true_and]
  unfold f_X7_isBad
  rw [hb, g26]
  by_cases h1 : c + 1 = szP H l
  · have e1 : nI c = nI (szP H l) - 1 := by rw [← h1, nI_pred]
    unfold jn
    dsimp only
    rw [if_pos e1]
    refine (core 1 (Or.inr rfl)).trans ?_
    rw [decide_eq_true h1]
    simp
  · have e1 : ¬ nI c = nI (szP H l) - 1 := by
      rw [nI_sub1 (by omega)]
      intro q
      have := nI_inj (by omega) (by omega) q
      omega
    unfold jn
    dsimp only
    rw [if_neg e1, nI_1, if_neg (fun q => by have := (nI_leI (by omega) (by omega)).mp q; omega), m_isBegun hM hA (show c + 1 < szP H l by omega)]
    unfold cl
    rw [Option.bind_some, decide_eq_false h1, Bool.false_or]
    by_cases h2 : bP H l (c + 1) = true
    · rw [if_pos h2, if_neg (by decide)]
      refine (core 1 (Or.inr rfl)).trans ?_
      rw [h2]
      simp
    · rw [if_neg h2, if_pos rfl]
      refine (core 0 (Or.inl rfl)).trans ?_
      rw [show bP H l (c + 1) = false by simpa using h2]
      simp
end LAYM
