/-! THE VIEWS STAY when others learn or new deeds are made -/
theorem best_ex {H : Hs} {l : List Nat} {m : Nat} (hW : WF H) (hk : kN H l m) : isBest H l m (bst H l m) := by
  obtain ⟨k1, k2⟩ := hk
  have w := hW.2.2.2.1 m k1
  let c := l.filter (fun d => decide (2 ≤ dk H d ∧ dn H d = m))
  have hc : ∀ d, d ∈ c ↔ d ∈ l ∧ 2 ≤ dk H d ∧ dn H d = m := fun d => by simp [c]
  have h0 : nb H m ∈ c := (hc _).mpr ⟨k2, by omega, w.2.2.1⟩
  obtain ⟨d, h1, h2⟩ := ex_max (sp H) c (fun e => by rw [e] at h0; cases h0)
  exact Classical.epsilon_spec (p := isBest H l m) ⟨d, (hc d).mp h1, fun d' a1 a2 a3 => h2 d' ((hc d').mpr ⟨a1, a2, a3⟩)⟩
section EXT2
variable {H H2 : Hs} {l : List Nat}
theorem Ext_lnote (hE : Ext H H2) (hW : WF H) (hl : ∀ d ∈ l, d < Hn H) {m : Nat} (hk : kN H l m) : lnote H2 l m = lnote H l m := by
  unfold lnote
  rw [Ext_thL hE hl, Ext_oo hE hW hl, Ext_bst hE hl, (hE.2.1 _ (hl _ (best_ex hW hk).1.1)).2.2.2.1]
theorem Ext_rwN (hE : Ext H H2) (hW : WF H) (hl : ∀ d ∈ l, d < Hn H) (x : Nat) : ∀ m, m ≤ HN H → rwN H2 l x m = rwN H l x m := by
  intro m
  induction m with
  | zero => intro _; rfl
  | succ m ih =>
    intro hm
    rw [rwN_succ, rwN_succ, ih (by omega)]
    have e := hE.2.2.2.1 m (by omega)
    rw [e.1, e.2]
    by_cases h : nb H m ∈ l
    · rw [Ext_lnote hE hW hl ⟨by omega, h⟩]
    · rw [if_neg (fun q => h q.1), if_neg (fun q => h q.1)]
theorem Ext_rwL (hE : Ext H H2) (hW : WF H) (hl : ∀ d ∈ l, d < Hn H) (x : Nat) : rwL H2 l x = rwL H l x := by
  unfold rwL
  have key : ∀ k, HN H + k ≤ HN H2 → rwN H2 l x (HN H + k) = rwN H l x (HN H) := by
    intro k
    induction k with
    | zero => intro _; exact Ext_rwN hE hW hl x _ (Nat.le_refl _)
    | succ k ih =>
      intro hk
      rw [← Nat.add_assoc, rwN_succ, ih (by omega), if_neg]
      rintro ⟨q, -⟩
      have h1 := hl _ q
      have h2 := hE.2.2.2.2.2 (HN H + k) (by omega) (by omega)
      omega
  have h := hE.1.2.2
  have := key (HN H2 - HN H) (by omega)
  rw [show HN H + (HN H2 - HN H) = HN H2 by omega] at this
  exact this
theorem Ext_szP (hE : Ext H H2) (hW : WF H) (hl : ∀ d ∈ l, d < Hn H) : szP H2 l = szP H l := by
  unfold szP
  rw [Ext_tl hE hW hl]
theorem Ext_rP (hE : Ext H H2) (hW : WF H) (hl : ∀ d ∈ l, d < Hn H) : rP H2 l = rP H l := by
  funext k
  unfold rP
  rw [Ext_tl hE hW hl]
  cases (tl H l)[k]? with
  | none => rfl
  | some x => exact Ext_rwL hE hW hl x
theorem tl_kL {H : Hs} {l : List Nat} (hO : OrdL H l (oo H l)) {x : Nat} (h : x ∈ tl H l) : kL H l x := (thL_iff.mp ((tl_mem hO).mp h)).1
theorem Ext_bP (hE : Ext H H2) (hW : WF H) (hl : ∀ d ∈ l, d < Hn H) (hO : OrdL H l (oo H l)) : bP H2 l = bP H l := by
  funext k
  unfold bP
  rw [Ext_tl hE hW hl]
  cases h : (tl H l)[k]? with
  | none => rfl
  | some x =>
    have hx := tl_lt hO (List.mem_of_getElem? h)
    dsimp only
    rw [(hE.2.2.1 x hx).2.2.2]
theorem Ext_stP (hE : Ext H H2) (hW : WF H) (hl : ∀ d ∈ l, d < Hn H) (hO : OrdL H l (oo H l)) (p : Nat) : stP H2 l p = stP H l p := by
  unfold stP
  rw [Ext_szP hE hW hl, Ext_rP hE hW hl, Ext_bP hE hW hl hO]
theorem LayOK_ext {S : St} {z : Nat} (hE : Ext H H2) (hW : WF H) (hl : ∀ d ∈ l, d < Hn H) (hO : OrdL H l (oo H l)) (h : LayOK S z H l) : LayOK S z H2 l := by
  obtain ⟨⟨a1, a2, a3⟩, P, a4, a5⟩ := h
  have e : flg H2 (tl H l) = flg H (tl H l) := by
    unfold flg
    refine List.mapIdx_eq_mapIdx_iff.mpr (fun i hi => ?_)
    rw [(hE.2.2.1 _ (tl_lt hO (List.getElem_mem hi))).2.2.2]
  refine ⟨⟨by rw [Ext_tl hE hW hl]; exact a1, by rw [Ext_tl hE hW hl, e]; exact a2, ?_⟩, P, fun p => by rw [Ext_stP hE hW hl hO, Ext_szP hE hW hl]; exact a4 p, isF_congr a5 (fun p _ => by rw [Ext_stP hE hW hl hO])⟩
  intro x hx
  rw [Ext_tl hE hW hl] at hx
  rw [Ext_rwL hE hW hl]
  exact a3 x hx
end EXT2
