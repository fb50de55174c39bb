/-! WHAT THE VIEWS ARE, AND WHEN THEY STAY -/
theorem sl_inj {H : Hs} (hW : WF H) {x y : Nat} (hx : x < HL H) (hy : y < HL H) (h : sl H x = sl H y) : x = y := by
  obtain ⟨-, -, w3, -, -, w6, -, -, -⟩ := hW
  have h1 := w3 x hx
  have h2 := w3 y hy
  have h3 : mb H x = mb H y := w6 _ h1.1 _ h2.1 h
  rw [← h1.2.2.1, ← h2.2.2.1, h3]
theorem oo_eq {H : Hs} {l o : List Nat} (hW : WF H) (h : OrdL H l o) : oo H l = o := by
  have h1 : OrdL H l (oo H l) := Classical.epsilon_spec ⟨o, h⟩
  refine Good_unique _ _ _ rfl h1.1 h.1 h1.2.1 h.2.1 (fun x => by rw [h1.2.2, h.2.2]) (fun x hx y hy he => ?_)
  exact sl_inj hW ((h1.2.2 x).mp hx).1 ((h1.2.2 y).mp hy).1 he
theorem bst_eq {H : Hs} {l : List Nat} {m d : Nat} (hW : WF H) (hl : ∀ d ∈ l, d < Hn H) (h : isBest H l m d) : bst H l m = d := by
  have h1 : isBest H l m (bst H l m) := Classical.epsilon_spec ⟨d, h⟩
  obtain ⟨⟨a1, a2, a3⟩, a4⟩ := h1
  obtain ⟨⟨b1, b2, b3⟩, b4⟩ := h
  have h2 := a4 d b1 b2 b3
  have h3 := b4 _ a1 a2 a3
  exact hW.2.2.2.2.2.1 _ (hl _ a1) _ (hl _ b1) (by omega)
/-- H2 is H with more deeds -/
def Ext (H H2 : Hs) : Prop :=
  (Hn H ≤ Hn H2 ∧ HL H ≤ HL H2 ∧ HN H ≤ HN H2) ∧
  (∀ d, d < Hn H → dk H2 d = dk H d ∧ dc H2 d = dc H d ∧ dsi H2 d = dsi H d ∧ dl H2 d = dl H d ∧ dn H2 d = dn H d) ∧
  (∀ x, x < HL H → mb H2 x = mb H x ∧ bh H2 x = bh H x ∧ va H2 x = va H x ∧ bg H2 x = bg H x) ∧
  (∀ m, m < HN H → nb H2 m = nb H m ∧ nr H2 m = nr H m) ∧
  (∀ x, HL H ≤ x → x < HL H2 → Hn H ≤ mb H2 x) ∧ (∀ m, HN H ≤ m → m < HN H2 → Hn H ≤ nb H2 m)
theorem Ext_rf {H : Hs} : Ext H H := ⟨⟨Nat.le_refl _, Nat.le_refl _, Nat.le_refl _⟩, fun _ _ => ⟨rfl, rfl, rfl, rfl, rfl⟩, fun _ _ => ⟨rfl, rfl, rfl, rfl⟩, fun _ _ => ⟨rfl, rfl⟩, fun x h1 h2 => by omega, fun x h1 h2 => by omega⟩
section EXT
variable {H H2 : Hs} {l : List Nat}
theorem Ext_tkn (hE : Ext H H2) (hl : ∀ d ∈ l, d < Hn H) : tkn H2 l = tkn H l := by
  funext x
  unfold tkn
  induction l with
  | nil => rfl
  | cons a l ih =>
    have h1 := hE.2.1 a (hl a (by simp))
    rw [List.any_cons, List.any_cons, ih (fun d hd => hl d (by simp [hd])), h1.1, h1.2.2.2.1]
theorem Ext_kL (hE : Ext H H2) (hl : ∀ d ∈ l, d < Hn H) (x : Nat) : kL H2 l x ↔ kL H l x := by
  constructor
  · rintro ⟨h1, h2⟩
    rcases Nat.lt_or_ge x (HL H) with q | q
    · exact ⟨q, by rw [← (hE.2.2.1 x q).1]; exact h2⟩
    · have := hE.2.2.2.2.1 x q h1
      have := hl _ h2
      omega
  · rintro ⟨h1, h2⟩
    exact ⟨by have := hE.1.2.1; omega, by rw [(hE.2.2.1 x h1).1]; exact h2⟩
theorem Ext_kN (hE : Ext H H2) (hl : ∀ d ∈ l, d < Hn H) (x : Nat) : kN H2 l x ↔ kN H l x := by
  constructor
  · rintro ⟨h1, h2⟩
    rcases Nat.lt_or_ge x (HN H) with q | q
    · exact ⟨q, by rw [← (hE.2.2.2.1 x q).1]; exact h2⟩
    · have := hE.2.2.2.2.2 x q h1
      have := hl _ h2
      omega
  · rintro ⟨h1, h2⟩
    exact ⟨by have := hE.1.2.2; omega, by rw [(hE.2.2.2.1 x h1).1]; exact h2⟩
theorem thL_iff {H : Hs} {l : List Nat} {x : Nat} : thL H l x = true ↔ kL H l x ∧ tkn H l x = false := by
  unfold thL kL
  simp [and_assoc]
theorem Ext_thL (hE : Ext H H2) (hl : ∀ d ∈ l, d < Hn H) : thL H2 l = thL H l := by
  funext x
  rw [Bool.eq_iff_iff, thL_iff, thL_iff, Ext_kL hE hl, Ext_tkn hE hl]
theorem Ext_sp (hE : Ext H H2) {d : Nat} (hd : d < Hn H) : sp H2 d = sp H d := by
  have h := hE.2.1 d hd
  unfold sp
  rw [h.2.1, h.2.2.1]
theorem Ext_sl (hE : Ext H H2) (hW : WF H) {x : Nat} (hx : x < HL H) : sl H2 x = sl H x := by
  unfold sl
  rw [(hE.2.2.1 x hx).1, Ext_sp hE (hW.2.2.1 x hx).1]
theorem Ext_par (hE : Ext H H2) {x : Nat} (hx : x < HL H) : par H2 x = par H x := by
  unfold par
  rw [(hE.2.2.1 x hx).2.1]
theorem Ext_good (hE : Ext H H2) (hW : WF H) {o : List Nat} (ho : ∀ x ∈ o, x < HL H) : Good (sl H2) (par H2) o ↔ Good (sl H) (par H) o := by
  have key : ∀ (a : List Nat) (x : Nat), x < HL H → (∀ y ∈ a, y < HL H) → nsl (sl H2) x a = nsl (sl H) x a := by
    intro a x hx ha
    unfold nsl
    congr 1
    refine List.filter_congr (fun y hy => ?_)
    rw [Ext_sl hE hW hx, Ext_sl hE hW (ha y hy)]
  constructor
  · intro h a x r e
    have hx : x < HL H := ho x (by rw [e]; simp)
    rw [← Ext_par hE hx, ← key a x hx (fun y hy => ho y (by rw [e]; simp [hy]))]
    exact h a x r e
  · intro h a x r e
    have hx : x < HL H := ho x (by rw [e]; simp)
    rw [Ext_par hE hx, key a x hx (fun y hy => ho y (by rw [e]; simp [hy]))]
    exact h a x r e
theorem Ext_ordL (hE : Ext H H2) (hW : WF H) (hl : ∀ d ∈ l, d < Hn H) : OrdL H2 l = OrdL H l := by
  funext o
  refine propext ⟨fun ⟨h1, h2, h3⟩ => ?_, fun ⟨h1, h2, h3⟩ => ?_⟩
  · have h4 : ∀ x, x ∈ o ↔ kL H l x := fun x => (h3 x).trans (Ext_kL hE hl x)
    exact ⟨(Ext_good hE hW (fun x hx => ((h4 x).mp hx).1)).mp h1, h2, h4⟩
  · exact ⟨(Ext_good hE hW (fun x hx => ((h3 x).mp hx).1)).mpr h1, h2, fun x => (h3 x).trans (Ext_kL hE hl x).symm⟩
theorem Ext_oo (hE : Ext H H2) (hW : WF H) (hl : ∀ d ∈ l, d < Hn H) : oo H2 l = oo H l := by
  unfold oo
  rw [Ext_ordL hE hW hl]
theorem Ext_isBest (hE : Ext H H2) (hl : ∀ d ∈ l, d < Hn H) (m : Nat) : isBest H2 l m = isBest H l m := by
  funext d
  have key : ∀ d ∈ l, dk H2 d = dk H d ∧ dn H2 d = dn H d ∧ sp H2 d = sp H d := fun d hd => ⟨(hE.2.1 d (hl d hd)).1, (hE.2.1 d (hl d hd)).2.2.2.2, Ext_sp hE (hl d hd)⟩
  refine propext ⟨fun ⟨⟨h1, h2, h3⟩, h4⟩ => ?_, fun ⟨⟨h1, h2, h3⟩, h4⟩ => ?_⟩
  · obtain ⟨k1, k2, k3⟩ := key d h1
    refine ⟨⟨h1, by omega, by omega⟩, fun d' hd' q1 q2 => ?_⟩
    obtain ⟨j1, j2, j3⟩ := key d' hd'
    have := h4 d' hd' (by omega) (by omega)
    omega
  · obtain ⟨k1, k2, k3⟩ := key d h1
    refine ⟨⟨h1, by omega, by omega⟩, fun d' hd' q1 q2 => ?_⟩
    obtain ⟨j1, j2, j3⟩ := key d' hd'
    have := h4 d' hd' (by omega) (by omega)
    omega
theorem Ext_bst (hE : Ext H H2) (hl : ∀ d ∈ l, d < Hn H) (m : Nat) : bst H2 l m = bst H l m := by
  unfold bst
  rw [Ext_isBest hE hl]
theorem Ext_tl (hE : Ext H H2) (hW : WF H) (hl : ∀ d ∈ l, d < Hn H) : tl H2 l = tl H l := by
  unfold tl
  rw [Ext_oo hE hW hl, Ext_thL hE hl]
end EXT
