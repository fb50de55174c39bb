/-! THE ORDER OF LINES: a list in which each line's nearest lesser one on its left is the line behind which it was put; there is one such list of the same lines -/
def nsl (st : Nat → Nat) (x : Nat) (l : List Nat) : Option Nat := (l.filter (fun y => decide (st y < st x))).getLast?
def Good (st : Nat → Nat) (par : Nat → Option Nat) (o : List Nat) : Prop := ∀ l x r, o = l ++ x :: r → nsl st x l = par x
theorem Good_nil {st : Nat → Nat} {par : Nat → Option Nat} : Good st par [] := fun l x r h => by simp at h
theorem Good_insert {st : Nat → Nat} {par : Nat → Option Nat} {l r : List Nat} {x : Nat} (h : Good st par (l ++ r)) (hx : nsl st x l = par x) (hr : ∀ z r', r = z :: r' → st z < st x) : Good st par (l ++ x :: r) := by
  intro l2 y r2 he
  rcases List.append_eq_append_iff.mp he with ⟨a, h1, h2⟩ | ⟨a, h1, h2⟩
  · cases a with
    | nil =>
      simp only [List.append_nil, List.nil_append, List.cons.injEq] at h1 h2
      obtain ⟨h2, -⟩ := h2
      subst h1; subst h2
      exact hx
    | cons a0 a =>
      simp only [List.cons_append, List.cons.injEq] at h2
      obtain ⟨rfl, h2⟩ := h2
      have h3 : nsl st y (l ++ a) = par y := h (l ++ a) y r2 (by rw [h2, List.append_assoc])
      rw [h1, ← h3]
      unfold nsl
      rw [List.filter_append, List.filter_append, List.filter_cons]
      split
      · rename_i q
        have q : st x < st y := by simpa using q
        cases a with
        | nil =>
          have := hr y r2 h2
          omega
        | cons z a =>
          have h4 := hr z (a ++ y :: r2) h2
          have h5 : (z :: a).filter (fun w => decide (st w < st y)) = z :: a.filter (fun w => decide (st w < st y)) := by
            rw [List.filter_cons, if_pos (by simp; omega)]
          rw [h5]
          simp
      · rfl
  · cases a with
    | nil =>
      simp only [List.append_nil, List.nil_append, List.cons.injEq] at h1 h2
      obtain ⟨rfl, -⟩ := h2
      subst h1
      exact hx
    | cons a0 a =>
      simp only [List.cons_append, List.cons.injEq] at h2
      obtain ⟨rfl, h2⟩ := h2
      exact h l2 y (a ++ r) (by rw [h1, List.append_assoc, List.cons_append])
theorem Good_snoc {st : Nat → Nat} {par : Nat → Option Nat} {l : List Nat} {x : Nat} (h : Good st par l) (hx : nsl st x l = par x) : Good st par (l ++ [x]) :=
  Good_insert (r := []) (by rw [List.append_nil]; exact h) hx (fun z r' h => by cases h)
theorem Good_drop {st : Nat → Nat} {par : Nat → Option Nat} {l r : List Nat} {m : Nat} (h : Good st par (l ++ m :: r)) (hm : ∀ y ∈ l ++ r, st y < st m) : Good st par (l ++ r) := by
  intro l2 y r2 he
  have hy : st y < st m := hm y (by rw [he]; simp)
  have hd : ∀ a : List Nat, nsl st y (l ++ m :: a) = nsl st y (l ++ a) := by
    intro a
    unfold nsl
    rw [List.filter_append, List.filter_append, List.filter_cons, if_neg (by simp; omega)]
  rcases List.append_eq_append_iff.mp he with ⟨a, h1, h2⟩ | ⟨a, h1, h2⟩
  · rw [h1, ← hd]
    exact h (l ++ m :: a) y r2 (by rw [h2]; simp)
  · cases a with
    | nil =>
      simp only [List.append_nil, List.nil_append] at h1 h2
      subst h1
      rw [← List.append_nil l, ← hd]
      exact h (l ++ [m]) y r2 (by rw [← h2]; simp)
    | cons a0 a =>
      simp only [List.cons_append, List.cons.injEq] at h2
      obtain ⟨rfl, h2⟩ := h2
      exact h l2 y (a ++ m :: r) (by rw [h1]; simp)
theorem ex_max (st : Nat → Nat) : ∀ (o : List Nat), o ≠ [] → ∃ m ∈ o, ∀ y ∈ o, st y ≤ st m := by
  intro o
  induction o with
  | nil => intro h; exact absurd rfl h
  | cons a l ih =>
    intro _
    by_cases hl : l = []
    · subst hl
      exact ⟨a, by simp, fun y hy => by simp at hy; rw [hy]; exact Nat.le_refl _⟩
    · obtain ⟨m, h1, h2⟩ := ih hl
      by_cases h : st a ≤ st m
      · exact ⟨m, by simp [h1], fun y hy => by
          rcases List.mem_cons.mp hy with rfl | hy
          · exact h
          · exact h2 y hy⟩
      · exact ⟨a, by simp, fun y hy => by
          rcases List.mem_cons.mp hy with rfl | hy
          · exact Nat.le_refl _
          · have := h2 y hy; omega⟩
theorem nodup_split {x : Nat} : ∀ {l l2 r r2 : List Nat}, (l ++ x :: r).Nodup → l ++ x :: r = l2 ++ x :: r2 → l = l2 ∧ r = r2 := by
  intro l l2 r r2 hn he
  rcases List.append_eq_append_iff.mp he with ⟨a, h1, h2⟩ | ⟨a, h1, h2⟩
  · cases a with
    | nil => simp at h1 h2; exact ⟨h1.symm, h2⟩
    | cons a0 a =>
      exfalso
      simp only [List.cons_append, List.cons.injEq] at h2
      rw [h2.2] at hn
      have := (List.nodup_append.mp hn).2.1
      rw [List.nodup_cons] at this
      exact this.1 (by simp)
  · cases a with
    | nil => simp at h1 h2; exact ⟨h1, h2.symm⟩
    | cons a0 a =>
      exfalso
      simp only [List.cons_append, List.cons.injEq] at h2
      obtain ⟨rfl, h2⟩ := h2
      rw [h1] at hn
      rw [List.append_assoc] at hn
      have := (List.nodup_append.mp hn).2.1
      rw [List.cons_append, List.nodup_cons] at this
      exact this.1 (by simp)
theorem Good_unique {st : Nat → Nat} {par : Nat → Option Nat} : ∀ (n : Nat) (o1 o2 : List Nat), o1.length = n → Good st par o1 → Good st par o2 → o1.Nodup → o2.Nodup → (∀ x, x ∈ o1 ↔ x ∈ o2) → (∀ x ∈ o1, ∀ y ∈ o1, st x = st y → x = y) → o1 = o2 := by
  intro n
  induction n with
  | zero =>
    intro o1 o2 hl _ _ _ _ hm _
    have h1 : o1 = [] := List.eq_nil_of_length_eq_zero hl
    subst h1
    have h2 : o2 = [] := List.eq_nil_iff_forall_not_mem.mpr (fun x hx => by simpa using (hm x).mpr hx)
    rw [h2]
  | succ n ih =>
    intro o1 o2 hl h1 h2 n1 n2 hm hi
    obtain ⟨m, hm1, hmax⟩ := ex_max st o1 (by intro h; rw [h] at hl; cases hl)
    obtain ⟨l1, r1, e1⟩ := List.append_of_mem hm1
    obtain ⟨l2, r2, e2⟩ := List.append_of_mem ((hm m).mp hm1)
    subst e1; subst e2
    have hlt1 : ∀ y ∈ l1 ++ r1, st y < st m := by
      intro y hy
      have hy1 : y ∈ l1 ++ m :: r1 := by
        rcases List.mem_append.mp hy with q | q
        · exact List.mem_append_left _ q
        · exact List.mem_append_right _ (List.mem_cons_of_mem _ q)
      have h3 := hmax y hy1
      rcases Nat.lt_or_ge (st y) (st m) with q | q
      · exact q
      · exfalso
        have e : y = m := hi y hy1 m hm1 (by omega)
        subst e
        rw [List.nodup_append] at n1
        obtain ⟨k1, k2, k3⟩ := n1
        rcases List.mem_append.mp hy with q | q
        · exact k3 y q y (by simp) rfl
        · exact (List.nodup_cons.mp k2).1 q
    have hsub : ∀ y, y ∈ l1 ++ r1 ↔ y ∈ l2 ++ r2 := by
      intro y
      have key : ∀ {l r : List Nat}, (l ++ m :: r).Nodup → (y ∈ l ++ r ↔ y ∈ l ++ m :: r ∧ y ≠ m) := by
        intro l r hn
        rw [List.nodup_append] at hn
        obtain ⟨k1, k2, k3⟩ := hn
        constructor
        · intro hy
          rcases List.mem_append.mp hy with q | q
          · exact ⟨List.mem_append_left _ q, fun e => k3 y q y (by simp [e]) rfl⟩
          · exact ⟨List.mem_append_right _ (List.mem_cons_of_mem _ q), fun e => (List.nodup_cons.mp k2).1 (e ▸ q)⟩
        · rintro ⟨hy, hne⟩
          rcases List.mem_append.mp hy with q | q
          · exact List.mem_append_left _ q
          · exact List.mem_append_right _ ((List.mem_cons.mp q).resolve_left hne)
      rw [key n1, key n2, hm y]
    have hlt2 : ∀ y ∈ l2 ++ r2, st y < st m := fun y hy => hlt1 y ((hsub y).mpr hy)
    have g1 : nsl st m l1 = par m := h1 l1 m r1 rfl
    have g2 : nsl st m l2 = par m := h2 l2 m r2 rfl
    have f1 : l1.filter (fun y => decide (st y < st m)) = l1 := List.filter_eq_self.mpr (fun y hy => by simpa using hlt1 y (List.mem_append_left _ hy))
    have f2 : l2.filter (fun y => decide (st y < st m)) = l2 := List.filter_eq_self.mpr (fun y hy => by simpa using hlt2 y (List.mem_append_left _ hy))
    unfold nsl at g1 g2
    rw [f1] at g1
    rw [f2] at g2
    have dn : ∀ {l r : List Nat}, (l ++ m :: r).Nodup → (l ++ r).Nodup := by
      intro l r hn
      exact hn.sublist (List.Sublist.append_left (List.sublist_cons_self m r) l)
    have ih1 : l1 ++ r1 = l2 ++ r2 := ih (l1 ++ r1) (l2 ++ r2) (by simp at hl ⊢; omega) (Good_drop h1 hlt1) (Good_drop h2 hlt2) (dn n1) (dn n2) hsub
      (fun x hx y hy => hi x (by rcases List.mem_append.mp hx with q | q <;> simp [q]) y (by rcases List.mem_append.mp hy with q | q <;> simp [q]))
    rcases List.eq_nil_or_concat l1 with q1 | ⟨l1', p1, q1⟩ <;> rcases List.eq_nil_or_concat l2 with q2 | ⟨l2', p2, q2⟩
    · subst q1; subst q2
      simp at ih1
      rw [ih1]
    · subst q1; subst q2
      rw [← g2] at g1
      simp at g1
    · subst q1; subst q2
      rw [← g2] at g1
      simp at g1
    · subst q1; subst q2
      rw [← g2] at g1
      simp at g1
      subst g1
      have hn := dn n1
      simp only [List.concat_eq_append, List.append_assoc, List.singleton_append] at ih1 hn ⊢
      obtain ⟨e1, e2⟩ := nodup_split hn ih1
      rw [e1, e2]
