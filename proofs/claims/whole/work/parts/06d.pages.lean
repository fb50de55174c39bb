/-! PAGES: sz lines, r their rows by places, b which of them begin a paragraph -/
def smj (r : Nat → Nat) (i : Nat) : Nat → Nat
  | 0 => 0
  | j + 1 => smj r i j + r (i + j)
theorem smj_mono {r : Nat → Nat} {i : Nat} : ∀ {j k : Nat}, j ≤ k → smj r i j ≤ smj r i k := by
  intro j k h
  induction k with
  | zero => have : j = 0 := by omega
            rw [this]; exact Nat.le_refl _
  | succ k ih =>
    by_cases hj : j = k + 1
    · rw [hj]; exact Nat.le_refl _
    · have := ih (by omega)
      show smj r i j ≤ smj r i k + r (i + k)
      omega
/-- j lines from i on are as many as have room -/
def isFull (sz : Nat) (r : Nat → Nat) (i j : Nat) : Prop := (j = 0 ∨ i + j ≤ sz) ∧ smj r i j ≤ 6 ∧ (i + j < sz → 6 < smj r i (j + 1))
theorem isFull_uniq {sz : Nat} {r : Nat → Nat} {i j k : Nat} (h1 : isFull sz r i j) (h2 : isFull sz r i k) : j = k := by
  obtain ⟨a1, a2, a3⟩ := h1
  obtain ⟨b1, b2, b3⟩ := h2
  rcases Nat.lt_trichotomy j k with h | h | h
  · exfalso
    have h3 := a3 (by omega)
    have h4 := smj_mono (r := r) (i := i) (j := j + 1) (k := k) h
    omega
  · exact h
  · exfalso
    have h3 := b3 (by omega)
    have h4 := smj_mono (r := r) (i := i) (j := k + 1) (k := j) h
    omega
theorem isFull_ex {sz : Nat} {r : Nat → Nat} {i : Nat} : ∃ j, isFull sz r i j := by
  have key : ∀ n j, (j = 0 ∨ i + j ≤ sz) → smj r i j ≤ 6 → sz - (i + j) ≤ n → ∃ j, isFull sz r i j := by
    intro n
    induction n with
    | zero => intro j h1 h2 h3; exact ⟨j, h1, h2, fun h => by omega⟩
    | succ n ih =>
      intro j h1 h2 h3
      by_cases h4 : i + j < sz ∧ smj r i (j + 1) ≤ 6
      · exact ih (j + 1) (Or.inr (by omega)) h4.2 (by omega)
      · exact ⟨j, h1, h2, fun h => by
          rcases Nat.lt_or_ge 6 (smj r i (j + 1)) with q | q
          · exact q
          · exact absurd ⟨h, q⟩ h4⟩
  exact key sz 0 (Or.inl rfl) (Nat.zero_le _) (by omega)
noncomputable def fullF (sz : Nat) (r : Nat → Nat) (i : Nat) : Nat := Classical.choose (isFull_ex (sz := sz) (r := r) (i := i))
theorem fullF_spec {sz : Nat} {r : Nat → Nat} {i : Nat} : isFull sz r i (fullF sz r i) := Classical.choose_spec (isFull_ex (sz := sz) (r := r) (i := i))
theorem fullF_eq {sz : Nat} {r : Nat → Nat} {i j : Nat} (h : isFull sz r i j) : fullF sz r i = j := isFull_uniq fullF_spec h
/-- the cut ahead of c is bad -/
def badC (sz : Nat) (b : Nat → Bool) (c : Nat) : Bool := decide (c < sz) && !b c && (b (c - 1) || (decide (c + 1 = sz) || b (c + 1)))
/-- the latest cut that isn't bad, of the j behind i -/
def lgF (sz : Nat) (b : Nat → Bool) (i : Nat) : Nat → Option Nat
  | 0 => none
  | j + 1 => if badC sz b (i + (j + 1)) = true then lgF sz b i j else some (i + (j + 1))
theorem lgF_in {sz : Nat} {b : Nat → Bool} {i : Nat} : ∀ {j c : Nat}, lgF sz b i j = some c → i < c ∧ c ≤ i + j := by
  intro j
  induction j with
  | zero => intro c h; cases h
  | succ j ih =>
    intro c h
    unfold lgF at h
    split at h
    · have := ih h; omega
    · cases h; omega
noncomputable def endF (sz : Nat) (r : Nat → Nat) (b : Nat → Bool) (i : Nat) : Nat := (lgF sz b i (fullF sz r i)).getD (i + fullF sz r i)
theorem endF_le {sz : Nat} {r : Nat → Nat} {b : Nat → Bool} {i : Nat} (h : i ≤ sz) : endF sz r b i ≤ sz ∧ i ≤ endF sz r b i := by
  obtain ⟨h1, -, -⟩ := fullF_spec (sz := sz) (r := r) (i := i)
  unfold endF
  cases hl : lgF sz b i (fullF sz r i) with
  | none => simp; omega
  | some c =>
    have := lgF_in hl
    simp; omega
theorem endF_gt {sz : Nat} {r : Nat → Nat} {b : Nat → Bool} {i : Nat} (h : i < sz) (hr : r i ≤ 6) : i < endF sz r b i := by
  obtain ⟨h1, h2, h3⟩ := fullF_spec (sz := sz) (r := r) (i := i)
  have h4 : 0 < fullF sz r i := by
    rcases Nat.eq_zero_or_pos (fullF sz r i) with q | q
    · rw [q] at h3
      have h5 := h3 (by omega)
      have : smj r i (0 + 1) = r i := by simp [smj]
      omega
    · exact q
  unfold endF
  cases hl : lgF sz b i (fullF sz r i) with
  | none => simp; omega
  | some c =>
    have := lgF_in hl
    simp; omega
theorem endF_sz {sz : Nat} {r : Nat → Nat} {b : Nat → Bool} : endF sz r b sz = sz := by
  have := endF_le (sz := sz) (r := r) (b := b) (i := sz) (Nat.le_refl _)
  omega
/-- at most six lines on a page -/
theorem endF_six {sz : Nat} {r : Nat → Nat} {b : Nat → Bool} {i : Nat} (hr : ∀ k, k < sz → 1 ≤ r k) : endF sz r b i ≤ i + 6 := by
  obtain ⟨h1, h2, h3⟩ := fullF_spec (sz := sz) (r := r) (i := i)
  have key : ∀ j, (j = 0 ∨ i + j ≤ sz) → j ≤ smj r i j := by
    intro j
    induction j with
    | zero => intro _; exact Nat.zero_le _
    | succ j ih =>
      intro h
      have h5 := ih (by omega)
      have h6 := hr (i + j) (by omega)
      show j + 1 ≤ smj r i j + r (i + j)
      omega
  have h7 := key _ h1
  unfold endF
  cases hl : lgF sz b i (fullF sz r i) with
  | none => simp; omega
  | some c =>
    have := lgF_in hl
    simp; omega
/-- where the page p starts -/
noncomputable def stF (sz : Nat) (r : Nat → Nat) (b : Nat → Bool) : Nat → Nat
  | 0 => 0
  | p + 1 => endF sz r b (stF sz r b p)
section PG
variable {sz : Nat} {r : Nat → Nat} {b : Nat → Bool}
theorem stF_le : ∀ p, stF sz r b p ≤ sz := by
  intro p
  induction p with
  | zero => exact Nat.zero_le _
  | succ p ih => exact (endF_le ih).1
theorem stF_mono : ∀ {p q : Nat}, p ≤ q → stF sz r b p ≤ stF sz r b q := by
  intro p q h
  induction q with
  | zero => have : p = 0 := by omega
            rw [this]; exact Nat.le_refl _
  | succ q ih =>
    by_cases hp : p = q + 1
    · rw [hp]; exact Nat.le_refl _
    · exact Nat.le_trans (ih (by omega)) (endF_le (stF_le q)).2
theorem stF_lt (hr : ∀ k, k < sz → r k ≤ 6) {p : Nat} (h : stF sz r b p < sz) : stF sz r b p < stF sz r b (p + 1) := endF_gt h (hr _ h)
theorem stF_ge (hr : ∀ k, k < sz → r k ≤ 6) : ∀ p, stF sz r b p < sz → p ≤ stF sz r b p := by
  intro p
  induction p with
  | zero => intro _; exact Nat.zero_le _
  | succ p ih =>
    intro h
    have h1 : stF sz r b p ≤ stF sz r b (p + 1) := stF_mono (Nat.le_succ p)
    have h2 := ih (by omega)
    have h3 := stF_lt (b := b) hr (p := p) (by omega)
    omega
theorem stF_sz (hr : ∀ k, k < sz → r k ≤ 6) {p : Nat} (h : sz ≤ p) : stF sz r b p = sz := by
  have h1 := stF_le (sz := sz) (r := r) (b := b) p
  rcases Nat.lt_or_ge (stF sz r b p) sz with q | q
  · have := stF_ge hr p q
    omega
  · omega
theorem np_ex (hr : ∀ k, k < sz → r k ≤ 6) : ∃ P, ∀ p, p < P ↔ stF sz r b p < sz := by
  have key : ∀ n, ∃ P, P ≤ n ∧ (∀ p, p < P → stF sz r b p < sz) ∧ (P < n → ¬ stF sz r b P < sz) := by
    intro n
    induction n with
    | zero => exact ⟨0, Nat.le_refl _, fun p h => by omega, fun h => by omega⟩
    | succ n ih =>
      obtain ⟨P, h1, h2, h3⟩ := ih
      by_cases hP : P < n
      · exact ⟨P, by omega, h2, fun _ => h3 hP⟩
      · have e : P = n := by omega
        subst e
        by_cases h4 : stF sz r b P < sz
        · exact ⟨P + 1, by omega, fun p hp => by
            by_cases h5 : p = P
            · rw [h5]; exact h4
            · exact h2 p (by omega), fun h => by omega⟩
        · exact ⟨P, by omega, h2, fun _ => h4⟩
  obtain ⟨P, h1, h2, h3⟩ := key (sz + 1)
  refine ⟨P, fun p => ⟨h2 p, fun h => ?_⟩⟩
  have h5 : ¬ stF sz r b P < sz := by
    rcases Nat.lt_or_ge P (sz + 1) with q | q
    · exact h3 q
    · rw [stF_sz hr (by omega)]; omega
  rcases Nat.lt_or_ge p P with q | q
  · exact q
  · have := stF_mono (sz := sz) (r := r) (b := b) q
    omega
theorem np_uniq {P P2 : Nat} (h1 : ∀ p, p < P ↔ stF sz r b p < sz) (h2 : ∀ p, p < P2 ↔ stF sz r b p < sz) : P = P2 := by
  rcases Nat.lt_trichotomy P P2 with h | h | h
  · have := (h1 P).mpr ((h2 P).mp h); omega
  · exact h
  · have := (h2 P2).mpr ((h1 P2).mp h); omega
/-- on which page the place k is -/
theorem pg_ex (hr : ∀ k, k < sz → r k ≤ 6) {k : Nat} (hk : k < sz) : ∃ p, stF sz r b p ≤ k ∧ k < stF sz r b (p + 1) := by
  have key : ∀ n, (∃ p, stF sz r b p ≤ k ∧ k < stF sz r b (p + 1)) ∨ stF sz r b n ≤ k := by
    intro n
    induction n with
    | zero => exact Or.inr (Nat.zero_le _)
    | succ n ih =>
      rcases ih with h | h
      · exact Or.inl h
      · rcases Nat.lt_or_ge k (stF sz r b (n + 1)) with q | q
        · exact Or.inl ⟨n, h, q⟩
        · exact Or.inr q
  rcases key sz with h | h
  · exact h
  · rw [stF_sz hr (Nat.le_refl _)] at h; omega
theorem pg_uniq {k p q : Nat} (h1 : stF sz r b p ≤ k ∧ k < stF sz r b (p + 1)) (h2 : stF sz r b q ≤ k ∧ k < stF sz r b (q + 1)) : p = q := by
  rcases Nat.lt_trichotomy p q with h | h | h
  · have := stF_mono (sz := sz) (r := r) (b := b) (p := p + 1) (q := q) h; omega
  · exact h
  · have := stF_mono (sz := sz) (r := r) (b := b) (p := q + 1) (q := p) h; omega
end PG
