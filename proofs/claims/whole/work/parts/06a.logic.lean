/-! A SMALL LOGIC over the functions: x answers, and the answer has P -/
def OK {R : Type} (x : Option R) (P : R → Prop) : Prop := ∃ r, x = some r ∧ P r
theorem OK_some {R : Type} {r : R} {P : R → Prop} (h : P r) : OK (some r) P := ⟨r, rfl, h⟩
theorem OK_mono {R : Type} {x : Option R} {P Q : R → Prop} (h : OK x P) (k : ∀ r, P r → Q r) : OK x Q := by
  obtain ⟨r, h1, h2⟩ := h
  exact ⟨r, h1, k r h2⟩
theorem OK_cl {α R : Type} {x : Option α} {k : α → Option R} {P : α → Prop} {Q : R → Prop} (h : OK x P) (hk : ∀ a, P a → OK (k a) Q) : OK (cl x k) Q := by
  obtain ⟨a, rfl, h2⟩ := h
  exact hk a h2
theorem OK_cl2 {α β R : Type} {x : Option (α × β)} {k : α → β → Option R} {P : α → β → Prop} {Q : R → Prop} (h : OK x (fun q => P q.1 q.2)) (hk : ∀ a b, P a b → OK (k a b) Q) : OK (cl2 x k) Q := by
  obtain ⟨⟨a, b⟩, rfl, h2⟩ := h
  exact hk a b h2
theorem OK_ck {R : Type} {i : Int32} {n : Nat} {k : Option R} {P : R → Prop} (hi : vp_in i n) (h : OK k P) : OK (ck i n k) P := by
  unfold ck
  rw [if_neg hi]
  exact h
theorem OK_lt {α R : Type} {x : α} {k : α → Option R} {P : R → Prop} (h : OK (k x) P) : OK (lt x k) P := h
theorem OK_jn {α R : Type} {k : α} {body : α → Option R} {P : R → Prop} (h : OK (body k) P) : OK (jn k body) P := h
theorem OK_ite {c : Prop} {d : Decidable c} {R : Type} {a b : Option R} {P : R → Prop} (h1 : c → OK a P) (h2 : ¬ c → OK b P) : OK (@ite _ c d a b) P := by
  split
  · exact h1 ‹_›
  · exact h2 ‹_›
theorem OK_pos {c : Prop} {d : Decidable c} {R : Type} {a b : Option R} {P : R → Prop} (h : c) (h1 : OK a P) : OK (@ite _ c d a b) P := by rw [if_pos h]; exact h1
theorem OK_neg {c : Prop} {d : Decidable c} {R : Type} {a b : Option R} {P : R → Prop} (h : ¬ c) (h1 : OK b P) : OK (@ite _ c d a b) P := by rw [if_neg h]; exact h1
theorem OK_nz {R : Type} {y : Int32} {k : Option R} {P : R → Prop} (h : ¬ y = 0) (h1 : OK k P) : OK (nz y k) P := by
  unfold nz
  rw [if_neg h]
  exact h1
theorem OK_bz {R : Type} {y : Int32} {k : Option R} {P : R → Prop} (h : y = 0 ∨ y = 1) (h1 : OK k P) : OK (bz y k) P := by
  unfold bz
  rw [if_pos h]
  exact h1
theorem Lp1_ok {α R : Type} {body : α → (α → Option R) → Option R} {P : R → Prop} (I : α → Prop) (μ : α → Nat) (h : ∀ (next : α → Option R) (a : α), I a → (∀ a', I a' → μ a' < μ a → OK (next a') P) → OK (body a next) P) : ∀ (n : Nat) (a : α), I a → μ a < n → OK (Lp1 body n a) P := by
  intro n
  induction n with
  | zero => intro a _ h0; omega
  | succ n ih => intro a hI hm; exact h _ a hI (fun a' hI' hm' => ih a' hI' (by omega))
theorem Lp2_ok {α β R : Type} {body : α → β → (α → β → Option R) → Option R} {P : R → Prop} (I : α → β → Prop) (μ : α → β → Nat) (h : ∀ (next : α → β → Option R) (a : α) (b : β), I a b → (∀ a' b', I a' b' → μ a' b' < μ a b → OK (next a' b') P) → OK (body a b next) P) : ∀ (n : Nat) (a : α) (b : β), I a b → μ a b < n → OK (Lp2 body n a b) P := by
  intro n
  induction n with
  | zero => intro a b _ h0; omega
  | succ n ih => intro a b hI hm; exact h _ a b hI (fun a' b' hI' hm' => ih a' b' hI' (by omega))
theorem Lp3_ok {α β γ R : Type} {body : α → β → γ → (α → β → γ → Option R) → Option R} {P : R → Prop} (I : α → β → γ → Prop) (μ : α → β → γ → Nat) (h : ∀ (next : α → β → γ → Option R) (a : α) (b : β) (c : γ), I a b c → (∀ a' b' c', I a' b' c' → μ a' b' c' < μ a b c → OK (next a' b' c') P) → OK (body a b c next) P) : ∀ (n : Nat) (a : α) (b : β) (c : γ), I a b c → μ a b c < n → OK (Lp3 body n a b c) P := by
  intro n
  induction n with
  | zero => intro a b c _ h0; omega
  | succ n ih => intro a b c hI hm; exact h _ a b c hI (fun a' b' c' hI' hm' => ih a' b' c' hI' (by omega))
theorem Lp4_ok {α β γ δ R : Type} {body : α → β → γ → δ → (α → β → γ → δ → Option R) → Option R} {P : R → Prop} (I : α → β → γ → δ → Prop) (μ : α → β → γ → δ → Nat) (h : ∀ (next : α → β → γ → δ → Option R) (a : α) (b : β) (c : γ) (d : δ), I a b c d → (∀ a' b' c' d', I a' b' c' d' → μ a' b' c' d' < μ a b c d → OK (next a' b' c' d') P) → OK (body a b c d next) P) : ∀ (n : Nat) (a : α) (b : β) (c : γ) (d : δ), I a b c d → μ a b c d < n → OK (Lp4 body n a b c d) P := by
  intro n
  induction n with
  | zero => intro a b c d _ h0; omega
  | succ n ih => intro a b c d hI hm; exact h _ a b c d hI (fun a' b' c' d' hI' hm' => ih a' b' c' d' hI' (by omega))
theorem Lp5_ok {α β γ δ ε R : Type} {body : α → β → γ → δ → ε → (α → β → γ → δ → ε → Option R) → Option R} {P : R → Prop} (I : α → β → γ → δ → ε → Prop) (μ : α → β → γ → δ → ε → Nat) (h : ∀ (next : α → β → γ → δ → ε → Option R) (a : α) (b : β) (c : γ) (d : δ) (f : ε), I a b c d f → (∀ a' b' c' d' f', I a' b' c' d' f' → μ a' b' c' d' f' < μ a b c d f → OK (next a' b' c' d' f') P) → OK (body a b c d f next) P) : ∀ (n : Nat) (a : α) (b : β) (c : γ) (d : δ) (f : ε), I a b c d f → μ a b c d f < n → OK (Lp5 body n a b c d f) P := by
  intro n
  induction n with
  | zero => intro a b c d f _ h0; omega
  | succ n ih => intro a b c d f hI hm; exact h _ a b c d f hI (fun a' b' c' d' f' hI' hm' => ih a' b' c' d' f' hI' (by omega))
theorem FU_1000 : FU = 1000 := rfl
-- numbers
theorem nI_in' {c N : Nat} (h : c < N) (hN : N < 2 ^ 31) : vp_in (nI c) N := nI_in h hN
theorem nI_neg1_lt {n : Nat} (h : n < 2 ^ 31) : (-1 : Int32) < nI n := by
  rw [Int32.lt_iff_toInt_lt, nI_toInt h]
  have : (-1 : Int32).toInt = -1 := by decide
  omega
theorem neg1_lt0 : (-1 : Int32) < 0 := by decide
theorem nI_ne_neg1 {n : Nat} (h : n < 2 ^ 31) : ¬ nI n = (-1 : Int32) := by
  intro e
  have h1 := congrArg Int32.toInt e
  rw [nI_toInt h] at h1
  have : (-1 : Int32).toInt = -1 := by decide
  omega
theorem neg1_ne_nI {n : Nat} (h : n < 2 ^ 31) : ¬ (-1 : Int32) = nI n := fun e => nI_ne_neg1 h e.symm
theorem nI_neg1_add1 : (-1 : Int32) + 1 = nI 0 := by decide
theorem nI_sub1 {n : Nat} (h : 0 < n) : nI n - 1 = nI (n - 1) := by
  obtain ⟨k, rfl⟩ : ∃ k, n = k + 1 := ⟨n - 1, by omega⟩
  exact nI_pred k
theorem nI_addm1 {n : Nat} (h : 0 < n) : nI n + (-1 : Int32) = nI (n - 1) := by
  rw [← nI_sub1 h, Int32.sub_eq_add_neg]
theorem nI_sub {a b : Nat} (h : b ≤ a) : nI a - nI b = nI (a - b) := by
  have e : nI a = nI (a - b) + nI b := by rw [nI_add, Nat.sub_add_cancel h]
  rw [e, Int32.add_sub_cancel]
theorem nI_mul (a b : Nat) : nI a * nI b = nI (a * b) := (Int32.ofNat_mul a b).symm
theorem nI_inj {a b : Nat} (ha : a < 2 ^ 31) (hb : b < 2 ^ 31) (h : nI a = nI b) : a = b := (nI_eq ha hb).mp h
theorem ln_le (k : Nat) : ln k ≤ 540 := by unfold ln; split <;> omega
theorem ln_ge (k : Nat) : 90 ≤ ln k := by unfold ln; split <;> omega
/-- everything but the numbers at the key k is as it was -/
def off (k : Nat) (S S1 : St) : Prop := ∀ j, j ≠ k → gi S1 j = gi S j ∧ ga S1 j = ga S j
theorem off.rf {k : Nat} {S : St} : off k S S := fun _ _ => ⟨rfl, rfl⟩
theorem off.tr {k : Nat} {S S1 S2 : St} (h1 : off k S S1) (h2 : off k S1 S2) : off k S S2 := fun j hj => ⟨(h2 j hj).1.trans (h1 j hj).1, (h2 j hj).2.trans (h1 j hj).2⟩
theorem off_si {k : Nat} {S : St} {v : Int32} : off k S (si S k v) := fun j hj => ⟨by rw [gi_si, if_neg hj], rfl⟩
theorem off_sa {k i : Nat} {S : St} {v : Int32} : off k S (sa S k i v) := fun j hj => ⟨rfl, by rw [ga_sa, if_neg hj]⟩
theorem upd_eq {f : Nat → Int32} {k : Nat} {v : Int32} : upd f k v k = v := if_pos rfl
theorem upd_ne {f : Nat → Int32} {k j : Nat} {v : Int32} (h : j ≠ k) : upd f k v j = f j := if_neg h
theorem ga_sa_eq {S : St} {k i : Nat} {v : Int32} : ga (sa S k i v) k = upd (ga S k) i v := by rw [ga_sa, if_pos rfl]
theorem gi_si_eq {S : St} {k : Nat} {v : Int32} : gi (si S k v) k = v := by rw [gi_si, if_pos rfl]
/-- the numbers at the key k hold the list vs -/
def isV (S : St) (k : Nat) (vs : List Int32) : Prop := gi S k = nI vs.length ∧ ∀ i v, vs[i]? = some v → ga S k i = v
theorem isV.off {S S1 : St} {k j : Nat} {vs : List Int32} (h : isV S k vs) (ho : off j S S1) (hj : k ≠ j) : isV S1 k vs := ⟨by rw [(ho k hj).1]; exact h.1, fun i v hv => by rw [(ho k hj).2]; exact h.2 i v hv⟩
-- class Numbers
theorem at_eq {S : St} {k i : Nat} (h : i < ln k) : f_X2_at S k (nI i) = some (ga S k i) := by
  have h5 := ln_le k
  unfold f_X2_at jn ck
  dsimp only
  rw [if_neg (nI_pos (by omega)), if_neg (nI_ge h (by omega)), if_neg (nI_in h (by omega)), nI_clamp (by omega)]
theorem at_m1 {S : St} {k : Nat} : f_X2_at S k (-1) = some (-1) := by
  unfold f_X2_at jn
  dsimp only
  rw [if_pos neg1_lt0]
theorem at_hi {S : St} {k i : Nat} (h : ln k ≤ i) (hi : i < 2 ^ 31) : f_X2_at S k (nI i) = some (-1) := by
  unfold f_X2_at jn
  dsimp only
  rw [if_neg (nI_pos (by omega)), if_pos (nI_le h hi)]
theorem at_neg {S : St} {k : Nat} {x : Int32} (h : x < 0) : f_X2_at S k x = some (-1) := by
  unfold f_X2_at jn
  dsimp only
  rw [if_pos h]
/-- at any number: what lies there, or NONE -/
theorem at_any {S : St} {k : Nat} (x : Int32) : f_X2_at S k x = some (-1) ∨ ∃ i, i < ln k ∧ x = nI i ∧ f_X2_at S k x = some (ga S k i) := by
  by_cases h0 : x < 0
  · exact Or.inl (at_neg h0)
  · obtain ⟨j, hj, rfl⟩ := nI_of h0
    by_cases h1 : j < ln k
    · exact Or.inr ⟨j, h1, rfl, at_eq h1⟩
    · exact Or.inl (at_hi (by omega) hj)
theorem put_eq {S : St} {k i : Nat} {v : Int32} (h : i < ln k) : f_X2_put S k (nI i) v = some (sa S k i v) := by
  have h5 := ln_le k
  unfold f_X2_put ck lt
  rw [if_neg (nI_pos (by omega)), if_neg (nI_ge h (by omega)), if_neg (nI_in h (by omega)), nI_clamp (by omega)]
theorem put_m1 {S : St} {k : Nat} {v : Int32} : f_X2_put S k (-1) v = some S := by
  unfold f_X2_put
  rw [if_pos neg1_lt0]
theorem isV_clear {S : St} {k : Nat} : isV (si S k 0) k [] := ⟨gi_si_eq, fun i v h => by simp at h⟩
theorem clear_eq {S : St} {k : Nat} : f_X2_clear S k = some (si S k 0) := rfl
theorem size_eq {S : St} {k : Nat} : f_X2_size S k = some (gi S k) := rfl
