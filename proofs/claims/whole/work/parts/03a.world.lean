/-! THE STATE: int fields and int rows by keys; a loop as a function; the class's world as a list of cells at fixed places behind one address -/
abbrev St : Type := (Nat → Int32) × (Nat → Nat → Int32)
def gi (S : St) (k : Nat) : Int32 := S.1 k
def ga (S : St) (k : Nat) : Nat → Int32 := S.2 k
def si (S : St) (k : Nat) (v : Int32) : St := (fun j => if j = k then v else S.1 j, S.2)
def sa (S : St) (k i : Nat) (v : Int32) : St := (S.1, fun j => if j = k then upd (S.2 j) i v else S.2 j)
theorem gi_si (S : St) (k j : Nat) (v : Int32) : gi (si S k v) j = if j = k then v else gi S j := rfl
theorem ga_si (S : St) (k j : Nat) (v : Int32) : ga (si S k v) j = ga S j := rfl
theorem gi_sa (S : St) (k i j : Nat) (v : Int32) : gi (sa S k i v) j = gi S j := rfl
theorem ga_sa (S : St) (k i j : Nat) (v : Int32) : ga (sa S k i v) j = if j = k then upd (ga S j) i v else ga S j := rfl
-- combinators
def Lp1 {α R : Type} (body : α → (α → Option R) → Option R) : Nat → α → Option R
  | 0, _ => none
  | n + 1, a => body a (Lp1 body n)
def Lp2 {α β R : Type} (body : α → β → (α → β → Option R) → Option R) : Nat → α → β → Option R
  | 0, _, _ => none
  | n + 1, a, b => body a b (Lp2 body n)
def Lp3 {α β γ R : Type} (body : α → β → γ → (α → β → γ → Option R) → Option R) : Nat → α → β → γ → Option R
  | 0, _, _, _ => none
  | n + 1, a, b, c => body a b c (Lp3 body n)
def Lp4 {α β γ δ R : Type} (body : α → β → γ → δ → (α → β → γ → δ → Option R) → Option R) : Nat → α → β → γ → δ → Option R
  | 0, _, _, _, _ => none
  | n + 1, a, b, c, d => body a b c d (Lp4 body n)
def Lp5 {α β γ δ ε R : Type} (body : α → β → γ → δ → ε → (α → β → γ → δ → ε → Option R) → Option R) : Nat → α → β → γ → δ → ε → Option R
  | 0, _, _, _, _, _ => none
  | n + 1, a, b, c, d, f => body a b c d f (Lp5 body n)
theorem Lp1_ind {α R : Type} {body : α → (α → Option R) → Option R} {r : R} {P : α → Prop} (h : ∀ (next : α → Option R) (a : α), (∀ a', next a' = some r → P a') → body a next = some r → P a) : ∀ n a, Lp1 body n a = some r → P a := by
  intro n
  induction n with
  | zero => intro a h0; cases h0
  | succ n ih => intro a h0; exact h _ a ih h0
theorem Lp2_ind {α β R : Type} {body : α → β → (α → β → Option R) → Option R} {r : R} {P : α → β → Prop} (h : ∀ (next : α → β → Option R) (a : α) (b : β), (∀ a' b', next a' b' = some r → P a' b') → body a b next = some r → P a b) : ∀ n a b, Lp2 body n a b = some r → P a b := by
  intro n
  induction n with
  | zero => intro a b h0; cases h0
  | succ n ih => intro a b h0; exact h _ a b ih h0
theorem Lp3_ind {α β γ R : Type} {body : α → β → γ → (α → β → γ → Option R) → Option R} {r : R} {P : α → β → γ → Prop} (h : ∀ (next : α → β → γ → Option R) (a : α) (b : β) (c : γ), (∀ a' b' c', next a' b' c' = some r → P a' b' c') → body a b c next = some r → P a b c) : ∀ n a b c, Lp3 body n a b c = some r → P a b c := by
  intro n
  induction n with
  | zero => intro a b c h0; cases h0
  | succ n ih => intro a b c h0; exact h _ a b c ih h0
theorem Lp4_ind {α β γ δ R : Type} {body : α → β → γ → δ → (α → β → γ → δ → Option R) → Option R} {r : R} {P : α → β → γ → δ → Prop} (h : ∀ (next : α → β → γ → δ → Option R) (a : α) (b : β) (c : γ) (d : δ), (∀ a' b' c' d', next a' b' c' d' = some r → P a' b' c' d') → body a b c d next = some r → P a b c d) : ∀ n a b c d, Lp4 body n a b c d = some r → P a b c d := by
  intro n
  induction n with
  | zero => intro a b c d h0; cases h0
  | succ n ih => intro a b c d h0; exact h _ a b c d ih h0
theorem Lp5_ind {α β γ δ ε R : Type} {body : α → β → γ → δ → ε → (α → β → γ → δ → ε → Option R) → Option R} {r : R} {P : α → β → γ → δ → ε → Prop} (h : ∀ (next : α → β → γ → δ → ε → Option R) (a : α) (b : β) (c : γ) (d : δ) (f : ε), (∀ a' b' c' d' f', next a' b' c' d' f' = some r → P a' b' c' d' f') → body a b c d f next = some r → P a b c d f) : ∀ n a b c d f, Lp5 body n a b c d f = some r → P a b c d f := by
  intro n
  induction n with
  | zero => intro a b c d f h0; cases h0
  | succ n ih => intro a b c d f h0; exact h _ a b c d f ih h0
def jn {α R : Type} (k : α) (body : α → Option R) : Option R := body k
theorem jn_some {α R : Type} {k : α} {body : α → Option R} {r : R} (h : jn k body = some r) : ∃ J, J = k ∧ body J = some r := ⟨k, rfl, h⟩
theorem ite_t {c : Prop} {d : Decidable c} {R : Type} {a b : Option R} {r : R} (h : c) (hf : @ite _ c d a b = some r) : a = some r := by rwa [if_pos h] at hf
theorem ite_f {c : Prop} {d : Decidable c} {R : Type} {a b : Option R} {r : R} (h : ¬ c) (hf : @ite _ c d a b = some r) : b = some r := by rwa [if_neg h] at hf
def ck {R : Type} (i : Int32) (n : Nat) (k : Option R) : Option R := if i < 0 ∨ n ≤ i.toNatClampNeg then none else k
theorem ck_some {R : Type} {i : Int32} {n : Nat} {k : Option R} {r : R} (h : ck i n k = some r) : vp_in i n ∧ k = some r := by
  unfold ck at h
  split at h
  · cases h
  · rename_i q
    exact ⟨q, h⟩
def nz {R : Type} (y : Int32) (k : Option R) : Option R := if y = 0 then none else k
theorem nz_some {R : Type} {y : Int32} {k : Option R} {r : R} (h : nz y k = some r) : ¬ y = 0 ∧ k = some r := by
  unfold nz at h
  split at h
  · cases h
  · rename_i q
    exact ⟨q, h⟩
def bz {R : Type} (y : Int32) (k : Option R) : Option R := if y = 0 ∨ y = 1 then k else none
theorem bz_some {R : Type} {y : Int32} {k : Option R} {r : R} (h : bz y k = some r) : narrow .boolean (.int y) = .int y ∧ k = some r := by
  unfold bz at h
  split at h
  · rename_i q
    refine ⟨?_, h⟩
    rcases q with q | q <;> subst q <;> rfl
  · cases h
def cl {α R : Type} (x : Option α) (k : α → Option R) : Option R := x.bind k
theorem cl_some {α R : Type} {x : Option α} {k : α → Option R} {r : R} (h : cl x k = some r) : ∃ a, x = some a ∧ k a = some r := Option.bind_eq_some_iff.mp h
def cl2 {α β R : Type} (x : Option (α × β)) (k : α → β → Option R) : Option R := x.bind (fun q => k q.1 q.2)
theorem cl2_some {α β R : Type} {x : Option (α × β)} {k : α → β → Option R} {r : R} (h : cl2 x k = some r) : ∃ a b, x = some (a, b) ∧ k a b = some r := by
  obtain ⟨⟨a, b⟩, h1, h2⟩ := Option.bind_eq_some_iff.mp h
  exact ⟨a, b, h1, h2⟩
/-- a callee that may throw: what it threw, or what it answered -/
def cx {α R : Type} (x : Option (Nat ⊕ α)) (kt : Nat → Option R) (k : α → Option R) : Option R := x.bind (fun q => q.elim kt k)
theorem cx_some {α R : Type} {x : Option (Nat ⊕ α)} {kt : Nat → Option R} {k : α → Option R} {r : R} (h : cx x kt k = some r) : (∃ e, x = some (.inl e) ∧ kt e = some r) ∨ (∃ a, x = some (.inr a) ∧ k a = some r) := by
  obtain ⟨q, h1, h2⟩ := Option.bind_eq_some_iff.mp h
  cases q with
  | inl e => exact Or.inl ⟨e, h1, h2⟩
  | inr a => exact Or.inr ⟨a, h1, h2⟩
def exN : Nat → String
  | 1 => "java/lang/IndexOutOfBoundsException"
  | 2 => "java/lang/IllegalArgumentException"
  | 3 => "java/lang/IllegalStateException"
  | _ => "java/util/NoSuchElementException"
-- places of the class's cells
def oS (s : Nat) : Nat := 21 + 27 * s
def oT (s : Nat) : Nat := oS s + 5
def oL (s : Nat) : Nat := oS s + 18
def kdL : List Nat := [6, 1, 2,8,2,8,2,8,2,8,2,8,2,8,2,8,2,8,2,8, 10, 4,2,8,2,8,5,2,8,2,8,2,8,2,8,2,8,2,8,0,2,8,2,8,2,8,2,8, 4,2,8,2,8,5,2,8,2,8,2,8,2,8,2,8,2,8,0,2,8,2,8,2,8,2,8, 4,2,8,2,8,5,2,8,2,8,2,8,2,8,2,8,2,8,0,2,8,2,8,2,8,2,8, 4,2,8,2,8,5,2,8,2,8,2,8,2,8,2,8,2,8,0,2,8,2,8,2,8,2,8, 3,2,8,2,8,2,8]
def kd (k : Nat) : Nat := kdL.getD k 99
def nK (k : Nat) : Bool := kd k == 2
def ln (k : Nat) : Nat := if k = 132 ∨ k = 134 then 540 else 90
theorem kdL_len : kdL.length = 136 := by decide +kernel
theorem nK_lt {k : Nat} (h : nK k = true) : k + 1 < 136 ∧ kd k = 2 ∧ kd (k + 1) = 8 := by
  have h2 : kd k = 2 := by simpa [nK] using h
  have h3 : k < 136 := by
    rcases Nat.lt_or_ge k 136 with q | q
    · exact q
    · exfalso
      have : kd k = 99 := by unfold kd; rw [List.getD_eq_getElem?_getD, List.getElem?_eq_none (by rw [kdL_len]; exact q)]; rfl
      omega
  have h4 : ∀ k, k < 136 → kd k = 2 → k + 1 < 136 ∧ kd (k + 1) = 8 := by decide +kernel
  exact ⟨(h4 k h3 h2).1, h2, (h4 k h3 h2).2⟩
def cellC (cI cO : ClassId) (b : Nat) (S : St) (k : Nat) : va_E :=
  if kd k = 2 then .inr (2, [.ref (b + (k + 1)), .int (gi S k)])
  else if kd k = 8 then .inl (cI, ln (k - 1), .inl (ga S (k - 1)))
  else if kd k = 4 then .inr (4, [.ref (b + (k + 5)), .ref (b + (k + 18)), .int (nI ((k - 21) / 27)), .ref (b + (k + 1)), .ref (b + (k + 3)), .int (gi S k)])
  else if kd k = 5 then .inr (5, [.ref (b + 1), .ref (b + (k + 1)), .ref (b + (k + 3)), .ref (b + (k + 5)), .ref (b + (k + 7)), .ref (b + (k + 9)), .ref (b + (k + 11))])
  else if kd k = 0 then .inr (0, [.ref (b + 1), .ref (b + (k - 13)), .ref (b + (k + 1)), .ref (b + (k + 3)), .ref (b + (k + 5)), .ref (b + (k + 7))])
  else if kd k = 1 then .inr (1, [.ref (b + 2), .ref (b + 4), .ref (b + 6), .ref (b + 8), .ref (b + 10), .ref (b + 12), .ref (b + 14), .ref (b + 16), .ref (b + 18)])
  else if kd k = 3 then .inr (3, [.ref (b + oL 0), .ref (b + 130), .ref (b + 132), .ref (b + 134)])
  else if kd k = 6 then .inr (6, [.ref (b + 1), .ref (b + 20), .ref (b + 129)])
  else .inl (cO, 4, .inr (.inr (.inr (.inr (fun j => some (b + oS j))))))
def wC (cI cO : ClassId) (b : Nat) (S : St) : va_W := (List.range 136).map (fun k => (b + k, cellC cI cO b S k))
def AC (b : Nat) : Nat → Prop := fun q => b ≤ q ∧ q < b + 136
theorem wC_at {cI cO : ClassId} {b : Nat} {S : St} {k : Nat} (h : k < 136) : (wC cI cO b S)[k]? = some (b + k, cellC cI cO b S k) := by
  unfold wC
  rw [List.getElem?_map, List.getElem?_range h]
  rfl
theorem wC_len {cI cO : ClassId} {b : Nat} {S : St} : (wC cI cO b S).length = 136 := by simp [wC]
theorem wC_D {cI cO : ClassId} {b : Nat} {S : St} : va_D (AC b) (wC cI cO b S) := by
  have key : ∀ (k : Nat) (q : Nat × va_E), (wC cI cO b S)[k]? = some q → k < 136 ∧ q.1 = b + k := by
    intro k q h
    have hk : k < 136 := by rw [← wC_len (cI := cI) (cO := cO) (b := b) (S := S)]; exact (List.getElem?_eq_some_iff.mp h).1
    rw [wC_at hk] at h
    cases h
    exact ⟨hk, rfl⟩
  refine ⟨fun i j p q hi hj hpq => ?_, fun k q h => ?_⟩
  · have h1 := (key i p hi).2
    have h2 := (key j q hj).2
    omega
  · obtain ⟨h1, h2⟩ := key k q h
    show b ≤ q.1 ∧ q.1 < b + 136
    omega
theorem wC_N {cI cO : ClassId} {b : Nat} {S : St} {k : Nat} (h : nK k = true) : (wC cI cO b S)[k]? = some (b + k, .inr (2, [.ref (b + (k + 1)), .int (gi S k)])) := by
  obtain ⟨h1, h2, h3⟩ := nK_lt h
  rw [wC_at (by omega), cellC, if_pos h2]
theorem wC_A {cI cO : ClassId} {b : Nat} {S : St} {k : Nat} (h : nK k = true) : (wC cI cO b S)[k + 1]? = some (b + (k + 1), .inl (cI, ln k, .inl (ga S k))) := by
  obtain ⟨h1, h2, h3⟩ := nK_lt h
  rw [wC_at h1, cellC, if_neg (by omega), if_pos h3, Nat.add_sub_cancel]
theorem kd_S : ∀ s, s < 4 → kd (oS s) = 4 ∧ kd (oT s) = 5 ∧ kd (oL s) = 0 ∧ oS s < 136 ∧ oT s < 136 ∧ oL s < 136 := by decide +kernel
theorem wC_S {cI cO : ClassId} {b : Nat} {S : St} {s : Nat} (h : s < 4) : (wC cI cO b S)[oS s]? = some (b + oS s, .inr (4, [.ref (b + oT s), .ref (b + oL s), .int (nI s), .ref (b + (oS s + 1)), .ref (b + (oS s + 3)), .int (gi S (oS s))])) := by
  obtain ⟨h1, h2, h3, h4, h5, h6⟩ := kd_S s h
  have e : (oS s - 21) / 27 = s := by unfold oS; omega
  rw [wC_at h4, cellC, if_neg (by omega), if_neg (by omega), if_pos h1, e]
  rfl
theorem wC_T {cI cO : ClassId} {b : Nat} {S : St} {s : Nat} (h : s < 4) : (wC cI cO b S)[oT s]? = some (b + oT s, .inr (5, [.ref (b + 1), .ref (b + (oT s + 1)), .ref (b + (oT s + 3)), .ref (b + (oT s + 5)), .ref (b + (oT s + 7)), .ref (b + (oT s + 9)), .ref (b + (oT s + 11))])) := by
  obtain ⟨h1, h2, h3, h4, h5, h6⟩ := kd_S s h
  rw [wC_at h5, cellC, if_neg (by omega), if_neg (by omega), if_neg (by omega), if_pos h2]
theorem wC_L {cI cO : ClassId} {b : Nat} {S : St} {s : Nat} (h : s < 4) : (wC cI cO b S)[oL s]? = some (b + oL s, .inr (0, [.ref (b + 1), .ref (b + oT s), .ref (b + (oL s + 1)), .ref (b + (oL s + 3)), .ref (b + (oL s + 5)), .ref (b + (oL s + 7))])) := by
  obtain ⟨h1, h2, h3, h4, h5, h6⟩ := kd_S s h
  have e : oL s - 13 = oT s := by unfold oL oT; omega
  rw [wC_at h6, cellC, if_neg (by omega), if_neg (by omega), if_neg (by omega), if_neg (by omega), if_pos h3, e]
theorem wC_G {cI cO : ClassId} {b : Nat} {S : St} : (wC cI cO b S)[1]? = some (b + 1, .inr (1, [.ref (b + 2), .ref (b + 4), .ref (b + 6), .ref (b + 8), .ref (b + 10), .ref (b + 12), .ref (b + 14), .ref (b + 16), .ref (b + 18)])) := by
  rw [wC_at (by omega)]; rfl
theorem wC_P {cI cO : ClassId} {b : Nat} {S : St} : (wC cI cO b S)[129]? = some (b + 129, .inr (3, [.ref (b + oL 0), .ref (b + 130), .ref (b + 132), .ref (b + 134)])) := by
  rw [wC_at (by omega)]; rfl
theorem wC_M {cI cO : ClassId} {b : Nat} {S : St} : (wC cI cO b S)[0]? = some (b + 0, .inr (6, [.ref (b + 1), .ref (b + 20), .ref (b + 129)])) := by
  rw [wC_at (by omega)]; rfl
theorem wC_AA {cI cO : ClassId} {b : Nat} {S : St} : (wC cI cO b S)[20]? = some (b + 20, .inl (cO, 4, .inr (.inr (.inr (.inr (fun j => some (b + oS j))))))) := by
  rw [wC_at (by omega)]; rfl
theorem nKT : ∀ s, s < 4 → nK (oT s + 1) = true ∧ nK (oT s + 3) = true ∧ nK (oT s + 5) = true ∧ nK (oT s + 7) = true ∧ nK (oT s + 9) = true ∧ nK (oT s + 11) = true := by decide +kernel
theorem nKL : ∀ s, s < 4 → nK (oL s + 1) = true ∧ nK (oL s + 3) = true ∧ nK (oL s + 5) = true ∧ nK (oL s + 7) = true := by decide +kernel
theorem nKS : ∀ s, s < 4 → nK (oS s + 1) = true ∧ nK (oS s + 3) = true := by decide +kernel
theorem nK_S0 : ∀ s, s < 4 → ∀ j, j < 4 → nK (oS j) = false := by decide +kernel
/-- a world whose function of places agrees but at one -/
theorem wC_set {cI cO : ClassId} {b : Nat} {S S1 : St} {k : Nat} {e1 : va_E} (hk : k < 136) (h1 : cellC cI cO b S1 k = e1) (h2 : ∀ j, j ≠ k → cellC cI cO b S1 j = cellC cI cO b S j) : (wC cI cO b S).set k (b + k, e1) = wC cI cO b S1 := by
  refine List.ext_getElem? (fun j => ?_)
  by_cases hj : j = k
  · subst hj
    rw [List.getElem?_set_self (by rw [wC_len]; exact hk), wC_at hk, h1]
  · rw [List.getElem?_set_ne (Ne.symm hj)]
    by_cases hl : j < 136
    · rw [wC_at hl, wC_at hl, h2 j hj]
    · rw [List.getElem?_eq_none (by rw [wC_len]; omega), List.getElem?_eq_none (by rw [wC_len]; omega)]
theorem cellC_si {cI cO : ClassId} {b : Nat} {S : St} {k j : Nat} {v : Int32} (hj : j ≠ k) : cellC cI cO b (si S k v) j = cellC cI cO b S j := by
  unfold cellC
  rw [gi_si, if_neg hj]
  rfl
theorem cellC_sa {cI cO : ClassId} {b : Nat} {S : St} {k i j : Nat} {v : Int32} (hj : j ≠ k + 1) : cellC cI cO b (sa S k i v) j = cellC cI cO b S j := by
  unfold cellC
  have e : kd j = 8 → ga (sa S k i v) (j - 1) = ga S (j - 1) := by
    intro h8
    rw [ga_sa, if_neg]
    intro h9
    have : j ≠ 0 := by intro h0; subst h0; exact absurd h8 (by decide)
    omega
  by_cases h2 : kd j = 2
  · rw [if_pos h2, if_pos h2]; rfl
  · rw [if_neg h2, if_neg h2]
    by_cases h8 : kd j = 8
    · rw [if_pos h8, if_pos h8, e h8]
    · rw [if_neg h8, if_neg h8]; rfl
theorem wC_si {cI cO : ClassId} {b : Nat} {S : St} {k : Nat} {v : Int32} (h : nK k = true) : (wC cI cO b S).set k (b + k, .inr (2, [.ref (b + (k + 1)), .int v])) = wC cI cO b (si S k v) := by
  obtain ⟨h1, h2, h3⟩ := nK_lt h
  refine wC_set (by omega) ?_ (fun j hj => cellC_si hj)
  rw [cellC, if_pos h2, gi_si, if_pos rfl]
theorem wC_sa {cI cO : ClassId} {b : Nat} {S : St} {k i : Nat} {v : Int32} (h : nK k = true) : (wC cI cO b S).set (k + 1) (b + (k + 1), .inl (cI, ln k, .inl (upd (ga S k) i v))) = wC cI cO b (sa S k i v) := by
  obtain ⟨h1, h2, h3⟩ := nK_lt h
  refine wC_set h1 ?_ (fun j hj => cellC_sa hj)
  rw [cellC, if_neg (by omega), if_pos h3, Nat.add_sub_cancel, ga_sa, if_pos rfl]
theorem wC_sS {cI cO : ClassId} {b : Nat} {S : St} {s : Nat} {v : Int32} (h : s < 4) : (wC cI cO b S).set (oS s) (b + oS s, .inr (4, [.ref (b + oT s), .ref (b + oL s), .int (nI s), .ref (b + (oS s + 1)), .ref (b + (oS s + 3)), .int v])) = wC cI cO b (si S (oS s) v) := by
  obtain ⟨h1, h2, h3, h4, h5, h6⟩ := kd_S s h
  have e : (oS s - 21) / 27 = s := by unfold oS; omega
  refine wC_set h4 ?_ (fun j hj => cellC_si hj)
  rw [cellC, if_neg (by omega), if_neg (by omega), if_pos h1, e, gi_si, if_pos rfl]
  rfl
