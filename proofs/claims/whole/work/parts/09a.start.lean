/-! BEFORE ANY CALL: no history -/
def H0s : Hs := (fun _ _ => 0, fun _ => [], [])
theorem WF0 : WF H0s := by
  have e0 : Hn H0s = 0 := rfl
  have eL : HL H0s = 0 := rfl
  have eN : HN H0s = 0 := rfl
  refine ⟨⟨Nat.le_refl _, by rw [e0]; omega⟩, fun d hd => ?_, fun d hd => ?_, fun d hd => ?_, fun d hd => ?_, fun d hd => ?_, fun d hd => ?_, fun d hd => ?_, fun s hs => ⟨List.nodup_nil, fun d hd => ?_, fun a d b e => ?_, Nat.le_refl _⟩⟩
  · rw [e0] at hd; omega
  · rw [eL] at hd; omega
  · rw [eN] at hd; omega
  · rw [e0] at hd; omega
  · rw [e0] at hd; omega
  · rw [eL] at hd; omega
  · rw [e0] at hd; omega
  · cases hd
  · have e : ([] : List Nat) = a ++ d :: b := e
    exact absurd (congrArg List.length e) (by simp)
theorem OrdL0 : OrdL H0s [] [] := ⟨Good_nil, List.nodup_nil, fun x => Iff.intro (fun h => nomatch h) (fun h => absurd h.1 (Nat.not_lt_zero x))⟩
theorem oo0 : oo H0s [] = [] := oo_eq WF0 OrdL0
theorem tl0 : tl H0s [] = [] := by unfold tl; rw [oo0]; rfl
theorem RC0 : RC S0C H0s := by
  have hF : ∀ (k : Nat) (f : Nat → Int32), isF S0C k 0 f := fun k f => ⟨rfl, fun i v h => by cases h⟩
  have hV : ∀ k, isV S0C k [] := fun k => ⟨rfl, fun i v h => by cases h⟩
  have hm : ∀ k e, e < 90 → ga S0C k e = -1 := fun k e h => if_pos (by have := ln_ge k; omega)
  refine ⟨WF0, ⟨hF _ _, hF _ _, hF _ _, hF _ _, hF _ _, hF _ _, hF _ _, hF _ _, hF _ _⟩, fun z hz => ⟨⟨hV _, fun e he => Iff.intro (fun _ h => nomatch h) (fun _ => hm _ e he), ?_, ?_, fun x hx => ⟨fun _ => hm _ x hx, fun h => absurd h.1 (Nat.not_lt_zero x)⟩, fun m hmm => ⟨fun _ => ⟨hm _ m hmm, hm _ m hmm⟩, fun h => absurd h.1 (Nat.not_lt_zero m)⟩⟩, ⟨⟨?_, ?_, fun x hx => ?_⟩, 0, fun p => ?_, hF _ _⟩, rfl⟩, ⟨hV _, fun p pg h => by cases h⟩, ⟨rfl, Nat.zero_le _, fun pg h => by cases h⟩⟩
  · show isV S0C (oT z + 1) ((oo H0s []).map nI)
    rw [oo0]; exact hV _
  · show OrdL H0s [] (oo H0s [])
    rw [oo0]; exact OrdL0
  · show isV S0C (oL z + 1) ((tl H0s []).map nI)
    rw [tl0]; exact hV _
  · show isV S0C (oL z + 3) (flg H0s (tl H0s []))
    rw [tl0]; exact hV _
  · have hx : x ∈ tl H0s [] := hx
    rw [tl0] at hx
    cases hx
  · have e : szP H0s [] = 0 := by unfold szP; rw [tl0]; rfl
    show p < 0 ↔ stP H0s [] p < szP H0s []
    rw [e]
    exact ⟨fun h => absurd h (Nat.not_lt_zero p), fun h => absurd h (Nat.not_lt_zero _)⟩
theorem RM0 : RM S0M H0s := by
  have e0 : Hn H0s = 0 := rfl
  have eL : HL H0s = 0 := rfl
  have eN : HN H0s = 0 := rfl
  refine ⟨WF0, ⟨⟨rfl, rfl, rfl⟩, fun d hd => ?_, fun d hd => ?_, fun d hd => ?_⟩, fun z hz => ⟨rfl, rfl, fun i d h => ?_, fun d hd => ?_⟩, ⟨rfl, fun p hp => ?_, fun p pg h => ?_⟩, ⟨rfl, Nat.zero_le _, fun pg h => by cases h⟩⟩
  · rw [e0] at hd; omega
  · rw [eL] at hd; omega
  · rw [eN] at hd; omega
  · cases h
  · show (0 : Int32) = if d ∈ ([] : List Nat) then 1 else 0
    rw [if_neg (by simp)]
  · rfl
  · cases h
