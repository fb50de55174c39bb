/-! THE HISTORY: a table of numbers, what each site knows, what was printed -/
abbrev Hs : Type := (Nat → Nat → Nat) × (Nat → List Nat) × List (List (Nat × Nat))
def Hn (H : Hs) : Nat := H.1 0 0
def HL (H : Hs) : Nat := H.1 0 1
def HN (H : Hs) : Nat := H.1 0 2
def Hc (H : Hs) (s : Nat) : Nat := H.1 1 s
def dk (H : Hs) (d : Nat) : Nat := H.1 2 d
def dc (H : Hs) (d : Nat) : Nat := H.1 3 d
def dsi (H : Hs) (d : Nat) : Nat := H.1 4 d
def dl (H : Hs) (d : Nat) : Nat := H.1 5 d
def dn (H : Hs) (d : Nat) : Nat := H.1 6 d
def mb (H : Hs) (l : Nat) : Nat := H.1 7 l
/-- 0: first, else the line behind which it was put, and 1 -/
def bh (H : Hs) (l : Nat) : Nat := H.1 8 l
def va (H : Hs) (l : Nat) : Nat := H.1 9 l
def bg (H : Hs) (l : Nat) : Nat := H.1 10 l
def nb (H : Hs) (m : Nat) : Nat := H.1 11 m
def nr (H : Hs) (m : Nat) : Nat := H.1 12 m
def kn (H : Hs) (s : Nat) : List Nat := H.2.1 s
def pr (H : Hs) : List (List (Nat × Nat)) := H.2.2
/-- a stamp as a number -/
def sp (H : Hs) (d : Nat) : Nat := 4 * dc H d + dsi H d
def sl (H : Hs) (l : Nat) : Nat := sp H (mb H l)
def par (H : Hs) (l : Nat) : Option Nat := if bh H l = 0 then none else some (bh H l - 1)
/-- what a deed speaks of: its maker must know it -/
def dep (H : Hs) (d d' : Nat) : Prop :=
  (dk H d = 0 ∧ 0 < bh H (dl H d) ∧ d' = mb H (bh H (dl H d) - 1)) ∨ (0 < dk H d ∧ d' = mb H (dl H d)) ∨ (dk H d = 3 ∧ d' = nb H (dn H d))
/-- each deed's premises are known ahead of it -/
def Cau (H : Hs) (l : List Nat) : Prop := ∀ a d b, l = a ++ d :: b → ∀ d', dep H d d' → d' ∈ a
def WF (H : Hs) : Prop :=
  (HL H + HN H ≤ Hn H ∧ Hn H ≤ 90) ∧
  (∀ d, d < Hn H → dk H d ≤ 3 ∧ dsi H d < 4 ∧ d ∈ kn H (dsi H d)) ∧
  (∀ l, l < HL H → mb H l < Hn H ∧ dk H (mb H l) = 0 ∧ dl H (mb H l) = l ∧ bh H l ≤ l ∧ va H l ≤ 99 ∧ bg H l ≤ 1) ∧
  (∀ m, m < HN H → nb H m < Hn H ∧ dk H (nb H m) = 2 ∧ dn H (nb H m) = m ∧ 1 ≤ nr H m ∧ nr H m ≤ 3) ∧
  (∀ d, d < Hn H → dl H d < HL H ∧ (dk H d = 0 → mb H (dl H d) = d) ∧ (2 ≤ dk H d → dn H d < HN H) ∧ (dk H d = 2 → nb H (dn H d) = d)) ∧
  (∀ d, d < Hn H → ∀ d', d' < Hn H → sp H d = sp H d' → d = d') ∧
  (∀ l, l < HL H → 0 < bh H l → sl H (bh H l - 1) < sl H l) ∧
  (∀ d, d < Hn H → dk H d = 3 → sp H (nb H (dn H d)) < sp H d) ∧
  (∀ s, s < 4 → (kn H s).Nodup ∧ (∀ d ∈ kn H s, d < Hn H ∧ dc H d ≤ Hc H s) ∧ Cau H (kn H s) ∧ Hc H s ≤ Hn H)
-- what is seen where the deeds of l are known
def tkn (H : Hs) (l : List Nat) (x : Nat) : Bool := l.any (fun d => decide (dk H d = 1) && decide (dl H d = x))
def kL (H : Hs) (l : List Nat) (x : Nat) : Prop := x < HL H ∧ mb H x ∈ l
def thL (H : Hs) (l : List Nat) (x : Nat) : Bool := decide (x < HL H) && (decide (mb H x ∈ l) && !tkn H l x)
def kN (H : Hs) (l : List Nat) (m : Nat) : Prop := m < HN H ∧ nb H m ∈ l
def OrdL (H : Hs) (l o : List Nat) : Prop := Good (sl H) (par H) o ∧ o.Nodup ∧ ∀ x, x ∈ o ↔ kL H l x
def isBest (H : Hs) (l : List Nat) (m d : Nat) : Prop := (d ∈ l ∧ 2 ≤ dk H d ∧ dn H d = m) ∧ ∀ d' ∈ l, 2 ≤ dk H d' → dn H d' = m → sp H d' ≤ sp H d
def near (t : Nat → Bool) (o : List Nat) (x : Nat) : Option Nat := (((o.takeWhile (fun y => decide (y ≠ x)) ++ [x]).filter t).getLast?).or (o.filter t).head?
noncomputable def oo (H : Hs) (l : List Nat) : List Nat := Classical.epsilon (OrdL H l)
noncomputable def bst (H : Hs) (l : List Nat) (m : Nat) : Nat := Classical.epsilon (isBest H l m)
noncomputable def tl (H : Hs) (l : List Nat) : List Nat := (oo H l).filter (thL H l)
noncomputable def lnote (H : Hs) (l : List Nat) (m : Nat) : Option Nat := near (thL H l) (oo H l) (dl H (bst H l m))
noncomputable def rwN (H : Hs) (l : List Nat) (x : Nat) : Nat → Nat
  | 0 => 1
  | m + 1 => if nb H m ∈ l ∧ lnote H l m = some x then min 6 (rwN H l x m + nr H m) else rwN H l x m
noncomputable def rwL (H : Hs) (l : List Nat) (x : Nat) : Nat := rwN H l x (HN H)
noncomputable def szP (H : Hs) (l : List Nat) : Nat := (tl H l).length
noncomputable def rP (H : Hs) (l : List Nat) (k : Nat) : Nat := match (tl H l)[k]? with
  | some x => rwL H l x
  | none => 0
noncomputable def bP (H : Hs) (l : List Nat) (k : Nat) : Bool := decide (k = 0) || match (tl H l)[k]? with
  | some x => decide (bg H x = 1)
  | none => false
noncomputable def stP (H : Hs) (l : List Nat) (p : Nat) : Nat := stF (szP H l) (rP H l) (bP H l) p
