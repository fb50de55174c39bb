theorem nK_2 : nK 2 = true := by decide +kernel
theorem nK_4 : nK 4 = true := by decide +kernel
theorem nK_6 : nK 6 = true := by decide +kernel
theorem nK_8 : nK 8 = true := by decide +kernel
theorem nK_10 : nK 10 = true := by decide +kernel
theorem nK_12 : nK 12 = true := by decide +kernel
theorem nK_14 : nK 14 = true := by decide +kernel
theorem nK_16 : nK 16 = true := by decide +kernel
theorem nK_18 : nK 18 = true := by decide +kernel
theorem nK_130 : nK 130 = true := by decide +kernel
theorem nK_132 : nK 132 = true := by decide +kernel
theorem nK_134 : nK 134 = true := by decide +kernel
theorem wd_max : Cond.code Lib.Math.max.name Lib.Math.max.code 2 (some .int) ∈ wsAll := wd_39
theorem wd_min : Cond.code Lib.Math.min.name Lib.Math.min.code 2 (some .int) ∈ wsAll := wd_250
abbrev tyC (cI cO : ClassId) : List (ClassId × FieldType) := [(cI, .int), (cO, .object "Mergeparlour$Site")]
abbrev tyM (cI cZ : ClassId) : List (ClassId × FieldType) := [(cI, .int), (cZ, .boolean)]
def fsM (b : Nat) (S : St) : List Value := [.int (gi S 0), .int (gi S 1), .ref (b + 1), .ref (b + 2), .ref (b + 3), .ref (b + 4), .ref (b + 5), .int (gi S 7), .ref (b + 6), .ref (b + 7), .ref (b + 8), .ref (b + 9), .int (gi S 12), .ref (b + 10), .ref (b + 11), .ref (b + 12), .ref (b + 13), .ref (b + 14), .ref (b + 15), .int (gi S 19), .ref (b + 16), .ref (b + 17), .ref (b + 18), .int (gi S 23), .ref (b + 19), .ref (b + 20), .int (gi S 26), .ref (b + 21), .ref (b + 22), .ref (b + 23), .int (gi S 30)]
def cellM (cI cZ : ClassId) (b : Nat) (S : St) (k : Nat) : va_E := match k with
  | 0 => .inr (7, fsM b S)
  | 1 => .inl (cI, 90, .inl (ga S 2))
  | 2 => .inl (cI, 90, .inl (ga S 3))
  | 3 => .inl (cI, 90, .inl (ga S 4))
  | 4 => .inl (cI, 90, .inl (ga S 5))
  | 5 => .inl (cI, 90, .inl (ga S 6))
  | 6 => .inl (cI, 90, .inl (ga S 8))
  | 7 => .inl (cI, 90, .inl (ga S 9))
  | 8 => .inl (cI, 90, .inl (ga S 10))
  | 9 => .inl (cZ, 90, .inl (ga S 11))
  | 10 => .inl (cI, 90, .inl (ga S 13))
  | 11 => .inl (cI, 90, .inl (ga S 14))
  | 12 => .inl (cI, 4, .inl (ga S 15))
  | 13 => .inl (cI, 4, .inl (ga S 16))
  | 14 => .inl (cI, 360, .inl (ga S 17))
  | 15 => .inl (cZ, 360, .inl (ga S 18))
  | 16 => .inl (cI, 200, .inl (ga S 20))
  | 17 => .inl (cI, 1200, .inl (ga S 21))
  | 18 => .inl (cI, 1200, .inl (ga S 22))
  | 19 => .inl (cI, 90, .inl (ga S 24))
  | 20 => .inl (cI, 90, .inl (ga S 25))
  | 21 => .inl (cI, 90, .inl (ga S 27))
  | 22 => .inl (cI, 90, .inl (ga S 28))
  | _ => .inl (cI, 90, .inl (ga S 29))
def wM (cI cZ : ClassId) (b : Nat) (S : St) : va_W := (List.range 24).map (fun k => (b + k, cellM cI cZ b S k))
def AM (b : Nat) : Nat → Prop := fun q => b ≤ q ∧ q < b + 24
theorem wM_at {cI cZ : ClassId} {b : Nat} {S : St} {k : Nat} (h : k < 24) : (wM cI cZ b S)[k]? = some (b + k, cellM cI cZ b S k) := by
  unfold wM
  rw [List.getElem?_map, List.getElem?_range h]
  rfl
theorem wM_len {cI cZ : ClassId} {b : Nat} {S : St} : (wM cI cZ b S).length = 24 := by simp [wM]
theorem wM_D {cI cZ : ClassId} {b : Nat} {S : St} : va_D (AM b) (wM cI cZ b S) := by
  have key : ∀ (k : Nat) (q : Nat × va_E), (wM cI cZ b S)[k]? = some q → k < 24 ∧ q.1 = b + k := by
    intro k q h
    have hk : k < 24 := by rw [← wM_len (cI := cI) (cZ := cZ) (b := b) (S := S)]; exact (List.getElem?_eq_some_iff.mp h).1
    rw [wM_at hk] at h
    cases h
    exact ⟨hk, rfl⟩
  refine ⟨fun i j p q hi hj hpq => ?_, fun k q h => ?_⟩
  · have h1 := (key i p hi).2
    have h2 := (key j q hj).2
    omega
  · obtain ⟨h1, h2⟩ := key k q h
    show b ≤ q.1 ∧ q.1 < b + 24
    omega
theorem wM_o {cI cZ : ClassId} {b : Nat} {S : St} : (wM cI cZ b S)[0]? = some (b + 0, .inr (7, fsM b S)) := rfl
theorem wM_a2 {cI cZ : ClassId} {b : Nat} {S : St} : (wM cI cZ b S)[1]? = some (b + 1, .inl (cI, 90, .inl (ga S 2))) := rfl
theorem wM_sa_2 {cI cZ : ClassId} {b : Nat} {S : St} {i : Nat} {v : Int32} : (wM cI cZ b S).set 1 (b + 1, .inl (cI, 90, .inl (upd (ga S 2) i v))) = wM cI cZ b (sa S 2 i v) := rfl
theorem wM_a3 {cI cZ : ClassId} {b : Nat} {S : St} : (wM cI cZ b S)[2]? = some (b + 2, .inl (cI, 90, .inl (ga S 3))) := rfl
theorem wM_sa_3 {cI cZ : ClassId} {b : Nat} {S : St} {i : Nat} {v : Int32} : (wM cI cZ b S).set 2 (b + 2, .inl (cI, 90, .inl (upd (ga S 3) i v))) = wM cI cZ b (sa S 3 i v) := rfl
theorem wM_a4 {cI cZ : ClassId} {b : Nat} {S : St} : (wM cI cZ b S)[3]? = some (b + 3, .inl (cI, 90, .inl (ga S 4))) := rfl
theorem wM_sa_4 {cI cZ : ClassId} {b : Nat} {S : St} {i : Nat} {v : Int32} : (wM cI cZ b S).set 3 (b + 3, .inl (cI, 90, .inl (upd (ga S 4) i v))) = wM cI cZ b (sa S 4 i v) := rfl
theorem wM_a5 {cI cZ : ClassId} {b : Nat} {S : St} : (wM cI cZ b S)[4]? = some (b + 4, .inl (cI, 90, .inl (ga S 5))) := rfl
theorem wM_sa_5 {cI cZ : ClassId} {b : Nat} {S : St} {i : Nat} {v : Int32} : (wM cI cZ b S).set 4 (b + 4, .inl (cI, 90, .inl (upd (ga S 5) i v))) = wM cI cZ b (sa S 5 i v) := rfl
theorem wM_a6 {cI cZ : ClassId} {b : Nat} {S : St} : (wM cI cZ b S)[5]? = some (b + 5, .inl (cI, 90, .inl (ga S 6))) := rfl
theorem wM_sa_6 {cI cZ : ClassId} {b : Nat} {S : St} {i : Nat} {v : Int32} : (wM cI cZ b S).set 5 (b + 5, .inl (cI, 90, .inl (upd (ga S 6) i v))) = wM cI cZ b (sa S 6 i v) := rfl
theorem wM_a8 {cI cZ : ClassId} {b : Nat} {S : St} : (wM cI cZ b S)[6]? = some (b + 6, .inl (cI, 90, .inl (ga S 8))) := rfl
theorem wM_sa_8 {cI cZ : ClassId} {b : Nat} {S : St} {i : Nat} {v : Int32} : (wM cI cZ b S).set 6 (b + 6, .inl (cI, 90, .inl (upd (ga S 8) i v))) = wM cI cZ b (sa S 8 i v) := rfl
theorem wM_a9 {cI cZ : ClassId} {b : Nat} {S : St} : (wM cI cZ b S)[7]? = some (b + 7, .inl (cI, 90, .inl (ga S 9))) := rfl
theorem wM_sa_9 {cI cZ : ClassId} {b : Nat} {S : St} {i : Nat} {v : Int32} : (wM cI cZ b S).set 7 (b + 7, .inl (cI, 90, .inl (upd (ga S 9) i v))) = wM cI cZ b (sa S 9 i v) := rfl
theorem wM_a10 {cI cZ : ClassId} {b : Nat} {S : St} : (wM cI cZ b S)[8]? = some (b + 8, .inl (cI, 90, .inl (ga S 10))) := rfl
theorem wM_sa_10 {cI cZ : ClassId} {b : Nat} {S : St} {i : Nat} {v : Int32} : (wM cI cZ b S).set 8 (b + 8, .inl (cI, 90, .inl (upd (ga S 10) i v))) = wM cI cZ b (sa S 10 i v) := rfl
theorem wM_a11 {cI cZ : ClassId} {b : Nat} {S : St} : (wM cI cZ b S)[9]? = some (b + 9, .inl (cZ, 90, .inl (ga S 11))) := rfl
theorem wM_sa_11 {cI cZ : ClassId} {b : Nat} {S : St} {i : Nat} {v : Int32} : (wM cI cZ b S).set 9 (b + 9, .inl (cZ, 90, .inl (upd (ga S 11) i v))) = wM cI cZ b (sa S 11 i v) := rfl
theorem wM_a13 {cI cZ : ClassId} {b : Nat} {S : St} : (wM cI cZ b S)[10]? = some (b + 10, .inl (cI, 90, .inl (ga S 13))) := rfl
theorem wM_sa_13 {cI cZ : ClassId} {b : Nat} {S : St} {i : Nat} {v : Int32} : (wM cI cZ b S).set 10 (b + 10, .inl (cI, 90, .inl (upd (ga S 13) i v))) = wM cI cZ b (sa S 13 i v) := rfl
theorem wM_a14 {cI cZ : ClassId} {b : Nat} {S : St} : (wM cI cZ b S)[11]? = some (b + 11, .inl (cI, 90, .inl (ga S 14))) := rfl
theorem wM_sa_14 {cI cZ : ClassId} {b : Nat} {S : St} {i : Nat} {v : Int32} : (wM cI cZ b S).set 11 (b + 11, .inl (cI, 90, .inl (upd (ga S 14) i v))) = wM cI cZ b (sa S 14 i v) := rfl
theorem wM_a15 {cI cZ : ClassId} {b : Nat} {S : St} : (wM cI cZ b S)[12]? = some (b + 12, .inl (cI, 4, .inl (ga S 15))) := rfl
theorem wM_sa_15 {cI cZ : ClassId} {b : Nat} {S : St} {i : Nat} {v : Int32} : (wM cI cZ b S).set 12 (b + 12, .inl (cI, 4, .inl (upd (ga S 15) i v))) = wM cI cZ b (sa S 15 i v) := rfl
theorem wM_a16 {cI cZ : ClassId} {b : Nat} {S : St} : (wM cI cZ b S)[13]? = some (b + 13, .inl (cI, 4, .inl (ga S 16))) := rfl
theorem wM_sa_16 {cI cZ : ClassId} {b : Nat} {S : St} {i : Nat} {v : Int32} : (wM cI cZ b S).set 13 (b + 13, .inl (cI, 4, .inl (upd (ga S 16) i v))) = wM cI cZ b (sa S 16 i v) := rfl
theorem wM_a17 {cI cZ : ClassId} {b : Nat} {S : St} : (wM cI cZ b S)[14]? = some (b + 14, .inl (cI, 360, .inl (ga S 17))) := rfl
theorem wM_sa_17 {cI cZ : ClassId} {b : Nat} {S : St} {i : Nat} {v : Int32} : (wM cI cZ b S).set 14 (b + 14, .inl (cI, 360, .inl (upd (ga S 17) i v))) = wM cI cZ b (sa S 17 i v) := rfl
theorem wM_a18 {cI cZ : ClassId} {b : Nat} {S : St} : (wM cI cZ b S)[15]? = some (b + 15, .inl (cZ, 360, .inl (ga S 18))) := rfl
theorem wM_sa_18 {cI cZ : ClassId} {b : Nat} {S : St} {i : Nat} {v : Int32} : (wM cI cZ b S).set 15 (b + 15, .inl (cZ, 360, .inl (upd (ga S 18) i v))) = wM cI cZ b (sa S 18 i v) := rfl
theorem wM_a20 {cI cZ : ClassId} {b : Nat} {S : St} : (wM cI cZ b S)[16]? = some (b + 16, .inl (cI, 200, .inl (ga S 20))) := rfl
theorem wM_sa_20 {cI cZ : ClassId} {b : Nat} {S : St} {i : Nat} {v : Int32} : (wM cI cZ b S).set 16 (b + 16, .inl (cI, 200, .inl (upd (ga S 20) i v))) = wM cI cZ b (sa S 20 i v) := rfl
theorem wM_a21 {cI cZ : ClassId} {b : Nat} {S : St} : (wM cI cZ b S)[17]? = some (b + 17, .inl (cI, 1200, .inl (ga S 21))) := rfl
theorem wM_sa_21 {cI cZ : ClassId} {b : Nat} {S : St} {i : Nat} {v : Int32} : (wM cI cZ b S).set 17 (b + 17, .inl (cI, 1200, .inl (upd (ga S 21) i v))) = wM cI cZ b (sa S 21 i v) := rfl
theorem wM_a22 {cI cZ : ClassId} {b : Nat} {S : St} : (wM cI cZ b S)[18]? = some (b + 18, .inl (cI, 1200, .inl (ga S 22))) := rfl
theorem wM_sa_22 {cI cZ : ClassId} {b : Nat} {S : St} {i : Nat} {v : Int32} : (wM cI cZ b S).set 18 (b + 18, .inl (cI, 1200, .inl (upd (ga S 22) i v))) = wM cI cZ b (sa S 22 i v) := rfl
theorem wM_a24 {cI cZ : ClassId} {b : Nat} {S : St} : (wM cI cZ b S)[19]? = some (b + 19, .inl (cI, 90, .inl (ga S 24))) := rfl
theorem wM_sa_24 {cI cZ : ClassId} {b : Nat} {S : St} {i : Nat} {v : Int32} : (wM cI cZ b S).set 19 (b + 19, .inl (cI, 90, .inl (upd (ga S 24) i v))) = wM cI cZ b (sa S 24 i v) := rfl
theorem wM_a25 {cI cZ : ClassId} {b : Nat} {S : St} : (wM cI cZ b S)[20]? = some (b + 20, .inl (cI, 90, .inl (ga S 25))) := rfl
theorem wM_sa_25 {cI cZ : ClassId} {b : Nat} {S : St} {i : Nat} {v : Int32} : (wM cI cZ b S).set 20 (b + 20, .inl (cI, 90, .inl (upd (ga S 25) i v))) = wM cI cZ b (sa S 25 i v) := rfl
theorem wM_a27 {cI cZ : ClassId} {b : Nat} {S : St} : (wM cI cZ b S)[21]? = some (b + 21, .inl (cI, 90, .inl (ga S 27))) := rfl
theorem wM_sa_27 {cI cZ : ClassId} {b : Nat} {S : St} {i : Nat} {v : Int32} : (wM cI cZ b S).set 21 (b + 21, .inl (cI, 90, .inl (upd (ga S 27) i v))) = wM cI cZ b (sa S 27 i v) := rfl
theorem wM_a28 {cI cZ : ClassId} {b : Nat} {S : St} : (wM cI cZ b S)[22]? = some (b + 22, .inl (cI, 90, .inl (ga S 28))) := rfl
theorem wM_sa_28 {cI cZ : ClassId} {b : Nat} {S : St} {i : Nat} {v : Int32} : (wM cI cZ b S).set 22 (b + 22, .inl (cI, 90, .inl (upd (ga S 28) i v))) = wM cI cZ b (sa S 28 i v) := rfl
theorem wM_a29 {cI cZ : ClassId} {b : Nat} {S : St} : (wM cI cZ b S)[23]? = some (b + 23, .inl (cI, 90, .inl (ga S 29))) := rfl
theorem wM_sa_29 {cI cZ : ClassId} {b : Nat} {S : St} {i : Nat} {v : Int32} : (wM cI cZ b S).set 23 (b + 23, .inl (cI, 90, .inl (upd (ga S 29) i v))) = wM cI cZ b (sa S 29 i v) := rfl
theorem wM_si_0 {cI cZ : ClassId} {b : Nat} {S : St} {v : Int32} : (wM cI cZ b S).set 0 (b + 0, .inr (7, (fsM b S).set 0 (.int v))) = wM cI cZ b (si S 0 v) := rfl
theorem wM_si_1 {cI cZ : ClassId} {b : Nat} {S : St} {v : Int32} : (wM cI cZ b S).set 0 (b + 0, .inr (7, (fsM b S).set 1 (.int v))) = wM cI cZ b (si S 1 v) := rfl
theorem wM_si_7 {cI cZ : ClassId} {b : Nat} {S : St} {v : Int32} : (wM cI cZ b S).set 0 (b + 0, .inr (7, (fsM b S).set 7 (.int v))) = wM cI cZ b (si S 7 v) := rfl
theorem wM_si_12 {cI cZ : ClassId} {b : Nat} {S : St} {v : Int32} : (wM cI cZ b S).set 0 (b + 0, .inr (7, (fsM b S).set 12 (.int v))) = wM cI cZ b (si S 12 v) := rfl
theorem wM_si_19 {cI cZ : ClassId} {b : Nat} {S : St} {v : Int32} : (wM cI cZ b S).set 0 (b + 0, .inr (7, (fsM b S).set 19 (.int v))) = wM cI cZ b (si S 19 v) := rfl
theorem wM_si_23 {cI cZ : ClassId} {b : Nat} {S : St} {v : Int32} : (wM cI cZ b S).set 0 (b + 0, .inr (7, (fsM b S).set 23 (.int v))) = wM cI cZ b (si S 23 v) := rfl
theorem wM_si_26 {cI cZ : ClassId} {b : Nat} {S : St} {v : Int32} : (wM cI cZ b S).set 0 (b + 0, .inr (7, (fsM b S).set 26 (.int v))) = wM cI cZ b (si S 26 v) := rfl
theorem wM_si_30 {cI cZ : ClassId} {b : Nat} {S : St} {v : Int32} : (wM cI cZ b S).set 0 (b + 0, .inr (7, (fsM b S).set 30 (.int v))) = wM cI cZ b (si S 30 v) := rfl
