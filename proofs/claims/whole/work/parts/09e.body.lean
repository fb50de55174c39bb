/-! THE LAW'S BODY: what stands at the head of its loop, arguments, the tail of a case -/
def A0L (s : State) : Nat → Prop := fun q => s.heap.size ≤ q
def LC (p : Program) (l : Launch) (s : State) (m : MethodId) (args : Array Value) (c : Code) (D : va_G) (cI cO cJ cZ : ClassId) (bs L : Nat) (xs : Nat → Int32) : Prop :=
  CallFix p m c code 7 s args (Cond.initialized "MergeparlourLaw" :: wsAll) RL ∧ l.stackTraces = false ∧ EX (A0L s) s ∧ NC s ∧ va_K D vwCl (tyC cI cO) s ∧ va_K D vwCl [(cJ, .long)] s ∧ va_K D vwCl (tyM cI cZ) s ∧ va_X bs L xs s s.heap ∧ bs < s.heap.size ∧ L ≤ 2560
def LSt (D : va_G) (cI cO cJ cZ : ClassId) (s : State) (H : Heap) (locs : List Loc) (S : St) (fl : Nat → Int64) (SM : St) (G : Hs) : Prop :=
  va_P D vwCl (wC cI cO s.heap.size S) H ∧ va_P D vwCl (oW cJ (s.heap.size + 160) fl) H ∧ va_P D vwCl (wM cI cZ (s.heap.size + 136) SM) H ∧ va_S (A0L s) s.heap H locs ∧ RC S G ∧ RM SM G
def ltop (s : State) (bs i : Nat) : List (Nat × Value) := [(4, .int (nI i)), (3, .ref (s.heap.size + 160)), (2, .ref (s.heap.size + 136 + 0)), (1, .ref (s.heap.size + 0)), (0, .ref bs)]
theorem hoL {s : State} : ¬ AC s.heap.size (s.heap.size + 160) := fun h => by unfold AC at h; omega
theorem hAL {s : State} : ∀ q, AL s.heap.size (s.heap.size + 160) q → A0L s q := fun q h => by unfold A0L; rcases h with h | h <;> (try unfold AC at h) <;> omega
theorem hAM {s : State} : ∀ q, AM (s.heap.size + 136) q → A0L s q := fun q h => by unfold A0L; unfold AM at h; omega
theorem hAC {s : State} : ∀ q, AC s.heap.size q → A0L s q := fun q h => by unfold A0L; unfold AC at h; omega
theorem lgc {x : Int64} : lg_cmp x x = 0 := by unfold lg_cmp; simp
section BODY
variable {p : Program} {l : Launch} {e : Env} {R : Room} {s : State} {m : MethodId} {args : Array Value} {below : List Frame} {meth : Method} {c : Code} {H : Heap} {locs : List Loc} {cells slots : Nat} {Q : State → Prop} {pc : Nat} {ls : Array Slot} {rest : List Value} {D : va_G} {cI cO cJ cZ : ClassId} {bs L : Nat} {xs : Nat → Int32}
theorem w_arg (C : LC p l s m args c D cI cO cJ cZ bs L xs) (hS : va_S (A0L s) s.heap H locs) {lv : List (Nat × Value)} (hl : lv_has ls 7 lv) {k i j : Nat} {n : Int} (hk : lv[k]? = some (4, .int (nI i))) (hj : i + j < L) (hv : Int32.ofInt n = nI j) (h1 : decode code pc = .ok (.iload 4, 2)) (h2 : decode code (pc + 2) = .ok (.iconst n, 1)) (h3 : decode code (pc + 2 + 1) = .ok (.iadd, 1)) (h4 : decode code (pc + 2 + 1 + 1) = .ok (.iaload, 1))
    (kk : W p l e R s m args below meth c H locs cells slots Q (F0 m (pc + 2 + 1 + 1 + 1) ls (.int (xs (i + j)) :: rest))) : W p l e R s m args below meth c H locs cells slots Q (F0 m pc ls (.ref bs :: rest)) := by
  obtain ⟨F, -, -, -, -, -, -, hX, hbl, hL⟩ := C
  refine lv_iload F.1 F.2.1 h1 (lv_at hl k hk) ?_
  refine lv_iconst (v := nI j) F.1 F.2.1 h2 hv ?_
  refine lv_iadd F.1 F.2.1 h3 ?_
  rw [nI_add]
  refine va_sld F.1 F.2.1 hX hbl (fun h => by unfold A0L at h; omega) hS (nI_in hj (by omega)) h4 ?_
  rw [nI_clamp (by omega)]
  exact kk
/-- the end of a case: what the class threw and answered is what the model did -/
theorem w_tail (C : LC p l s m args c D cI cO cJ cZ bs L xs) (hRm : 1 ≤ R.frames ∧ 20 ≤ R.locals) (hrm : cells ≤ R.cells ∧ slots ≤ R.slots) {S SM : St} {fl : Nat → Int64} {G : Hs} {i : Nat} {f : Nat → Nat} {r : Nat ⊕ Int32} {v2 : Int32} (hW : LSt D cI cO cJ cZ s H locs S (ou r fl) SM G) (hm : mres f r v2 SM) (hne : ∀ e, r = .inl e → ¬ nI (f e) = 0) (hl : lv_has ls 7 ((5, .int (kc f r)) :: ltop s bs i)) {o1 o2 o3 o4 : Int}
    (d0 : decode code pc = .ok (.istore 6, 2)) (d1 : decode code (pc + 2) = .ok (.aload_n 2, 1)) (d2 : decode code (pc + 3) = .ok (.invokevirtual 75, 3)) (d3 : decode code (pc + 6) = .ok (.iload 5, 2)) (d4 : decode code (pc + 8) = .ok (.if_icmp .eq o1, 3)) (e4 : ((pc + 8 : Nat) : Int) + o1 = ((pc + 13 : Nat) : Int)) (d5 : decode code (pc + 13) = .ok (.iload 5, 2)) (d6 : decode code (pc + 15) = .ok (.ifCond .ne o2, 3)) (e6 : ((pc + 15 : Nat) : Int) + o2 = ((pc + 30 : Nat) : Int)) (d7 : decode code (pc + 18) = .ok (.aload_n 3, 1)) (d8 : decode code (pc + 19) = .ok (.iconst 0, 1)) (d9 : decode code (pc + 20) = .ok (.laload, 1)) (d10 : decode code (pc + 21) = .ok (.iload 6, 2)) (d11 : decode code (pc + 23) = .ok (.i2l, 1)) (d12 : decode code (pc + 24) = .ok (.lcmp, 1)) (d13 : decode code (pc + 25) = .ok (.ifCond .eq o3, 3)) (e13 : ((pc + 25 : Nat) : Int) + o3 = ((pc + 30 : Nat) : Int)) (d14 : decode code (pc + 30) = .ok (.goto o4, 3)) (e14 : ((pc + 30 : Nat) : Int) + o4 = ((1078 : Nat) : Int))
    (kk : ∀ (H1 : Heap) (locs1 : List Loc) (ls1 : Array Slot), LSt D cI cO cJ cZ s H1 locs1 S (ou r fl) SM G → lv_has ls1 7 (ltop s bs i) → W p l e R s m args below meth c H1 locs1 cells slots Q (F0 m 1078 ls1 [])) : W p l e R s m args below meth c H locs cells slots Q (F0 m pc ls [.int v2]) := by
  obtain ⟨F, -, -, -, hK, hKJ, hKM, hX, hbl, hL⟩ := C
  obtain ⟨hP, hO, hMo, hS, hRC, hRM⟩ := hW
  have hx := F.1
  have hb := F.2.1
  refine lv_istore (lv' := [(6, .int v2), (5, .int (kc f r)), (4, .int (nI i)), (3, .ref (s.heap.size + 160)), (2, .ref (s.heap.size + 136 + 0)), (1, .ref (s.heap.size + 0)), (0, .ref bs)]) hx hb d0 hl (by decide) rfl (fun ls hl => ?_)
  refine lv_aload_n hx hb d1 rfl (lv_at hl 4 rfl) ?_
  have hth : gi SM 0 = kc f r := by
    cases r with
    | inl e => exact hm.1 e rfl
    | inr w => exact (hm.2 w rfl).1
  refine w_calli F hKM hMo hS hAM [] (c_X7_thrown l D cI cZ (s.heap.size + 136) SM (gi SM 0) rfl) wd_847 wd_848 wd_849 wd_9 wd_850 wM_o rfl hd_X7_thrown rfl rfl ⟨hRm.1, by show 8 + (1 + 11) + 0 ≤ R.locals; omega⟩ rfl hl (rest := []) rfl (Nat.le_of_ble_eq_true rfl) d2 hrm (fun H1 locs1 hMo hfr hS => ?_)
  have hP : va_P D vwCl (wC cI cO s.heap.size S) H1 := wk_kept hP wC_D (fun q h1 h2 => by unfold AC at h1; unfold AM at h2; omega) hfr
  have hO : va_P D vwCl (oW cJ (s.heap.size + 160) (ou r fl)) H1 := wk_kept hO oW_D (fun q h1 h2 => by unfold AM at h2; omega) hfr
  refine lv_iload hx hb d3 (lv_at hl 1 rfl) ?_
  refine lv_icmp_eq (tgt := pc + 13) hx hb d4 e4 (fun _ => ?_) (fun q => absurd hth q)
  refine lv_iload hx hb d5 (lv_at hl 1 rfl) ?_
  have fin : W p l e R s m args below meth c H1 locs1 cells slots Q (F0 m (pc + 30) ls []) := by
    refine lv_goto (tgt := 1078) hx hb d14 e14 ?_
    exact kk H1 locs1 ls ⟨hP, hO, hMo, hS, hRC, hRM⟩ (lv_sub hl [2, 3, 4, 5, 6] rfl)
  refine lv_if_ne (tgt := pc + 30) hx hb d6 e6 (fun _ => fin) (fun q => ?_)
  refine lv_aload_n hx hb d7 rfl (lv_at hl 3 rfl) ?_
  refine lv_iconst (v := nI 0) hx hb d8 (by decide) ?_
  refine va_lald hx hb hKJ hO 0 0 rfl rfl (nI_in (by decide) (by decide)) d9 ?_
  refine lv_iload hx hb d10 (lv_at hl 0 rfl) ?_
  refine lv_i2l (v := v2.toInt64) hx hb d11 rfl ?_
  refine W.lcmp hx hb d12 ?_
  have hval : ou r fl (nI 0).toNatClampNeg = v2.toInt64 := by
    cases r with
    | inl e => exact absurd q (hne e rfl)
    | inr w => rw [(hm.2 w rfl).2]; rfl
  rw [hval, lgc]
  exact lv_if_eq (tgt := pc + 30) hx hb d13 e13 (fun _ => fin) (fun q => absurd rfl q)
end BODY
