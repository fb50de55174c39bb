section
-- ===== PART A: goes FIRST, ahead of the names: the tables' words, and 'selects' of the private methods out of them =====
/-- a private method of a class that the tables say can be made, by its rows of tables_1 -/
def lw_okq (q : MethodName × Nat) : Prop := (q.1.cls ≠ "java/lang/invoke/MethodHandle" ∧ q.1.cls ≠ "java/lang/invoke/VarHandle") ∧ Cond.instantiable q.1.cls q.2 ∈ tables_1 ∧ Cond.privateMethod q.1 ∈ tables_1 ∧ Cond.instanceMethod q.1 ∈ tables_1
theorem lw_p0 : lw_okq (⟨"Mergeparlour$Press", "slips", "(I)I"⟩, 4) := ⟨⟨by decide +kernel, by decide +kernel⟩, List.mem_of_getElem? (i := 164) (by decide +kernel), List.mem_of_getElem? (i := 219) (by decide +kernel), List.mem_of_getElem? (i := 220) (by decide +kernel)⟩
theorem lw_p1 : lw_okq (⟨"Mergeparlour$Press", "isPrinted", "(III)Z"⟩, 4) := ⟨⟨by decide +kernel, by decide +kernel⟩, List.mem_of_getElem? (i := 164) (by decide +kernel), List.mem_of_getElem? (i := 244) (by decide +kernel), List.mem_of_getElem? (i := 245) (by decide +kernel)⟩
theorem lw_p2 : lw_okq (⟨"Mergeparlour", "siteOf", "(I)LMergeparlour$Site;"⟩, 3) := ⟨⟨by decide +kernel, by decide +kernel⟩, List.mem_of_getElem? (i := 18) (by decide +kernel), List.mem_of_getElem? (i := 262) (by decide +kernel), List.mem_of_getElem? (i := 263) (by decide +kernel)⟩
theorem lw_p3 : lw_okq (⟨"java/lang/Throwable", "fillInStackTrace", "(I)Ljava/lang/Throwable;"⟩, 6) := ⟨⟨by decide +kernel, by decide +kernel⟩, List.mem_of_getElem? (i := 305) (by decide +kernel), List.mem_of_getElem? (i := 303) (by decide +kernel), List.mem_of_getElem? (i := 304) (by decide +kernel)⟩
theorem lw_p4 : lw_okq (⟨"Mergeparlour", "checkLineIsKnown", "(LMergeparlour$Site;I)V"⟩, 3) := ⟨⟨by decide +kernel, by decide +kernel⟩, List.mem_of_getElem? (i := 18) (by decide +kernel), List.mem_of_getElem? (i := 335) (by decide +kernel), List.mem_of_getElem? (i := 336) (by decide +kernel)⟩
theorem lw_p5 : lw_okq (⟨"Mergeparlour", "checkRoomForDeed", "()V"⟩, 3) := ⟨⟨by decide +kernel, by decide +kernel⟩, List.mem_of_getElem? (i := 18) (by decide +kernel), List.mem_of_getElem? (i := 361) (by decide +kernel), List.mem_of_getElem? (i := 362) (by decide +kernel)⟩
theorem lw_p6 : lw_okq (⟨"Mergeparlour$Site", "learn", "(I)V"⟩, 6) := ⟨⟨by decide +kernel, by decide +kernel⟩, List.mem_of_getElem? (i := 78) (by decide +kernel), List.mem_of_getElem? (i := 415) (by decide +kernel), List.mem_of_getElem? (i := 416) (by decide +kernel)⟩
theorem lw_p7 : lw_okq (⟨"Mergeparlour$Text", "putIn", "(I)V"⟩, 7) := ⟨⟨by decide +kernel, by decide +kernel⟩, List.mem_of_getElem? (i := 86) (by decide +kernel), List.mem_of_getElem? (i := 435) (by decide +kernel), List.mem_of_getElem? (i := 436) (by decide +kernel)⟩
theorem lw_p8 : lw_okq (⟨"Mergeparlour$Text", "bringNote", "(III)V"⟩, 7) := ⟨⟨by decide +kernel, by decide +kernel⟩, List.mem_of_getElem? (i := 86) (by decide +kernel), List.mem_of_getElem? (i := 462) (by decide +kernel), List.mem_of_getElem? (i := 463) (by decide +kernel)⟩
theorem lw_p9 : lw_okq (⟨"Mergeparlour$Layout", "gatherLines", "()V"⟩, 6) := ⟨⟨by decide +kernel, by decide +kernel⟩, List.mem_of_getElem? (i := 116) (by decide +kernel), List.mem_of_getElem? (i := 470) (by decide +kernel), List.mem_of_getElem? (i := 471) (by decide +kernel)⟩
theorem lw_p10 : lw_okq (⟨"Mergeparlour$Layout", "addNotes", "()V"⟩, 6) := ⟨⟨by decide +kernel, by decide +kernel⟩, List.mem_of_getElem? (i := 116) (by decide +kernel), List.mem_of_getElem? (i := 496) (by decide +kernel), List.mem_of_getElem? (i := 497) (by decide +kernel)⟩
theorem lw_p11 : lw_okq (⟨"Mergeparlour$Layout", "cutPages", "()V"⟩, 6) := ⟨⟨by decide +kernel, by decide +kernel⟩, List.mem_of_getElem? (i := 116) (by decide +kernel), List.mem_of_getElem? (i := 518) (by decide +kernel), List.mem_of_getElem? (i := 519) (by decide +kernel)⟩
theorem lw_p12 : lw_okq (⟨"Mergeparlour$Layout", "endOfPage", "(I)I"⟩, 6) := ⟨⟨by decide +kernel, by decide +kernel⟩, List.mem_of_getElem? (i := 116) (by decide +kernel), List.mem_of_getElem? (i := 522) (by decide +kernel), List.mem_of_getElem? (i := 523) (by decide +kernel)⟩
theorem lw_p13 : lw_okq (⟨"Mergeparlour$Layout", "isBadCut", "(I)Z"⟩, 6) := ⟨⟨by decide +kernel, by decide +kernel⟩, List.mem_of_getElem? (i := 116) (by decide +kernel), List.mem_of_getElem? (i := 527) (by decide +kernel), List.mem_of_getElem? (i := 528) (by decide +kernel)⟩
theorem lw_p14 : lw_okq (⟨"Mergeparlour", "checkLineIsThere", "(LMergeparlour$Site;I)V"⟩, 3) := ⟨⟨by decide +kernel, by decide +kernel⟩, List.mem_of_getElem? (i := 18) (by decide +kernel), List.mem_of_getElem? (i := 539) (by decide +kernel), List.mem_of_getElem? (i := 540) (by decide +kernel)⟩
theorem lw_p15 : lw_okq (⟨"Mergeparlour", "checkNoteIsKnown", "(LMergeparlour$Site;I)V"⟩, 3) := ⟨⟨by decide +kernel, by decide +kernel⟩, List.mem_of_getElem? (i := 18) (by decide +kernel), List.mem_of_getElem? (i := 583) (by decide +kernel), List.mem_of_getElem? (i := 584) (by decide +kernel)⟩
def lw_privs_1 : List (MethodName × Nat) := [(⟨"Mergeparlour$Press", "slips", "(I)I"⟩, 4), (⟨"Mergeparlour$Press", "isPrinted", "(III)Z"⟩, 4), (⟨"Mergeparlour", "siteOf", "(I)LMergeparlour$Site;"⟩, 3), (⟨"java/lang/Throwable", "fillInStackTrace", "(I)Ljava/lang/Throwable;"⟩, 6), (⟨"Mergeparlour", "checkLineIsKnown", "(LMergeparlour$Site;I)V"⟩, 3), (⟨"Mergeparlour", "checkRoomForDeed", "()V"⟩, 3), (⟨"Mergeparlour$Site", "learn", "(I)V"⟩, 6), (⟨"Mergeparlour$Text", "putIn", "(I)V"⟩, 7), (⟨"Mergeparlour$Text", "bringNote", "(III)V"⟩, 7), (⟨"Mergeparlour$Layout", "gatherLines", "()V"⟩, 6), (⟨"Mergeparlour$Layout", "addNotes", "()V"⟩, 6), (⟨"Mergeparlour$Layout", "cutPages", "()V"⟩, 6), (⟨"Mergeparlour$Layout", "endOfPage", "(I)I"⟩, 6), (⟨"Mergeparlour$Layout", "isBadCut", "(I)Z"⟩, 6), (⟨"Mergeparlour", "checkLineIsThere", "(LMergeparlour$Site;I)V"⟩, 3), (⟨"Mergeparlour", "checkNoteIsKnown", "(LMergeparlour$Site;I)V"⟩, 3)]
theorem lw_r1 : ∀ q ∈ lw_privs_1, lw_okq q := List.forall_mem_cons.mpr ⟨lw_p0, List.forall_mem_cons.mpr ⟨lw_p1, List.forall_mem_cons.mpr ⟨lw_p2, List.forall_mem_cons.mpr ⟨lw_p3, List.forall_mem_cons.mpr ⟨lw_p4, List.forall_mem_cons.mpr ⟨lw_p5, List.forall_mem_cons.mpr ⟨lw_p6, List.forall_mem_cons.mpr ⟨lw_p7, List.forall_mem_cons.mpr ⟨lw_p8, List.forall_mem_cons.mpr ⟨lw_p9, List.forall_mem_cons.mpr ⟨lw_p10, List.forall_mem_cons.mpr ⟨lw_p11, List.forall_mem_cons.mpr ⟨lw_p12, List.forall_mem_cons.mpr ⟨lw_p13, List.forall_mem_cons.mpr ⟨lw_p14, List.forall_mem_cons.mpr ⟨lw_p15, fun _ h => absurd h List.not_mem_nil⟩⟩⟩⟩⟩⟩⟩⟩⟩⟩⟩⟩⟩⟩⟩⟩
theorem lw_p16 : lw_okq (⟨"Mergeparlour$Press", "printPage", "()I"⟩, 4) := ⟨⟨by decide +kernel, by decide +kernel⟩, List.mem_of_getElem? (i := 164) (by decide +kernel), List.mem_of_getElem? (i := 622) (by decide +kernel), List.mem_of_getElem? (i := 623) (by decide +kernel)⟩
theorem lw_p17 : lw_okq (⟨"Mergeparlour", "checkFromNought", "(I)V"⟩, 3) := ⟨⟨by decide +kernel, by decide +kernel⟩, List.mem_of_getElem? (i := 18) (by decide +kernel), List.mem_of_getElem? (i := 652) (by decide +kernel), List.mem_of_getElem? (i := 653) (by decide +kernel)⟩
theorem lw_p18 : lw_okq (⟨"Mergeparlour$Text", "putAllAnew", "()V"⟩, 7) := ⟨⟨by decide +kernel, by decide +kernel⟩, List.mem_of_getElem? (i := 86) (by decide +kernel), List.mem_of_getElem? (i := 683) (by decide +kernel), List.mem_of_getElem? (i := 684) (by decide +kernel)⟩
theorem lw_p19 : lw_okq (⟨"Mergeparlour$Text", "sortByStamps", "()V"⟩, 7) := ⟨⟨by decide +kernel, by decide +kernel⟩, List.mem_of_getElem? (i := 86) (by decide +kernel), List.mem_of_getElem? (i := 687) (by decide +kernel), List.mem_of_getElem? (i := 688) (by decide +kernel)⟩
theorem lw_p20 : lw_okq (⟨"Mergeparlour$Text", "placeByStamp", "(I)I"⟩, 7) := ⟨⟨by decide +kernel, by decide +kernel⟩, List.mem_of_getElem? (i := 86) (by decide +kernel), List.mem_of_getElem? (i := 697) (by decide +kernel), List.mem_of_getElem? (i := 698) (by decide +kernel)⟩
theorem lw_p21 : lw_okq (⟨"Mergeparlour$Layout", "endByTrying", "(I)I"⟩, 6) := ⟨⟨by decide +kernel, by decide +kernel⟩, List.mem_of_getElem? (i := 116) (by decide +kernel), List.mem_of_getElem? (i := 728) (by decide +kernel), List.mem_of_getElem? (i := 729) (by decide +kernel)⟩
theorem lw_p22 : lw_okq (⟨"Mergeparlour$Layout", "endWithRoom", "(I)I"⟩, 6) := ⟨⟨by decide +kernel, by decide +kernel⟩, List.mem_of_getElem? (i := 116) (by decide +kernel), List.mem_of_getElem? (i := 732) (by decide +kernel), List.mem_of_getElem? (i := 733) (by decide +kernel)⟩
theorem lw_p23 : lw_okq (⟨"MergeparlourModel", "knowsLine", "(II)Z"⟩, 31) := ⟨⟨by decide +kernel, by decide +kernel⟩, List.mem_of_getElem? (i := 747) (by decide +kernel), List.mem_of_getElem? (i := 862) (by decide +kernel), List.mem_of_getElem? (i := 863) (by decide +kernel)⟩
theorem lw_p24 : lw_okq (⟨"MergeparlourModel", "goesWell", "(I)Z"⟩, 31) := ⟨⟨by decide +kernel, by decide +kernel⟩, List.mem_of_getElem? (i := 747) (by decide +kernel), List.mem_of_getElem? (i := 866) (by decide +kernel), List.mem_of_getElem? (i := 867) (by decide +kernel)⟩
theorem lw_p25 : lw_okq (⟨"MergeparlourModel", "deed", "(IIII)I"⟩, 31) := ⟨⟨by decide +kernel, by decide +kernel⟩, List.mem_of_getElem? (i := 747) (by decide +kernel), List.mem_of_getElem? (i := 870) (by decide +kernel), List.mem_of_getElem? (i := 871) (by decide +kernel)⟩
theorem lw_p26 : lw_okq (⟨"MergeparlourModel", "learn", "(II)V"⟩, 31) := ⟨⟨by decide +kernel, by decide +kernel⟩, List.mem_of_getElem? (i := 747) (by decide +kernel), List.mem_of_getElem? (i := 874) (by decide +kernel), List.mem_of_getElem? (i := 875) (by decide +kernel)⟩
theorem lw_p27 : lw_okq (⟨"MergeparlourModel", "isThere", "(II)Z"⟩, 31) := ⟨⟨by decide +kernel, by decide +kernel⟩, List.mem_of_getElem? (i := 747) (by decide +kernel), List.mem_of_getElem? (i := 882) (by decide +kernel), List.mem_of_getElem? (i := 883) (by decide +kernel)⟩
theorem lw_p28 : lw_okq (⟨"MergeparlourModel", "lay", "(I)V"⟩, 31) := ⟨⟨by decide +kernel, by decide +kernel⟩, List.mem_of_getElem? (i := 747) (by decide +kernel), List.mem_of_getElem? (i := 886) (by decide +kernel), List.mem_of_getElem? (i := 887) (by decide +kernel)⟩
theorem lw_p29 : lw_okq (⟨"MergeparlourModel", "arrange", "(I)V"⟩, 31) := ⟨⟨by decide +kernel, by decide +kernel⟩, List.mem_of_getElem? (i := 747) (by decide +kernel), List.mem_of_getElem? (i := 890) (by decide +kernel), List.mem_of_getElem? (i := 891) (by decide +kernel)⟩
theorem lw_p30 : lw_okq (⟨"MergeparlourModel", "pileUp", "(III)I"⟩, 31) := ⟨⟨by decide +kernel, by decide +kernel⟩, List.mem_of_getElem? (i := 747) (by decide +kernel), List.mem_of_getElem? (i := 894) (by decide +kernel), List.mem_of_getElem? (i := 895) (by decide +kernel)⟩
theorem lw_p31 : lw_okq (⟨"MergeparlourModel", "isGreater", "(II)Z"⟩, 31) := ⟨⟨by decide +kernel, by decide +kernel⟩, List.mem_of_getElem? (i := 747) (by decide +kernel), List.mem_of_getElem? (i := 898) (by decide +kernel), List.mem_of_getElem? (i := 899) (by decide +kernel)⟩
def lw_privs_2 : List (MethodName × Nat) := [(⟨"Mergeparlour$Press", "printPage", "()I"⟩, 4), (⟨"Mergeparlour", "checkFromNought", "(I)V"⟩, 3), (⟨"Mergeparlour$Text", "putAllAnew", "()V"⟩, 7), (⟨"Mergeparlour$Text", "sortByStamps", "()V"⟩, 7), (⟨"Mergeparlour$Text", "placeByStamp", "(I)I"⟩, 7), (⟨"Mergeparlour$Layout", "endByTrying", "(I)I"⟩, 6), (⟨"Mergeparlour$Layout", "endWithRoom", "(I)I"⟩, 6), (⟨"MergeparlourModel", "knowsLine", "(II)Z"⟩, 31), (⟨"MergeparlourModel", "goesWell", "(I)Z"⟩, 31), (⟨"MergeparlourModel", "deed", "(IIII)I"⟩, 31), (⟨"MergeparlourModel", "learn", "(II)V"⟩, 31), (⟨"MergeparlourModel", "isThere", "(II)Z"⟩, 31), (⟨"MergeparlourModel", "lay", "(I)V"⟩, 31), (⟨"MergeparlourModel", "arrange", "(I)V"⟩, 31), (⟨"MergeparlourModel", "pileUp", "(III)I"⟩, 31), (⟨"MergeparlourModel", "isGreater", "(II)Z"⟩, 31)]
theorem lw_r2 : ∀ q ∈ lw_privs_2, lw_okq q := List.forall_mem_cons.mpr ⟨lw_p16, List.forall_mem_cons.mpr ⟨lw_p17, List.forall_mem_cons.mpr ⟨lw_p18, List.forall_mem_cons.mpr ⟨lw_p19, List.forall_mem_cons.mpr ⟨lw_p20, List.forall_mem_cons.mpr ⟨lw_p21, List.forall_mem_cons.mpr ⟨lw_p22, List.forall_mem_cons.mpr ⟨lw_p23, List.forall_mem_cons.mpr ⟨lw_p24, List.forall_mem_cons.mpr ⟨lw_p25, List.forall_mem_cons.mpr ⟨lw_p26, List.forall_mem_cons.mpr ⟨lw_p27, List.forall_mem_cons.mpr ⟨lw_p28, List.forall_mem_cons.mpr ⟨lw_p29, List.forall_mem_cons.mpr ⟨lw_p30, List.forall_mem_cons.mpr ⟨lw_p31, fun _ h => absurd h List.not_mem_nil⟩⟩⟩⟩⟩⟩⟩⟩⟩⟩⟩⟩⟩⟩⟩⟩
theorem lw_p32 : lw_okq (⟨"MergeparlourModel", "layRows", "(I)V"⟩, 31) := ⟨⟨by decide +kernel, by decide +kernel⟩, List.mem_of_getElem? (i := 747) (by decide +kernel), List.mem_of_getElem? (i := 902) (by decide +kernel), List.mem_of_getElem? (i := 903) (by decide +kernel)⟩
theorem lw_p33 : lw_okq (⟨"MergeparlourModel", "knowsNote", "(II)Z"⟩, 31) := ⟨⟨by decide +kernel, by decide +kernel⟩, List.mem_of_getElem? (i := 747) (by decide +kernel), List.mem_of_getElem? (i := 906) (by decide +kernel), List.mem_of_getElem? (i := 907) (by decide +kernel)⟩
theorem lw_p34 : lw_okq (⟨"MergeparlourModel", "placeOf", "(II)I"⟩, 31) := ⟨⟨by decide +kernel, by decide +kernel⟩, List.mem_of_getElem? (i := 747) (by decide +kernel), List.mem_of_getElem? (i := 910) (by decide +kernel), List.mem_of_getElem? (i := 911) (by decide +kernel)⟩
theorem lw_p35 : lw_okq (⟨"MergeparlourModel", "endOf", "(I)I"⟩, 31) := ⟨⟨by decide +kernel, by decide +kernel⟩, List.mem_of_getElem? (i := 747) (by decide +kernel), List.mem_of_getElem? (i := 914) (by decide +kernel), List.mem_of_getElem? (i := 915) (by decide +kernel)⟩
theorem lw_p36 : lw_okq (⟨"MergeparlourModel", "isBad", "(I)Z"⟩, 31) := ⟨⟨by decide +kernel, by decide +kernel⟩, List.mem_of_getElem? (i := 747) (by decide +kernel), List.mem_of_getElem? (i := 918) (by decide +kernel), List.mem_of_getElem? (i := 919) (by decide +kernel)⟩
theorem lw_p37 : lw_okq (⟨"MergeparlourModel", "isBegun", "(I)Z"⟩, 31) := ⟨⟨by decide +kernel, by decide +kernel⟩, List.mem_of_getElem? (i := 747) (by decide +kernel), List.mem_of_getElem? (i := 922) (by decide +kernel), List.mem_of_getElem? (i := 923) (by decide +kernel)⟩
theorem lw_p38 : lw_okq (⟨"MergeparlourModel", "unlike", "(I)I"⟩, 31) := ⟨⟨by decide +kernel, by decide +kernel⟩, List.mem_of_getElem? (i := 747) (by decide +kernel), List.mem_of_getElem? (i := 950) (by decide +kernel), List.mem_of_getElem? (i := 951) (by decide +kernel)⟩
def lw_privs_3 : List (MethodName × Nat) := [(⟨"MergeparlourModel", "layRows", "(I)V"⟩, 31), (⟨"MergeparlourModel", "knowsNote", "(II)Z"⟩, 31), (⟨"MergeparlourModel", "placeOf", "(II)I"⟩, 31), (⟨"MergeparlourModel", "endOf", "(I)I"⟩, 31), (⟨"MergeparlourModel", "isBad", "(I)Z"⟩, 31), (⟨"MergeparlourModel", "isBegun", "(I)Z"⟩, 31), (⟨"MergeparlourModel", "unlike", "(I)I"⟩, 31)]
theorem lw_r3 : ∀ q ∈ lw_privs_3, lw_okq q := List.forall_mem_cons.mpr ⟨lw_p32, List.forall_mem_cons.mpr ⟨lw_p33, List.forall_mem_cons.mpr ⟨lw_p34, List.forall_mem_cons.mpr ⟨lw_p35, List.forall_mem_cons.mpr ⟨lw_p36, List.forall_mem_cons.mpr ⟨lw_p37, List.forall_mem_cons.mpr ⟨lw_p38, fun _ h => absurd h List.not_mem_nil⟩⟩⟩⟩⟩⟩⟩
def lw_privs : List (MethodName × Nat) := lw_privs_1 ++ (lw_privs_2 ++ (lw_privs_3))
def lw_tbl : List Cond := k2_sels lw_privs ++ tables_1
theorem lw_privs_ok : ∀ q ∈ lw_privs, lw_okq q := by
  show ∀ q ∈ lw_privs_1 ++ (lw_privs_2 ++ (lw_privs_3)), lw_okq q
  exact List.forall_mem_append.mpr ⟨lw_r1, List.forall_mem_append.mpr ⟨lw_r2, lw_r3⟩⟩
-- ===== end of PART A; then your names; then what follows =====
end
section
/-! ===== BEGIN words of one list among another's, by their places ===== -/
theorem goodIn_r {big : List Cond} (ws : List Cond) (ps : List Nat) (hp : ws = ps.filterMap (fun i => big[i]?)) (h : ws.all goodWord = true) : GoodIn big ws := by
  intro w hw
  have h1 := List.all_eq_true.mp h w hw
  rw [hp] at hw
  obtain ⟨i, -, hi⟩ := List.mem_filterMap.mp hw
  have hm : w ∈ big := by first | exact List.mem_of_getElem? hi | exact List.getElem?_mem hi
  exact ⟨hm, good_of_word h1⟩
theorem goodIn_app {big a b : List Cond} (ha : GoodIn big a) (hb : GoodIn big b) : GoodIn big (a ++ b) := fun w h => (List.mem_append.mp h).elim (ha w) (hb w)
theorem goodIn_ca {big a b : List Cond} {c : Cond} (ha : GoodIn big (c :: a)) (hb : GoodIn big b) : GoodIn big (c :: (a ++ b)) := fun w h => (List.mem_cons.mp h).elim (fun e => ha w (List.mem_cons.mpr (Or.inl e))) (fun h => (List.mem_append.mp h).elim (fun h => ha w (List.mem_cons.mpr (Or.inr h))) (hb w))
theorem goodIn_sub {big ws : List Cond} (hm : ∀ w ∈ ws, w ∈ big) (h : ws.all goodWord = true) : GoodIn big ws := fun w hw => ⟨hm w hw, good_of_word (List.all_eq_true.mp h w hw)⟩
/-! ===== END ===== -/

/-! ===== BEGIN exceptions that leave a method, and their catching by the caller (launches without stack traces) ===== -/
section VXA
/-! The laws vx_back, vx_callV, vx_callS, vx_callSW, vx_throw0, vx_throwS follow proofs of the library, with one case more: JvmDerived/Free/Laws.lean (Back.of_free), Shelf42/LK1.lean (callV, callS), Shelf/KitTraced.lean (throwNew0V, throwNewS). -/
/-- where a method has thrown q: the class by its name, the cell, what was written, the world -/
def vx_T (XC : String → State → State → Prop) (st : State) (q : Addr) (t : State) (mc ms : Nat) (free : Addr → Prop) : Prop :=
  ∃ (E : String) (ce : Cell) (L : List Loc), XC E st t ∧ t.heap[q]? = some ce ∧ ce.vm = .none ∧ st.vm.findClass E = some ce.cls ∧ st.WarmedH t.vm ∧ st.sameButNew ({ t with vm := st.vm } : State) L mc ms ∧ ∀ z ∈ L, free z.base
def vx_Q (Qc : Array Value → State → Outcome → State → Prop) (XC : String → State → State → Prop) (mc ms : Nat) (free : Addr → Prop) : Array Value → State → Outcome → State → Prop := fun a st o t =>
  (Qc a st o t ∧ ∃ L, FrameEnd st o t L mc ms ∧ ∀ q ∈ L, free q.base) ∨ ∃ q, o = .threw q ∧ vx_T XC st q t mc ms free
/-- a callee that returns or throws -/
def vx_Met (l : Launch) (y : MethodName) (ws : List Cond) (rm : Room) (Pc : Array Value → State → Prop) (Qc : Array Value → State → Outcome → State → Prop) (XC : String → State → State → Prop) (mc ms : Nat) (free : Addr → Prop) : Prop :=
  MetFree l y (headSpec ws rm) Pc (fun _ _ _ _ _ => True) (vx_Q Qc XC mc ms free)
def vx_Post (XC : String → State → State → Prop) (mc ms : Nat) (free : Addr → Prop) : Pt → Array Value → Addr → Pt → Prop := fun A a q B =>
  ∃ (g : JFrame) (mk : MethodId) (t : State) (L : List Loc) (E : String) (ce : Cell), B.U.heap = t.heap ∧ B.U.vm = t.vm ∧ XC E (A.U.calling g mk a) t ∧ t.heap[q]? = some ce ∧ ce.vm = .none ∧ A.U.vm.findClass E = some ce.cls ∧ B.locs = A.locs ++ L ∧ (∀ z ∈ L, free z.base) ∧ B.cells = A.cells + mc ∧ B.slots = A.slots + ms
def vx_Back (l : Launch) (R : Room) (p : Program) (e : Env) (below : List Frame) (s : State) (sargs : Array Value) (y : MethodName) (len W9 : Nat)
    (Pre : Pt → Array Value → Prop) (Post : Pt → Array Value → Option Value → Pt → Prop) (PostX : Pt → Array Value → Addr → Pt → Prop) : Prop :=
  ∀ (m : MethodId) (meth : Method) (c : Code) (A : Pt) (g : JFrame) (ig : Instr) (mk : MethodId) (a : Array Value),
    Stand p l e R s m sargs below meth c A.U A.locs A.cells A.slots → g.method = m → g.locals.size = c.maxLocals → decode c.code g.pc = .ok (ig, len) →
    2 * g.monitorRoom + (g.stack.map fun v => v.category).sum ≤ W9 → A.U.methodNamed? y = some mk → Pre A a →
    (∃ (v : Option Value) (B : Pt), Stand p l e R s m sargs below meth c B.U B.locs B.cells B.slots ∧ Post A a v B ∧
      Steps p.tables e below (doInvoke e (A.U.setTop g) [] mk a).1 (B.U.setTop { g with pc := g.pc + len, stack := v.toList ++ g.stack })) ∨
    (∃ (q : Addr) (B : Pt), Stand p l e R s m sargs below meth c B.U B.locs B.cells B.slots ∧ PostX A a q B ∧
      Steps p.tables e below (doInvoke e (A.U.setTop g) [] mk a).1 ((B.U.setTop g).pushFrame (.throwing q)))
section Payer
variable {l : Launch} {R : Room} {p : Program} {e : Env} {below : List Frame} {s : State} {sargs : Array Value} {y : MethodName} {len W9 : Nat}
theorem vx_back {ws : List Cond} {rm : Room} {Pc : Array Value → State → Prop} {Qc : Array Value → State → Outcome → State → Prop} {XC : String → State → State → Prop} {mc ms : Nat} {free : Addr → Prop} {bytes : ByteArray} {maxL : Nat} {ret : Option FieldType}
    (hM : vx_Met l y ws rm Pc Qc XC mc ms free) (hblind : FrameBlind Pc) (hrc : rm.cells = mc) (hrs : rm.slots = ms)
    (hframes : rm.frames + 1 ≤ R.frames) (hlocals : W9 + (maxL + 11) + rm.locals ≤ R.locals)
    (hws : ∀ w ∈ ws, ∀ a' U, s.WarmedH U.vm → w.before a' U = true) (hcode : Cond.code y bytes maxL ret ∈ ws) (hinit : ∀ a' U, s.WarmedH U.vm → (Cond.initialized y.cls).before a' U = true) :
    vx_Back l R p e below s sargs y len W9 (PreOf R mc ms Pc) (PostOf Qc mc ms free) (vx_Post XC mc ms free) := by
  intro m meth c A g ig mk a X hg hsize hdg hW hn hp
  have h1 : (headSpec ws rm).pre.before a A.U = true := atoms_intro fun w hw => hws w hw _ _ X.warmed
  have h2 : (Cond.code y bytes maxL ret).before a A.U = true := hws _ hcode _ _ X.warmed
  have h3 : (Cond.initialized y.cls).before a A.U = true := hinit _ _ X.warmed
  have h4 : A.cells + (headSpec ws rm).room.cells ≤ R.cells := by rw [show (headSpec ws rm).room.cells = mc from hrc]; exact hp.1
  have h5 : A.slots + (headSpec ws rm).room.slots ≤ R.slots := by rw [show (headSpec ws rm).room.slots = ms from hrs]; exact hp.2.1
  have hPc : Pc a (A.U.calling g mk a) := hblind _ _ _ _ hp.2.2
  obtain ⟨U, Ls, c0, s0⟩ := A
  dsimp only [Pt.U, Pt.locs, Pt.cells, Pt.slots] at h1 h2 h3 h4 h5 X hn hPc ⊢
  obtain ⟨methY, cY, hmY, hcY, -, hlY, -, -, -, -⟩ := Cond.code_spec hn h2
  obtain ⟨kY, hkY, -⟩ := className_of_methodNamed hn
  have hinitY : kY.init = .initialized := Cond.initialized_spec (findClass_of_methodNamed hn) hkY h3
  have h : At U g.method c below := by rw [hg]; exact X.here
  have hlocals9 : W9 + (maxL + 11) + (headSpec ws rm).room.locals ≤ R.locals := hlocals
  have happ : (headSpec ws rm).appliesLoose y e.platform (U.calling g mk a) = true :=
    Spec.appliesLoose_calling (g := g) h hdg hn hkY hinitY
      (X.room_calling (g := g) (R' := (headSpec ws rm).room) hsize hmY hcY hframes (by rw [hlY]; omega) h4 h5) h1
  obtain ⟨mid, hmid⟩ := h.above
  have hfr : (U.setTop g).frames = (.java g :: mid) ++ below := by rw [State.frames_setTop' g h.top, hmid]; rfl
  obtain ⟨o, s₂, hsteps, -, hend, hq⟩ := Steps.callFree hM p X.admits X.cas X.clock (acts := []) hfr happ hPc trivial
  have hq' : vx_Q Qc XC mc ms free a (U.calling g mk a) o s₂ := hq
  rw [State.frames_setTop' g h.top] at hend
  obtain ⟨g₀, hg0⟩ := Option.isSome_iff_exists.mp h.top
  obtain ⟨r, hr⟩ := State.topJava?_eq_some.mp hg0
  have hr' : (({ U with heap := s₂.heap, slotsUsed := s₂.slotsUsed } : State).setVm s₂.vm).frames = .java g₀ :: r := hr
  rcases hq' with ⟨hqc, L, hfe, hL⟩ | ⟨q, rfl, E, ce, L, hx, hce, hcv, hcl, hW₂, hsm, hL⟩
  · obtain ⟨⟨v, rfl⟩, hW₂, e2, q2, q3, q4, q5, q6⟩ := id hfe
    have e3 : s₂ = ({ (U.calling g mk a).setFrames s₂.frames with heap := s₂.heap, slotsUsed := s₂.slotsUsed } : State).setVm s₂.vm := by
      have : s₂ = ({ s₂ with vm := (U.calling g mk a).vm } : State).setVm s₂.vm := rfl
      rw [e2] at this
      exact this
    obtain ⟨c₂, i₂, len₂, hc₂, hd₂, hf₂⟩ := hend
    have hW' : U.WarmedH s₂.vm := hW₂
    have hcc : c₂ = c := by
      have h1 : s₂.code? g.method = U.code? g.method := by
        rw [State.code?_eq, State.code?_eq, hW'.alike.method?]
      exact Option.some.inj (hc₂.symm.trans (h1.trans h.code))
    subst hcc
    have hlen : len₂ = len := by rw [hdg] at hd₂; cases hd₂; rfl
    subst hlen
    have hs₂ : s₂ = (({ U with heap := s₂.heap, slotsUsed := s₂.slotsUsed } : State).setVm s₂.vm).setTop { g with pc := g.pc + len₂, stack := v.toList ++ g.stack } := by
      refine e3.trans ?_
      rw [hf₂, State.calling_eq h.top, State.setFrames_setFrames, State.setTop_of_frames _ hr', hr]
      rfl
    have hsame : U.sameButNew ({ U with heap := s₂.heap, slotsUsed := s₂.slotsUsed } : State) L mc ms := by
      refine ⟨?_, q2, q3, q4, q5, q6⟩
      obtain ⟨t, ht, -⟩ := State.frames_cons hr
      show ({ U with heap := s₂.heap, slotsUsed := s₂.slotsUsed } : State) = { U.setFrames U.frames with heap := s₂.heap, slotsUsed := s₂.slotsUsed }
      rw [State.setFrames_self ht]
    subst hg
    refine Or.inl ⟨v, ⟨(({ U with heap := s₂.heap, slotsUsed := s₂.slotsUsed } : State).setVm s₂.vm), Ls ++ L, c0 + mc, s0 + ms⟩,
      ⟨X.admits, X.cas, X.clock, X.frames, X.room, X.hears, X.method, X.code, (X.here.setHeapUsed s₂.heap s₂.slotsUsed).setVm hW'.alike, X.tail, State.WarmedH.trans X.warmed hW', X.limits, X.bytes, X.same.trans (hsame.setVm s.vm)⟩,
      ⟨g, mk, s₂, L, rfl, rfl, hqc, rfl, hL, rfl, rfl⟩, ?_⟩
    show Steps p.tables e below _ ((({ U with heap := s₂.heap, slotsUsed := s₂.slotsUsed } : State).setVm s₂.vm).setTop { g with pc := g.pc + len₂, stack := v.toList ++ g.stack })
    rw [← hs₂]
    exact hsteps
  · obtain ⟨e2, q2, q3, q4, q5, q6⟩ := id hsm
    have e3 : s₂ = ({ (U.calling g mk a).setFrames s₂.frames with heap := s₂.heap, slotsUsed := s₂.slotsUsed } : State).setVm s₂.vm := by
      have : s₂ = ({ s₂ with vm := (U.calling g mk a).vm } : State).setVm s₂.vm := rfl
      rw [e2] at this
      exact this
    have hf₂ : s₂.frames = .throwing q :: .java g :: U.frames.tail := hend
    have hW' : U.WarmedH s₂.vm := hW₂
    have hs₂ : s₂ = ((({ U with heap := s₂.heap, slotsUsed := s₂.slotsUsed } : State).setVm s₂.vm).setTop g).pushFrame (.throwing q) := by
      refine e3.trans ?_
      rw [hf₂, State.calling_eq h.top, State.setFrames_setFrames, State.pushFrame, State.frames_setTop _ hr', State.setTop_of_frames _ hr', State.setFrames_setFrames, hr]
      rfl
    have hsame : U.sameButNew ({ U with heap := s₂.heap, slotsUsed := s₂.slotsUsed } : State) L mc ms := by
      refine ⟨?_, q2, q3, q4, q5, q6⟩
      obtain ⟨t, ht, -⟩ := State.frames_cons hr
      show ({ U with heap := s₂.heap, slotsUsed := s₂.slotsUsed } : State) = { U.setFrames U.frames with heap := s₂.heap, slotsUsed := s₂.slotsUsed }
      rw [State.setFrames_self ht]
    subst hg
    refine Or.inr ⟨q, ⟨(({ U with heap := s₂.heap, slotsUsed := s₂.slotsUsed } : State).setVm s₂.vm), Ls ++ L, c0 + mc, s0 + ms⟩,
      ⟨X.admits, X.cas, X.clock, X.frames, X.room, X.hears, X.method, X.code, (X.here.setHeapUsed s₂.heap s₂.slotsUsed).setVm hW'.alike, X.tail, State.WarmedH.trans X.warmed hW', X.limits, X.bytes, X.same.trans (hsame.setVm s.vm)⟩,
      ⟨g, mk, s₂, L, E, ce, rfl, rfl, hx, hce, hcv, hcl, rfl, hL, rfl, rfl⟩, ?_⟩
    show Steps p.tables e below _ (((({ U with heap := s₂.heap, slotsUsed := s₂.slotsUsed } : State).setVm s₂.vm).setTop g).pushFrame (.throwing q))
    rw [← hs₂]
    exact hsteps
end Payer
section Calls
variable {p : Program} {l : Launch} {e : Env} {R : Room} {s : State} {m : MethodId} {args : Array Value} {below : List Frame} {meth : Method} {c : Code} {T : State} {locs : List Loc} {cells slots : Nat}
theorem vx_callV (X : Stand p l e R s m args below meth c T locs cells slots) (hexec : p.tables.exec = Jvm.exec) {own C : String} {index : Nat} {y : MethodName} {bytes : ByteArray} {maxL : Nat} {ret : Option FieldType}
    (hown : s.vm.findClass own = some m.cls) (hlink : (Cond.methodLink own index y).before args s = true) (hinst : (Cond.instanceMethod y).before args s = true) (hsel : (Cond.selects C y y).before args s = true)
    (hcode : (Cond.code y bytes maxL ret).before args s = true) (hy : y.cls ≠ "java/lang/invoke/MethodHandle" ∧ y.cls ≠ "java/lang/invoke/VarHandle")
    {W9 : Nat} {Pre : Pt → Array Value → Prop} {Post : Pt → Array Value → Option Value → Pt → Prop} {PostX : Pt → Array Value → Addr → Pt → Prop} (hK : vx_Back l R p e below s args y 3 W9 Pre Post PostX)
    {b : Addr} {cellB : Cell} (hcell : T.heap[b]? = some cellB) (hobj : cellB.vm.isStatics = false) (hcls : s.vm.findClass C = some cellB.cls)
    {g : JFrame} (hg : g.method = m) (hsize : g.locals.size = c.maxLocals) {argsL rest : List Value} (hlen : ∀ sig, parseMethodDescriptor y.desc = some sig → argsL.length = sig.parameters.length)
    (hstack : g.stack = argsL.reverse ++ .ref b :: rest) (hW : 2 * g.monitorRoom + (rest.map fun v => v.category).sum ≤ W9) (hdg : decode c.code g.pc = .ok (.invokevirtual index, 3))
    (hpre : ∀ vm₁, s.WarmedH vm₁ → Pre ⟨T.setVm vm₁, locs, cells, slots⟩ (Value.ref b :: argsL).toArray) :
    (∃ (v : Option Value) (vm₁ : Vm) (B : Pt), s.WarmedH vm₁ ∧ Stand p l e R s m args below meth c B.U B.locs B.cells B.slots ∧ Post ⟨T.setVm vm₁, locs, cells, slots⟩ (Value.ref b :: argsL).toArray v B ∧
      ∀ target, Steps p.tables e below (B.U.setTop { g with pc := g.pc + 3, stack := v.toList ++ rest }) target → Steps p.tables e below (T.setTop g) target) ∨
    (∃ (q : Addr) (vm₁ : Vm) (B : Pt), s.WarmedH vm₁ ∧ Stand p l e R s m args below meth c B.U B.locs B.cells B.slots ∧ PostX ⟨T.setVm vm₁, locs, cells, slots⟩ (Value.ref b :: argsL).toArray q B ∧
      Steps p.tables e below (T.setTop g) ((B.U.setTop { g with stack := rest }).pushFrame (.throwing q))) := by
  obtain ⟨mk, methM, hnamed, hmethM, hstM, habM⟩ := Cond.instanceMethod_spec hinst
  obtain ⟨methM', cM, hmethM', -, -, -, -, -, -, hsigM⟩ := Cond.code_spec hnamed hcode
  cases hmethM.symm.trans hmethM'
  obtain ⟨c2, r2, m2, q1, q2, q3, q4, kP, hkP, hkPi⟩ := Cond.selects_spec hsel
  cases hcls.symm.trans q1
  cases (State.methodFound?_of_named hnamed hy).symm.trans q2
  cases hnamed.symm.trans q3
  have hselP : selectMethod e.platform s.vm cellB.cls mk = .method mk := by rw [Launch.admits_selectMethod X.admits]; exact q4
  obtain ⟨vm₁, X₁, hstep₁⟩ := X.invokevirtual hexec hown hlink hnamed hmethM hstM hkP hkPi hy (a := b) (cell := cellB) hcell
    (fun z h => by rw [h] at hobj; cases hobj) hselP hmethM habM hkP hkPi (g := g) hg (argsL := argsL) (rest := rest) (hlen _ hsigM) hstack hdg
  rcases hK m meth c ⟨T.setVm vm₁, locs, cells, slots⟩ { g with stack := rest } (.invokevirtual index) mk (Value.ref b :: argsL).toArray X₁ hg hsize hdg hW (X₁.named hnamed) (hpre vm₁ X₁.warmed) with ⟨v, B, X', hpost, hsteps⟩ | ⟨q, B, X', hpost, hsteps⟩
  · exact Or.inl ⟨v, vm₁, B, X₁.warmed, X', hpost, fun target h => hstep₁ _ fun acts => by rw [doInvoke_state]; exact hsteps.trans h⟩
  · exact Or.inr ⟨q, vm₁, B, X₁.warmed, X', hpost, hstep₁ _ fun acts => by rw [doInvoke_state]; exact hsteps⟩
theorem vx_callS (X : Stand p l e R s m args below meth c T locs cells slots) (hexec : p.tables.exec = Jvm.exec) {own : String} {index : Nat} {y : MethodName} {bytes : ByteArray} {maxL : Nat} {ret : Option FieldType}
    (hown : s.vm.findClass own = some m.cls) (hlink : (Cond.methodLink own index y).before args s = true) (hstat : (Cond.static y).before args s = true) (hinit : (Cond.initialized y.cls).before args s = true)
    (hcode : (Cond.code y bytes maxL ret).before args s = true) (hy : y.cls ≠ "java/lang/invoke/MethodHandle" ∧ y.cls ≠ "java/lang/invoke/VarHandle")
    {W9 : Nat} {Pre : Pt → Array Value → Prop} {Post : Pt → Array Value → Option Value → Pt → Prop} {PostX : Pt → Array Value → Addr → Pt → Prop} (hK : vx_Back l R p e below s args y 3 W9 Pre Post PostX)
    {g : JFrame} (hg : g.method = m) (hsize : g.locals.size = c.maxLocals) {argsL rest : List Value} (hlen : ∀ sig, parseMethodDescriptor y.desc = some sig → argsL.length = sig.parameters.length)
    (hstack : g.stack = argsL.reverse ++ rest) (hW : 2 * g.monitorRoom + (rest.map fun v => v.category).sum ≤ W9) (hdg : decode c.code g.pc = .ok (.invokestatic index, 3))
    (hpre : ∀ vm₁, s.WarmedH vm₁ → Pre ⟨T.setVm vm₁, locs, cells, slots⟩ argsL.toArray) :
    (∃ (v : Option Value) (vm₁ : Vm) (B : Pt), s.WarmedH vm₁ ∧ Stand p l e R s m args below meth c B.U B.locs B.cells B.slots ∧ Post ⟨T.setVm vm₁, locs, cells, slots⟩ argsL.toArray v B ∧
      ∀ target, Steps p.tables e below (B.U.setTop { g with pc := g.pc + 3, stack := v.toList ++ rest }) target → Steps p.tables e below (T.setTop g) target) ∨
    (∃ (q : Addr) (vm₁ : Vm) (B : Pt), s.WarmedH vm₁ ∧ Stand p l e R s m args below meth c B.U B.locs B.cells B.slots ∧ PostX ⟨T.setVm vm₁, locs, cells, slots⟩ argsL.toArray q B ∧
      Steps p.tables e below (T.setTop g) ((B.U.setTop { g with stack := rest }).pushFrame (.throwing q))) := by
  obtain ⟨mk, hnamed⟩ := Cond.code_named hcode
  obtain ⟨methM, cM, hmethM, -, -, -, -, -, -, hsigM⟩ := Cond.code_spec hnamed hcode
  have hstatic : methM.isStatic = true := Cond.static_spec hnamed hmethM hstat
  obtain ⟨kP, hkP, -⟩ := className_of_methodNamed hnamed
  have hinitP : kP.init = .initialized := Cond.initialized_spec (findClass_of_methodNamed hnamed) hkP hinit
  obtain ⟨vm₁, X₁, hstep₁⟩ := X.invokestatic hexec hown hlink hnamed hmethM hstatic hkP hinitP hy (g := g) hg (argsL := argsL) (rest := rest) (hlen _ hsigM) hstack hdg
  rcases hK m meth c ⟨T.setVm vm₁, locs, cells, slots⟩ { g with stack := rest } (.invokestatic index) mk argsL.toArray X₁ hg hsize hdg hW (X₁.named hnamed) (hpre vm₁ X₁.warmed) with ⟨v, B, X', hpost, hsteps⟩ | ⟨q, B, X', hpost, hsteps⟩
  · exact Or.inl ⟨v, vm₁, B, X₁.warmed, X', hpost, fun target h => hstep₁ _ fun acts => by rw [doInvoke_state]; exact hsteps.trans h⟩
  · exact Or.inr ⟨q, vm₁, B, X₁.warmed, X', hpost, hstep₁ _ fun acts => by rw [doInvoke_state]; exact hsteps⟩
end Calls
theorem vx_cls {s : State} {T : State} {vm₁ : Vm} {E : String} {k : ClassId} (hW : s.WarmedH vm₁) (h : (T.setVm vm₁).vm.findClass E = some k) : s.vm.findClass E = some k := by
  have h1 : vm₁.findClass E = some k := h
  rw [hW.alike.findClass] at h1
  exact h1
/-- the method's frame g, with q thrown over it -/
def vx_W (p : Program) (l : Launch) (e : Env) (R : Room) (s : State) (m : MethodId) (args : Array Value) (below : List Frame) (meth : Method) (c : Code) (H : Heap) (locs : List Loc) (cells slots : Nat) (Q : State → Prop) (g : JFrame) (q : Addr) : Prop :=
  ∀ T : State, T.heap = H → Stand p l e R s m args below meth c T locs cells slots → ∃ t, Steps p.tables e below ((T.setTop g).pushFrame (.throwing q)) t ∧ Q t
def vx_Run (p : Program) (l : Launch) (e : Env) (R : Room) (s : State) (m : MethodId) (args : Array Value) (below : List Frame) (meth : Method) (c : Code) (H : Heap) (locs : List Loc) (cells slots mc ms : Nat) (g : JFrame) (rest : List Value) (Qa : State → Outcome → State → Prop) (XC : String → State → State → Prop) (free : Addr → Prop) : Prop :=
  ∀ T : State, T.heap = H → Stand p l e R s m args below meth c T locs cells slots →
    (∃ (v : Option Value) (st₀ t T' : State) (L : List Loc), st₀.heap = H ∧ Stand p l e R s m args below meth c T' (locs ++ L) (cells + mc) (slots + ms) ∧ (∀ q ∈ L, free q.base) ∧ T'.heap = t.heap ∧ T'.vm = t.vm ∧ Qa st₀ (.returned v) t ∧
      Goes p e below T g T' { g with pc := g.pc + 3, stack := v.toList ++ rest }) ∨
    (∃ (q : Addr) (st₀ t T' : State) (L : List Loc) (E : String) (ce : Cell), st₀.heap = H ∧ Stand p l e R s m args below meth c T' (locs ++ L) (cells + mc) (slots + ms) ∧ (∀ z ∈ L, free z.base) ∧ T'.heap = t.heap ∧ T'.vm = t.vm ∧ XC E st₀ t ∧ t.heap[q]? = some ce ∧ ce.vm = .none ∧ s.vm.findClass E = some ce.cls ∧
      Steps p.tables e below (T.setTop g) ((T'.setTop { g with stack := rest }).pushFrame (.throwing q)))
def vx_X {S : Type} (px : S → Prop) (B : String → S → State → Prop) (A : Nat → Prop) : String → State → State → Prop := fun E st t => ∃ u : S, px u ∧ B E u t ∧ va_F A st t
section Runs
variable {p : Program} {l : Launch} {e : Env} {R : Room} {s : State} {m : MethodId} {args : Array Value} {below : List Frame} {meth : Method} {c : Code} {H : Heap} {locs : List Loc} {cells slots : Nat}
variable {y : MethodName} {bytes cc : ByteArray} {maxL nL mc ms n index : Nat} {ret : Option FieldType} {ws : List Cond} {rm : Room} {Pc : Array Value → State → Prop} {Qc : Array Value → State → Outcome → State → Prop} {XC : String → State → State → Prop} {free : Addr → Prop} {Ts : List Cond} {own C : String} {b : Addr} {As rest : List Value} {g : JFrame}
theorem vx_callBack (cb : CallB R s args own index y bytes maxL ret ws rm mc ms n) (hM : vx_Met l y ws rm Pc Qc XC mc ms free) (hbl : FrameBlind Pc) : vx_Back l R p e below s args y 3 8 (PreOf R mc ms Pc) (PostOf Qc mc ms free) (vx_Post XC mc ms free) := by
  obtain ⟨hrc, hrs, hfr, hlo, hws, hcw, -, hini, -⟩ := cb
  exact vx_back (bytes := bytes) (maxL := maxL) (ret := ret) hM hbl hrc hrs hfr hlo hws hcw (fun a' U hW => word_at hW (Or.inl (by first | rfl | simp [Cond.onTables, Cond.keeps, Cond.steady])) hini)
theorem vx_runV (S : CallFix p m c cc nL s args Ts own) (hM : vx_Met l y ws rm Pc Qc XC mc ms free) (cw : CallW R s args own C index y bytes maxL ret ws rm mc ms n) (hp : PreV s H C b Pc As)
    (hg : g.method = m) (hn : As.length = n) (hsize : g.locals.size = nL) (hstack : g.stack = As.reverse ++ .ref b :: rest) (hW : 2 * g.monitorRoom + (rest.map fun v => v.category).sum ≤ 8) (hdg : decode cc g.pc = .ok (.invokevirtual index, 3)) (hf : cells + mc ≤ R.cells ∧ slots + ms ≤ R.slots) :
    vx_Run p l e R s m args below meth c H locs cells slots mc ms g rest (Qc (Value.ref b :: As).toArray) XC free := by
  have hK : vx_Back l R p e below s args y 3 8 (PreOf R mc ms Pc) (PostOf Qc mc ms free) (vx_Post XC mc ms free) := vx_callBack cw.1 hM hp.1
  obtain ⟨⟨-, -, -, -, -, -, hcode, -, hy, hlen, hl⟩, hin, hse⟩ := cw
  obtain ⟨hx, hb, hml, ho, -⟩ := S
  obtain ⟨-, ⟨cellB, hcB, hoB, hclB⟩, hPc⟩ := hp
  intro T hT X
  rcases vx_callV X hx (C := C) (bytes := bytes) (maxL := maxL) (ret := ret) ho hl hin hse hcode hy hK (by rw [hT]; exact hcB) hoB hclB hg (hsize.trans hml.symm) (argsL := As) (rest := rest) (fun sig h => hn.trans (hlen sig h)) hstack hW (by rw [hb]; exact hdg)
    (fun vm₁ hW₁ => ⟨hf.1, hf.2, hPc (T.setVm vm₁) hT hW₁⟩) with ⟨v, vm₁, ⟨U', l2, c2, s2⟩, hW₁, X', ⟨g', mk, t, L, e1, e2, hq, h1, hL, h2, h3⟩, st⟩ | ⟨q, vm₁, ⟨U', l2, c2, s2⟩, hW₁, X', ⟨g', mk, t, L, E, ce, e1, e2, hq, hce, hcv, hcl, h1, hL, h2, h3⟩, st⟩
  · dsimp only [Pt.U, Pt.locs, Pt.cells, Pt.slots] at X' e1 e2 h1 h2 h3 st
    subst h1; subst h2; subst h3
    exact Or.inl ⟨v, (T.setVm vm₁).calling g' mk (Value.ref b :: As).toArray, t, U', L, hT, X', hL, e1, e2, hq, st⟩
  · dsimp only [Pt.U, Pt.locs, Pt.cells, Pt.slots] at X' e1 e2 h1 h2 h3 st hcl
    subst h1; subst h2; subst h3
    exact Or.inr ⟨q, (T.setVm vm₁).calling g' mk (Value.ref b :: As).toArray, t, U', L, E, ce, hT, X', hL, e1, e2, hq, hce, hcv, vx_cls hW₁ hcl, st⟩
theorem vx_runS (S : CallFix p m c cc nL s args Ts own) (hM : vx_Met l y ws rm Pc Qc XC mc ms free) (cw : CallB R s args own index y bytes maxL ret ws rm mc ms n ∧ (Cond.static y).before args s = true) (hp : PreS s H Pc As)
    (hg : g.method = m) (hn : As.length = n) (hsize : g.locals.size = nL) (hstack : g.stack = As.reverse ++ rest) (hW : 2 * g.monitorRoom + (rest.map fun v => v.category).sum ≤ 8) (hdg : decode cc g.pc = .ok (.invokestatic index, 3)) (hf : cells + mc ≤ R.cells ∧ slots + ms ≤ R.slots) :
    vx_Run p l e R s m args below meth c H locs cells slots mc ms g rest (Qc As.toArray) XC free := by
  have hK : vx_Back l R p e below s args y 3 8 (PreOf R mc ms Pc) (PostOf Qc mc ms free) (vx_Post XC mc ms free) := vx_callBack cw.1 hM hp.1
  obtain ⟨⟨-, -, -, -, -, -, hcode, hini, hy, hlen, hl⟩, hstt⟩ := cw
  obtain ⟨hx, hb, hml, ho, -⟩ := S
  intro T hT X
  rcases vx_callS X hx (bytes := bytes) (maxL := maxL) (ret := ret) ho hl hstt hini hcode hy hK hg (hsize.trans hml.symm) (argsL := As) (rest := rest) (fun sig h => hn.trans (hlen sig h)) hstack hW (by rw [hb]; exact hdg)
    (fun vm₁ hW₁ => ⟨hf.1, hf.2, hp.2 (T.setVm vm₁) hT hW₁⟩) with ⟨v, vm₁, ⟨U', l2, c2, s2⟩, hW₁, X', ⟨g', mk, t, L, e1, e2, hq, h1, hL, h2, h3⟩, st⟩ | ⟨q, vm₁, ⟨U', l2, c2, s2⟩, hW₁, X', ⟨g', mk, t, L, E, ce, e1, e2, hq, hce, hcv, hcl, h1, hL, h2, h3⟩, st⟩
  · dsimp only [Pt.U, Pt.locs, Pt.cells, Pt.slots] at X' e1 e2 h1 h2 h3 st
    subst h1; subst h2; subst h3
    exact Or.inl ⟨v, (T.setVm vm₁).calling g' mk As.toArray, t, U', L, hT, X', hL, e1, e2, hq, st⟩
  · dsimp only [Pt.U, Pt.locs, Pt.cells, Pt.slots] at X' e1 e2 h1 h2 h3 st hcl
    subst h1; subst h2; subst h3
    exact Or.inr ⟨q, (T.setVm vm₁).calling g' mk As.toArray, t, U', L, E, ce, hT, X', hL, e1, e2, hq, hce, hcv, vx_cls hW₁ hcl, st⟩
end Runs
section Rows
variable {p : Program} {l : Launch} {e : Env} {R : Room} {s : State} {m : MethodId} {args : Array Value} {below : List Frame} {meth : Method} {c : Code} {H : Heap} {locs : List Loc} {cells slots : Nat} {Q : State → Prop}
variable {mc ms : Nat} {free : Addr → Prop} {A0 A1 : Nat → Prop} {H0 : Heap} {a : Array Value} {pc : Nat} {ls : Array Slot} {st0 rest : List Value}
theorem vx_keep {st₀ t T' : State} {L : List Loc} (h0 : st₀.heap = H) (e1 : T'.heap = t.heap) (hS : va_S A0 H0 H locs) (hA : ∀ q, q < H.size → A1 q → A0 q) (hf : ∀ q, free q → A0 q) (hL : ∀ q ∈ L, free q.base) (hF : va_F A1 st₀ t) :
    H.size ≤ T'.heap.size ∧ (∀ q : Nat, q < H.size → ¬ A1 q → T'.heap[q]? = H[q]?) ∧ va_S A0 H0 T'.heap (locs ++ L) := by
  obtain ⟨hz, hk⟩ := hF
  rw [h0] at hz hk
  exact ⟨by rw [e1]; exact hz, fun q h1 h2 => by rw [e1]; exact hk q h1 h2,
    ⟨Nat.le_trans hS.1 (by rw [e1]; exact hz), fun q h1 h2 => by rw [e1, hk q (Nat.lt_of_lt_of_le h1 hS.1) (fun z => h2 (hA q (Nat.lt_of_lt_of_le h1 hS.1) z))]; exact hS.2.1 q h1 h2, fun q hq => by
      rcases List.mem_append.mp hq with h | h
      · exact hS.2.2 q h
      · exact hf _ (hL q h)⟩⟩
theorem vx_calli {S SX : Type} {post : Int32 → S → Prop} {px : SX → Prop} {B : S → State → Prop} {BX : String → SX → State → Prop} {AX : Nat → Prop} (hr : vx_Run p l e R s m args below meth c H locs cells slots mc ms (F0 m pc ls st0) rest (va_Qi post B A1 a) (vx_X px BX AX) free) (hS : va_S A0 H0 H locs) (hA : ∀ q, q < H.size → A1 q → A0 q) (hf : ∀ q, free q → A0 q) (hAX : ∀ q, q < H.size → AX q → A0 q)
    (kx : ∀ (E : String) (ce : Cell) (q9 : Addr) (u : SX) (t : State) (H1 : Heap) (locs1 : List Loc), t.heap = H1 → s.vm.Alike t.vm → px u → BX E u t → H.size ≤ H1.size → (∀ q : Nat, q < H.size → ¬ AX q → H1[q]? = H[q]?) → va_S A0 H0 H1 locs1 → H1[q9]? = some ce → ce.vm = .none → s.vm.findClass E = some ce.cls → vx_W p l e R s m args below meth c H1 locs1 (cells + mc) (slots + ms) Q (F0 m pc ls rest) q9)
    (kk : ∀ (r : Int32) (u : S) (t : State) (H1 : Heap) (locs1 : List Loc), t.heap = H1 → s.vm.Alike t.vm → post r u → B u t → H.size ≤ H1.size → (∀ q : Nat, q < H.size → ¬ A1 q → H1[q]? = H[q]?) → va_S A0 H0 H1 locs1 → W p l e R s m args below meth c H1 locs1 (cells + mc) (slots + ms) Q (F0 m (pc + 3) ls (.int r :: rest))) : W p l e R s m args below meth c H locs cells slots Q (F0 m pc ls st0) := by
  intro T hT X
  rcases hr T hT X with ⟨v, st₀, t, T', L, h0, X', hL, e1, e2, ⟨⟨r, u, hv, hp, hb⟩, hF⟩, st⟩ | ⟨q, st₀, t, T', L, E, ce, h0, X', hL, e1, e2, ⟨u, hp, hb, hF⟩, hce, hcv, hcl, st⟩
  · cases hv
    obtain ⟨k1, k2, k3⟩ := vx_keep h0 e1 hS hA hf hL hF
    obtain ⟨t2, a1, b1⟩ := kk r u t T'.heap (locs ++ L) e1.symm (by rw [← e2]; exact X'.warmed.alike) hp hb k1 k2 k3 T' rfl X'
    exact ⟨t2, st t2 a1, b1⟩
  · obtain ⟨k1, k2, k3⟩ := vx_keep h0 e1 hS hAX hf hL hF
    obtain ⟨t2, a1, b1⟩ := kx E ce q u t T'.heap (locs ++ L) e1.symm (by rw [← e2]; exact X'.warmed.alike) hp hb k1 k2 k3 (by rw [e1]; exact hce) hcv hcl T' rfl X'
    exact ⟨t2, st.trans a1, b1⟩
theorem vx_calll {S SX : Type} {post : Int64 → S → Prop} {px : SX → Prop} {B : S → State → Prop} {BX : String → SX → State → Prop} {AX : Nat → Prop} (hr : vx_Run p l e R s m args below meth c H locs cells slots mc ms (F0 m pc ls st0) rest (va_Ql post B A1 a) (vx_X px BX AX) free) (hS : va_S A0 H0 H locs) (hA : ∀ q, q < H.size → A1 q → A0 q) (hf : ∀ q, free q → A0 q) (hAX : ∀ q, q < H.size → AX q → A0 q)
    (kx : ∀ (E : String) (ce : Cell) (q9 : Addr) (u : SX) (t : State) (H1 : Heap) (locs1 : List Loc), t.heap = H1 → s.vm.Alike t.vm → px u → BX E u t → H.size ≤ H1.size → (∀ q : Nat, q < H.size → ¬ AX q → H1[q]? = H[q]?) → va_S A0 H0 H1 locs1 → H1[q9]? = some ce → ce.vm = .none → s.vm.findClass E = some ce.cls → vx_W p l e R s m args below meth c H1 locs1 (cells + mc) (slots + ms) Q (F0 m pc ls rest) q9)
    (kk : ∀ (r : Int64) (u : S) (t : State) (H1 : Heap) (locs1 : List Loc), t.heap = H1 → s.vm.Alike t.vm → post r u → B u t → H.size ≤ H1.size → (∀ q : Nat, q < H.size → ¬ A1 q → H1[q]? = H[q]?) → va_S A0 H0 H1 locs1 → W p l e R s m args below meth c H1 locs1 (cells + mc) (slots + ms) Q (F0 m (pc + 3) ls (.long r :: rest))) : W p l e R s m args below meth c H locs cells slots Q (F0 m pc ls st0) := by
  intro T hT X
  rcases hr T hT X with ⟨v, st₀, t, T', L, h0, X', hL, e1, e2, ⟨⟨r, u, hv, hp, hb⟩, hF⟩, st⟩ | ⟨q, st₀, t, T', L, E, ce, h0, X', hL, e1, e2, ⟨u, hp, hb, hF⟩, hce, hcv, hcl, st⟩
  · cases hv
    obtain ⟨k1, k2, k3⟩ := vx_keep h0 e1 hS hA hf hL hF
    obtain ⟨t2, a1, b1⟩ := kk r u t T'.heap (locs ++ L) e1.symm (by rw [← e2]; exact X'.warmed.alike) hp hb k1 k2 k3 T' rfl X'
    exact ⟨t2, st t2 a1, b1⟩
  · obtain ⟨k1, k2, k3⟩ := vx_keep h0 e1 hS hAX hf hL hF
    obtain ⟨t2, a1, b1⟩ := kx E ce q u t T'.heap (locs ++ L) e1.symm (by rw [← e2]; exact X'.warmed.alike) hp hb k1 k2 k3 (by rw [e1]; exact hce) hcv hcl T' rfl X'
    exact ⟨t2, st.trans a1, b1⟩
theorem vx_callf {S SX : Type} {post : UInt32 → S → Prop} {px : SX → Prop} {B : S → State → Prop} {BX : String → SX → State → Prop} {AX : Nat → Prop} (hr : vx_Run p l e R s m args below meth c H locs cells slots mc ms (F0 m pc ls st0) rest (va_Qf post B A1 a) (vx_X px BX AX) free) (hS : va_S A0 H0 H locs) (hA : ∀ q, q < H.size → A1 q → A0 q) (hf : ∀ q, free q → A0 q) (hAX : ∀ q, q < H.size → AX q → A0 q)
    (kx : ∀ (E : String) (ce : Cell) (q9 : Addr) (u : SX) (t : State) (H1 : Heap) (locs1 : List Loc), t.heap = H1 → s.vm.Alike t.vm → px u → BX E u t → H.size ≤ H1.size → (∀ q : Nat, q < H.size → ¬ AX q → H1[q]? = H[q]?) → va_S A0 H0 H1 locs1 → H1[q9]? = some ce → ce.vm = .none → s.vm.findClass E = some ce.cls → vx_W p l e R s m args below meth c H1 locs1 (cells + mc) (slots + ms) Q (F0 m pc ls rest) q9)
    (kk : ∀ (r : UInt32) (u : S) (t : State) (H1 : Heap) (locs1 : List Loc), t.heap = H1 → s.vm.Alike t.vm → post r u → B u t → H.size ≤ H1.size → (∀ q : Nat, q < H.size → ¬ A1 q → H1[q]? = H[q]?) → va_S A0 H0 H1 locs1 → W p l e R s m args below meth c H1 locs1 (cells + mc) (slots + ms) Q (F0 m (pc + 3) ls (.float r :: rest))) : W p l e R s m args below meth c H locs cells slots Q (F0 m pc ls st0) := by
  intro T hT X
  rcases hr T hT X with ⟨v, st₀, t, T', L, h0, X', hL, e1, e2, ⟨⟨r, u, hv, hp, hb⟩, hF⟩, st⟩ | ⟨q, st₀, t, T', L, E, ce, h0, X', hL, e1, e2, ⟨u, hp, hb, hF⟩, hce, hcv, hcl, st⟩
  · cases hv
    obtain ⟨k1, k2, k3⟩ := vx_keep h0 e1 hS hA hf hL hF
    obtain ⟨t2, a1, b1⟩ := kk r u t T'.heap (locs ++ L) e1.symm (by rw [← e2]; exact X'.warmed.alike) hp hb k1 k2 k3 T' rfl X'
    exact ⟨t2, st t2 a1, b1⟩
  · obtain ⟨k1, k2, k3⟩ := vx_keep h0 e1 hS hAX hf hL hF
    obtain ⟨t2, a1, b1⟩ := kx E ce q u t T'.heap (locs ++ L) e1.symm (by rw [← e2]; exact X'.warmed.alike) hp hb k1 k2 k3 (by rw [e1]; exact hce) hcv hcl T' rfl X'
    exact ⟨t2, st.trans a1, b1⟩
theorem vx_calld {S SX : Type} {post : UInt64 → S → Prop} {px : SX → Prop} {B : S → State → Prop} {BX : String → SX → State → Prop} {AX : Nat → Prop} (hr : vx_Run p l e R s m args below meth c H locs cells slots mc ms (F0 m pc ls st0) rest (va_Qd post B A1 a) (vx_X px BX AX) free) (hS : va_S A0 H0 H locs) (hA : ∀ q, q < H.size → A1 q → A0 q) (hf : ∀ q, free q → A0 q) (hAX : ∀ q, q < H.size → AX q → A0 q)
    (kx : ∀ (E : String) (ce : Cell) (q9 : Addr) (u : SX) (t : State) (H1 : Heap) (locs1 : List Loc), t.heap = H1 → s.vm.Alike t.vm → px u → BX E u t → H.size ≤ H1.size → (∀ q : Nat, q < H.size → ¬ AX q → H1[q]? = H[q]?) → va_S A0 H0 H1 locs1 → H1[q9]? = some ce → ce.vm = .none → s.vm.findClass E = some ce.cls → vx_W p l e R s m args below meth c H1 locs1 (cells + mc) (slots + ms) Q (F0 m pc ls rest) q9)
    (kk : ∀ (r : UInt64) (u : S) (t : State) (H1 : Heap) (locs1 : List Loc), t.heap = H1 → s.vm.Alike t.vm → post r u → B u t → H.size ≤ H1.size → (∀ q : Nat, q < H.size → ¬ A1 q → H1[q]? = H[q]?) → va_S A0 H0 H1 locs1 → W p l e R s m args below meth c H1 locs1 (cells + mc) (slots + ms) Q (F0 m (pc + 3) ls (.double r :: rest))) : W p l e R s m args below meth c H locs cells slots Q (F0 m pc ls st0) := by
  intro T hT X
  rcases hr T hT X with ⟨v, st₀, t, T', L, h0, X', hL, e1, e2, ⟨⟨r, u, hv, hp, hb⟩, hF⟩, st⟩ | ⟨q, st₀, t, T', L, E, ce, h0, X', hL, e1, e2, ⟨u, hp, hb, hF⟩, hce, hcv, hcl, st⟩
  · cases hv
    obtain ⟨k1, k2, k3⟩ := vx_keep h0 e1 hS hA hf hL hF
    obtain ⟨t2, a1, b1⟩ := kk r u t T'.heap (locs ++ L) e1.symm (by rw [← e2]; exact X'.warmed.alike) hp hb k1 k2 k3 T' rfl X'
    exact ⟨t2, st t2 a1, b1⟩
  · obtain ⟨k1, k2, k3⟩ := vx_keep h0 e1 hS hAX hf hL hF
    obtain ⟨t2, a1, b1⟩ := kx E ce q u t T'.heap (locs ++ L) e1.symm (by rw [← e2]; exact X'.warmed.alike) hp hb k1 k2 k3 (by rw [e1]; exact hce) hcv hcl T' rfl X'
    exact ⟨t2, st.trans a1, b1⟩
theorem vx_callv {S SX : Type} {post : S → Prop} {px : SX → Prop} {B : S → State → Prop} {BX : String → SX → State → Prop} {AX : Nat → Prop} (hr : vx_Run p l e R s m args below meth c H locs cells slots mc ms (F0 m pc ls st0) rest (va_Qv post B A1 a) (vx_X px BX AX) free) (hS : va_S A0 H0 H locs) (hA : ∀ q, q < H.size → A1 q → A0 q) (hf : ∀ q, free q → A0 q) (hAX : ∀ q, q < H.size → AX q → A0 q)
    (kx : ∀ (E : String) (ce : Cell) (q9 : Addr) (u : SX) (t : State) (H1 : Heap) (locs1 : List Loc), t.heap = H1 → s.vm.Alike t.vm → px u → BX E u t → H.size ≤ H1.size → (∀ q : Nat, q < H.size → ¬ AX q → H1[q]? = H[q]?) → va_S A0 H0 H1 locs1 → H1[q9]? = some ce → ce.vm = .none → s.vm.findClass E = some ce.cls → vx_W p l e R s m args below meth c H1 locs1 (cells + mc) (slots + ms) Q (F0 m pc ls rest) q9)
    (kk : ∀ (u : S) (t : State) (H1 : Heap) (locs1 : List Loc), t.heap = H1 → s.vm.Alike t.vm → post u → B u t → H.size ≤ H1.size → (∀ q : Nat, q < H.size → ¬ A1 q → H1[q]? = H[q]?) → va_S A0 H0 H1 locs1 → W p l e R s m args below meth c H1 locs1 (cells + mc) (slots + ms) Q (F0 m (pc + 3) ls (rest))) : W p l e R s m args below meth c H locs cells slots Q (F0 m pc ls st0) := by
  intro T hT X
  rcases hr T hT X with ⟨v, st₀, t, T', L, h0, X', hL, e1, e2, ⟨⟨u, hv, hp, hb⟩, hF⟩, st⟩ | ⟨q, st₀, t, T', L, E, ce, h0, X', hL, e1, e2, ⟨u, hp, hb, hF⟩, hce, hcv, hcl, st⟩
  · cases hv
    obtain ⟨k1, k2, k3⟩ := vx_keep h0 e1 hS hA hf hL hF
    obtain ⟨t2, a1, b1⟩ := kk u t T'.heap (locs ++ L) e1.symm (by rw [← e2]; exact X'.warmed.alike) hp hb k1 k2 k3 T' rfl X'
    exact ⟨t2, st t2 a1, b1⟩
  · obtain ⟨k1, k2, k3⟩ := vx_keep h0 e1 hS hAX hf hL hF
    obtain ⟨t2, a1, b1⟩ := kx E ce q u t T'.heap (locs ++ L) e1.symm (by rw [← e2]; exact X'.warmed.alike) hp hb k1 k2 k3 (by rw [e1]; exact hce) hcv hcl T' rfl X'
    exact ⟨t2, st.trans a1, b1⟩
/-- caught by the row x of this method's table; the rows ahead don't take it -/
theorem vx_catch {own name : String} {E : String} {ce : Cell} {q : Addr} (hown : s.vm.findClass own = some m.cls) (pre : List ExceptionTableEntry) (x : ExceptionTableEntry) (suf : List ExceptionTableEntry) (hsplit : c.exceptionTable.toList = pre ++ x :: suf)
    (hpass : ∀ z ∈ pre, covers z pc = false ∨ (z.catchType ≠ 0 ∧ ∃ nm : String, (Cond.classLink own z.catchType nm).before args s = true ∧ va_Nc E nm s)) (hx : covers x pc = true) (h0 : x.catchType ≠ 0)
    (hlink : (Cond.classLink own x.catchType name).before args s = true) (hcast : (Cond.castable E name).before args s = true) (hcell : H[q]? = some ce) (hv : ce.vm = .none) (hcl : s.vm.findClass E = some ce.cls)
    (kk : W p l e R s m args below meth c H locs cells slots Q (F0 m x.handlerPc ls [.ref q])) : vx_W p l e R s m args below meth c H locs cells slots Q (F0 m pc ls rest) q := by
  intro T hT X
  have hpl : e.platform.magicAccessors = ({} : Platform).magicAccessors := by rw [X.admits.platform]
  obtain ⟨c3, c4, hc3, hc4, hasg⟩ := Cond.castable_spec hcast
  cases Option.some.inj (hc3.symm.trans hcl)
  obtain ⟨c5, hc5, hcl5⟩ := Cond.classLink_spec hown hlink e.platform hpl
  cases Option.some.inj (hc4.symm.trans hc5)
  obtain ⟨vm', X', st⟩ := X.thenCaughtThrough q (g := F0 m pc ls rest) rfl (Steps.refl _) (by rw [hT]; exact hcell) (by rw [hv]; rfl) (by obtain ⟨k9, h9, -⟩ := Vm.findClass_spec hcl; exact ⟨k9, h9⟩) pre x suf hsplit
    (fun z hz => by
      rcases hpass z hz with h | ⟨hz0, nm, hl1, hn1⟩
      · exact Or.inl h
      · obtain ⟨c6, hc6, hcl6⟩ := Cond.classLink_spec hown hl1 e.platform hpl
        obtain ⟨a8, b8, h1, h2, h3⟩ := hn1
        cases Option.some.inj (h1.symm.trans hcl)
        cases Option.some.inj (h2.symm.trans hc6)
        exact Or.inr ⟨hz0, _, hcl6, h3⟩) hx (Or.inr ⟨h0, c4, hcl5, hasg⟩)
  obtain ⟨t, a1, b1⟩ := kk (T.setVm vm') hT X'
  exact ⟨t, st.trans a1, b1⟩
end Rows
section Ends
variable {p : Program} {l : Launch} {e : Env} {R : Room} {s : State} {m : MethodId} {args : Array Value} {below : List Frame} {meth : Method} {c : Code} {H : Heap} {locs : List Loc} {cells slots : Nat} {Q : State → Prop}
variable {mc ms : Nat} {free : Addr → Prop} {A0 A1 : Nat → Prop} {H0 : Heap} {a : Array Value} {ls : Array Slot} {st0 rest : List Value}
variable {Qc : Array Value → State → Outcome → State → Prop} {XC : String → State → State → Prop}
/-- what a body that may throw owes at its end -/
def vx_MQ (below : List Frame) (Qc : Array Value → State → Outcome → State → Prop) (XC : String → State → State → Prop) (a : Array Value) (s : State) (mc ms : Nat) (free : Addr → Prop) : State → Prop := fun t =>
  ∃ o, t.status = .running ∧ Ended t below o ∧ vx_Q Qc XC mc ms free a s o t
theorem vx_ret {g : JFrame} {mc ms : Nat} (k : W p l e R s m args below meth c H locs cells slots (MQ below Qc args s mc ms free) g) : W p l e R s m args below meth c H locs cells slots (vx_MQ below Qc XC args s mc ms free) g := by
  intro T hT X
  obtain ⟨t, a1, o, b1, b2, b3, b4⟩ := k T hT X
  exact ⟨t, a1, o, b1, b2, Or.inl ⟨b3, b4⟩⟩
/-- not caught here: it goes on to the caller -/
theorem vx_widen {g : JFrame} {q : Addr} {k n : Nat} (h1 : cells ≤ k) (h2 : slots ≤ n) (kk : vx_W p l e R s m args below meth c H locs k n Q g q) : vx_W p l e R s m args below meth c H locs cells slots Q g q := fun T hT X => kk T hT (stand_widen X h1 h2)
theorem vx_out {pc : Nat} {E : String} {ce : Cell} {q : Addr} {mc ms : Nat} (hout : ∀ x ∈ c.exceptionTable.toList, covers x pc = false) (hlocks : meth.locks = false) (hcell : H[q]? = some ce) (hv : ce.vm = .none) (hcl : s.vm.findClass E = some ce.cls)
    (hx : ∀ t : State, t.heap = H → s.vm.Alike t.vm → XC E s t) (hf : ∀ z ∈ locs, free z.base) (hc : cells ≤ mc) (hs : slots ≤ ms) :
    vx_W p l e R s m args below meth c H locs cells slots (vx_MQ below Qc XC args s mc ms free) (F0 m pc ls rest) q := by
  intro T hT X
  obtain ⟨st1, hrun, hend, hW, hsm⟩ := X.leaveThrown q (g := F0 m pc ls rest) rfl rfl rfl hout hlocks
  have hcell9 : (T.setFrames (.throwing q :: below)).heap[q]? = some ce := by
    show T.heap[q]? = some ce
    rw [hT]; exact hcell
  exact ⟨_, st1, .threw q, hrun, hend, Or.inr ⟨q, rfl, E, ce, locs, hx _ hT hW.alike, hcell9, hv, hcl, hW, hsm.mono hc hs, hf⟩⟩
theorem vx_frame {U : State} {k n : Nat} (h : s.sameButNew ({ U with vm := s.vm } : State) locs k n) : s.heap.size ≤ U.heap.size ∧ ∀ q : Nat, q < s.heap.size → (∀ z ∈ locs, z.base ≠ q) → U.heap[q]? = s.heap[q]? := by
  obtain ⟨-, h2, -, -, -, h6⟩ := h
  refine ⟨h2, fun q hq hz => ?_⟩
  obtain ⟨c9, e1, e2, e3, e4⟩ := h6 q _ (Array.getElem?_eq_getElem hq)
  have hs : c9.slots = (s.heap[q]).slots := Array.ext_getElem? fun i => e4 i fun hm => hz _ hm rfl
  have h9 : c9 = s.heap[q] := by
    rw [hs] at e2
    exact e2
  have e5 : U.heap[q]? = some c9 := e1
  rw [e5, h9, Array.getElem?_eq_getElem hq]
/-- the words of a throw but the four that speak of the heap -/
def vx_no (w : Cond) : Bool := decide (w ≠ .isRef (.static Bundle.tN "UNASSIGNED_STACK" Bundle.steD)) && decide (w ≠ .isRef (.static Bundle.tN "SUPPRESSED_SENTINEL" Bundle.listD)) && decide (w ≠ .laysStatic Bundle.tN "UNASSIGNED_STACK" Bundle.steD) && decide (w ≠ .laysStatic Bundle.tN "SUPPRESSED_SENTINEL" Bundle.listD)
def vx_at0 (own : String) (ic : Nat) (X : String) (names : List String) : List Cond := (Bundle.ownAtoms0 own ic X names).filter vx_no
def vx_atS (own : String) (ic : Nat) (X : String) (names : List String) : List Cond := (Bundle.ownAtoms own ic X names).filter vx_no
/-- a word that the tables alone decide, or a good one -/
def vx_ot (w : Cond) : Bool := w.onTables || goodWord w
theorem vx_ot_at {args a' : Array Value} {s U : State} {w : Cond} (hW : s.WarmedH U.vm) (hvm : s.vm = U.vm) (hg : vx_ot w = true) (h : w.before args s = true) : w.before a' U = true := by
  simp only [vx_ot, Bool.or_eq_true] at hg
  rcases hg with hg | hg
  · exact va_tabs hg hvm h
  · exact word_at hW (good_of_word hg) h
/-- a list's words: the good ones out of the method's own list, the others by premises of their own -/
theorem vx_hat {args : Array Value} {s : State} {L B : List Cond} (h1 : ∀ w ∈ L.filter goodWord, w.before args s = true) (h2 : ∀ w ∈ L.filter (fun w => !goodWord w), w ∈ B) (h3 : ∀ w ∈ B, w.before args s = true) : ∀ w ∈ L, w.before args s = true := by
  intro w hw
  by_cases g : goodWord w = true
  · exact h1 w (List.mem_filter.mpr ⟨hw, g⟩)
  · refine h3 w (h2 w (List.mem_filter.mpr ⟨hw, ?_⟩))
    show (!goodWord w) = true
    cases hgw : goodWord w
    · rfl
    · exact absurd hgw g
theorem vx_c {args : Array Value} {s : State} {w : Cond} {B : List Cond} (h : w.before args s = true) (t : ∀ w ∈ B, w.before args s = true) : ∀ w' ∈ w :: B, w'.before args s = true := fun w' h' => (List.mem_cons.mp h').elim (fun e => by rw [e]; exact h) (t w')
theorem vx_n {args : Array Value} {s : State} : ∀ w ∈ ([] : List Cond), w.before args s = true := fun _ h => nomatch h
theorem vx_own {args : Array Value} {s : State} {L : List Cond} (h1 : ∀ w ∈ L.filter vx_no, w.before args s = true)
    (hU : (Cond.isRef (.static Bundle.tN "UNASSIGNED_STACK" Bundle.steD)).before args s = true) (hN : (Cond.isRef (.static Bundle.tN "SUPPRESSED_SENTINEL" Bundle.listD)).before args s = true)
    (lU : (Cond.laysStatic Bundle.tN "UNASSIGNED_STACK" Bundle.steD).before args s = true) (lN : (Cond.laysStatic Bundle.tN "SUPPRESSED_SENTINEL" Bundle.listD).before args s = true) : ∀ w ∈ L, w.before args s = true := by
  intro w hw
  by_cases e1 : w = .isRef (.static Bundle.tN "UNASSIGNED_STACK" Bundle.steD)
  · rw [e1]; exact hU
  · by_cases e2 : w = .isRef (.static Bundle.tN "SUPPRESSED_SENTINEL" Bundle.listD)
    · rw [e2]; exact hN
    · by_cases e3 : w = .laysStatic Bundle.tN "UNASSIGNED_STACK" Bundle.steD
      · rw [e3]; exact lU
      · by_cases e4 : w = .laysStatic Bundle.tN "SUPPRESSED_SENTINEL" Bundle.listD
        · rw [e4]; exact lN
        · exact h1 w (List.mem_filter.mpr ⟨hw, by unfold vx_no; rw [decide_eq_true e1, decide_eq_true e2, decide_eq_true e3, decide_eq_true e4]; rfl⟩)
/-- where a static field lies, its class's statics cell in H -/
def vx_L (C n d : String) (A : Nat → Prop) (U : State) (H : Heap) : Prop := ∃ (c : ClassId) (k : Class) (i : Nat) (f : Field) (a : Nat) (cell : Cell), U.vm.findClass C = some c ∧ U.fieldFound? C n d = some (c, k, i, f) ∧ f.isStatic = true ∧ k.statics = some a ∧ H[a]? = some cell ∧ cell.vm.isStatics = true ∧ cell.cls = c ∧ f.slot < cell.slots.size ∧ k.staticTypes[f.slot]? = some f.type ∧ ¬ A a
theorem vx_L.moved {C n d : String} {A : Nat → Prop} {u U : State} {H : Heap} (hvm : u.vm.Alike U.vm) (h : vx_L C n d A u H) : vx_L C n d A U H := by
  obtain ⟨c, k, i, f, a, cell, h1, h2, h3, h4, h5, h6, h7, h8, h9, h10⟩ := h
  obtain ⟨k', hi', he⟩ := State.fieldFound?_setVm hvm h2
  exact ⟨c, k', i, f, a, cell, by rw [hvm.findClass]; exact h1, hi', h3, by rw [he]; exact h4, h5, h6, h7, h8, by rw [he]; exact h9, h10⟩
theorem vx_L.kept {C n d : String} {A : Nat → Prop} {U : State} {H H1 : Heap} (h : vx_L C n d A U H) (hq : ∀ a : Nat, a < H.size → ¬ A a → H1[a]? = H[a]?) : vx_L C n d A U H1 := by
  obtain ⟨c, k, i, f, a, cell, h1, h2, h3, h4, h5, h6, h7, h8, h9, h10⟩ := h
  exact ⟨c, k, i, f, a, cell, h1, h2, h3, h4, by rw [hq a (Array.getElem?_eq_some_iff.mp h5).1 h10]; exact h5, h6, h7, h8, h9, h10⟩
theorem vx_L.narrow {C n d : String} {A B : Nat → Prop} {U : State} {H : Heap} (h : vx_L C n d A U H) (hAB : ∀ q, B q → A q) : vx_L C n d B U H := by
  obtain ⟨c, k, i, f, a, cell, h1, h2, h3, h4, h5, h6, h7, h8, h9, h10⟩ := h
  exact ⟨c, k, i, f, a, cell, h1, h2, h3, h4, h5, h6, h7, h8, h9, fun z => h10 (hAB _ z)⟩
theorem vx_L.word {C n d : String} {A : Nat → Prop} {s : State} {args : Array Value} (h : vx_L C n d A s s.heap) : (Cond.laysStatic C n d).before args s = true := by
  obtain ⟨c, k, i, f, a, cell, h1, h2, h3, h4, h5, h6, h7, h8, h9, -⟩ := h
  show (Cond.laysStatic C n d).holds args s none s [] = true
  exact Cond.laysStatic_of h1 h2 h3 h4 h5 h6 h7 h8 h9
/-- .. and what it holds: null or some reference -/
def vx_Zq (C n d : String) (A : Nat → Prop) (U : State) (H : Heap) : Prop := va_Zq C n d A U H ∧ vx_L C n d A U H
theorem vx_Zq.moved {C n d : String} {A : Nat → Prop} {u U : State} {H : Heap} (hvm : u.vm.Alike U.vm) (h : vx_Zq C n d A u H) : vx_Zq C n d A U H := ⟨va_Zq.moved hvm h.1, vx_L.moved hvm h.2⟩
theorem vx_Zq.kept {C n d : String} {A : Nat → Prop} {U : State} {H H1 : Heap} (h : vx_Zq C n d A U H) (hq : ∀ a : Nat, a < H.size → ¬ A a → H1[a]? = H[a]?) : vx_Zq C n d A U H1 := ⟨va_Zq.kept h.1 hq, vx_L.kept h.2 hq⟩
theorem vx_Zq.narrow {C n d : String} {A B : Nat → Prop} {U : State} {H : Heap} (h : vx_Zq C n d A U H) (hAB : ∀ q, B q → A q) : vx_Zq C n d B U H := ⟨va_Zq.narrow h.1 hAB, vx_L.narrow h.2 hAB⟩
theorem vx_Zqof {args : Array Value} {s : State} {C n d : String} {A : Nat → Prop} (hl : (Cond.laysStatic C n d).before args s = true) (hini : (Cond.initialized C).before args s = true) (h : (Cond.isRef (.static C n d)).before args s = true) (hA : ∀ a : Nat, a < s.heap.size → ¬ A a) : vx_Zq C n d A s s.heap := by
  refine ⟨va_Zqof hl hini h hA, ?_⟩
  obtain ⟨c, k, i, f, a, cell, h1, h2, h3, h4, h5, h6, h7, h8, h9⟩ := Cond.laysStatic_spec hl
  exact ⟨c, k, i, f, a, cell, h1, h2, h3, h4, h5, h6, h7, h8, h9, hA a (Array.getElem?_eq_some_iff.mp h5).1⟩
theorem vx_isRef {C n d : String} {v : Value} {A : Nat → Prop} {s : State} {args : Array Value} (h : va_Z C n d v A s s.heap) (hv : v.isRef = true) : (Cond.isRef (.static C n d)).before args s = true := by
  obtain ⟨cf, kf, fi, f, a, cell, h1, h2, h3, h4, h5, h6, h7, -⟩ := h
  have he : (Term.static C n d).eval args s none [] s = some v := by
    simp [Term.eval, State.fieldNamed?, h1, h2, h4, h5, h6, h7]
  simp only [Cond.before, Cond.holds, Cond.value, he]
  cases v <;> simp_all [Value.isRef]
theorem vx_isRefq {C n d : String} {A : Nat → Prop} {s : State} {args : Array Value} (h : va_Zq C n d A s s.heap) : (Cond.isRef (.static C n d)).before args s = true := by
  rcases h with h | ⟨t, h⟩
  · exact vx_isRef h rfl
  · exact vx_isRef h rfl
/-- the same frame, seen from here: as if the method were called anew in this heap -/
theorem vx_rebase {T : State} (X : Stand p l e R s m args below meth c T locs cells slots) {R' : Room} (hf : R'.frames ≤ R.frames) (hl : R'.locals ≤ R.locals) (hc : cells + R'.cells ≤ R.cells) (hs : slots + R'.slots ≤ R.slots) :
    Stand p l e R' ((T.setVm s.vm).setFrames (.invoking m args :: below)) m args below meth c T [] 0 0 := by
  have htop : (T.setVm s.vm).topJava?.isSome := X.here.top
  have hF : ((T.setVm s.vm).setFrames (.invoking m args :: below)).frames = .invoking m args :: below := State.frames_setFrames _ (State.cur_lt_of_top htop)
  obtain ⟨g₀, hg0⟩ := Option.isSome_iff_exists.mp htop
  obtain ⟨r, hr⟩ := State.topJava?_eq_some.mp hg0
  have hl9 : e.platform.stackLimits (T.setVm s.vm).me = e.platform.stackLimits s.me := X.limits
  have hb9 : (T.setVm s.vm).me.stackBytes = s.me.stackBytes := X.bytes
  refine ⟨X.admits, X.cas, X.clock, hF, ?_, X.hears, X.method, X.code, X.here, X.tail, X.warmed, ?_, ?_, ?_⟩
  · have h := X.room
    have hU : ((T.setVm s.vm).setFrames (.invoking m args :: below)).localsInUse = s.localsInUse := by
      rw [State.localsInUse_invoking hF (meth := meth) (c := c) X.method X.code, State.localsInUse_invoking X.frames X.method X.code]
    simp only [State.hasRoom, Bool.and_eq_true, decide_eq_true_eq] at h ⊢
    obtain ⟨⟨⟨⟨h1, h2, h3, h4, h5, h6⟩, h7⟩, h8⟩, h9⟩ := h
    rw [X.frames, List.length_cons] at h2 h3
    have q1 := X.heapSize
    have q2 := X.used
    simp only [hF, hU, List.length_cons, State.stackLimits_setFrames, State.stackBytes_setFrames, hl9, hb9]
    refine ⟨⟨⟨⟨by omega, by omega, by omega, by omega, by omega, h6⟩, ?_⟩, ?_⟩, X.book⟩
    · show T.heap.size + R'.cells ≤ e.platform.maxCells
      omega
    · show T.slotsUsed + R'.slots ≤ e.platform.maxSlots
      omega
  · rw [State.stackLimits_setFrames]; rfl
  · rw [State.stackBytes_setFrames]; rfl
  · refine ⟨?_, Nat.le_refl _, Nat.le_refl _, ?_, ?_, fun a c9 h9 => ⟨c9, h9, rfl, rfl, fun _ _ => rfl⟩⟩
    · obtain ⟨t, ht, -⟩ := State.frames_cons hr
      show T.setVm s.vm = { ((T.setVm s.vm).setFrames (.invoking m args :: below)).setFrames (T.setVm s.vm).frames with heap := T.heap, slotsUsed := T.slotsUsed }
      rw [State.setFrames_setFrames, State.setFrames_self ht]
      rfl
    · show T.slotsUsed = T.slotsUsed + ((T.heap.toList.drop T.heap.size).map (·.slots.size)).sum
      rw [List.drop_eq_nil_of_le (Nat.le_of_eq Array.length_toList)]
      rfl
    · show ((T.heap.toList.drop T.heap.size).map (·.slots.size)).sum ≤ 0
      rw [List.drop_eq_nil_of_le (Nat.le_of_eq Array.length_toList)]
      exact Nat.le_refl _
/-- 'throw new E()': new; dup; invokespecial; athrow -/
theorem vx_throw0 {cc : ByteArray} {pc : Nat} (hexec : p.tables.exec = Jvm.exec) (hb : c.code = cc) (hl : l.stackTraces = false) {own cls : String} {names : List String} {ik ic mc ms : Nat} {A : Nat → Prop}
    (hown : s.vm.findClass own = some m.cls) (hcls : Bundle.fit cls = true) (hnames : ∀ n ∈ names, Bundle.fit n = true)
    (hk : (Cond.classLink own ik cls).before args s = true) (hini : (Cond.initialized cls).before args s = true) (hat : ∀ w ∈ vx_at0 own ic cls names, w.before args s = true)
    (hgood : ∀ w ∈ Cond.classLink own ik cls :: Cond.initialized cls :: vx_at0 own ic cls names, vx_ot w = true)
    (hU : vx_Zq Bundle.tN "UNASSIGNED_STACK" Bundle.steD A s s.heap) (hN : vx_Zq Bundle.tN "SUPPRESSED_SENTINEL" Bundle.listD A s s.heap) (hS : va_S A s.heap H locs) (hsize : ls.size = c.maxLocals)
    (d0 : decode cc pc = .ok (.new ik, 3)) (d3 : decode cc (pc + 3) = .ok (.dup, 1)) (d4 : decode cc (pc + 4) = .ok (.invokespecial ic, 3)) (d7 : decode cc (pc + 7) = .ok (.athrow, 1))
    (hout : ∀ x ∈ c.exceptionTable.toList, covers x (pc + 7) = false)
    (hRframes : names.length + 3 < R.frames) (hRlocals : (rest.map fun v => v.category).sum + (13 * (names.length + 1) + 42) ≤ R.locals) (hRcells : cells + 1 ≤ R.cells) (hRslots : slots + 6 ≤ R.slots) (hlocks : meth.locks = false)
    (hx : ∀ t : State, s.vm.Alike t.vm → H.size ≤ t.heap.size → (∀ q : Nat, q < H.size → t.heap[q]? = H[q]?) → XC cls s t)
    (hf : ∀ z ∈ locs, free z.base) (hc : cells + 1 ≤ mc) (hs : slots + 6 ≤ ms) :
    W p l e R s m args below meth c H locs cells slots (vx_MQ below Qc XC args s mc ms free) (F0 m pc ls rest) := by
  intro T hT X
  have htr : e.platform.stackTraces = false := (show e.platform.stackTraces = l.stackTraces by rw [X.admits.platform]).trans hl
  have Y := vx_rebase X (R' := { frames := R.frames, locals := R.locals, cells := 1, slots := 6 }) (Nat.le_refl _) (Nat.le_refl _) hRcells hRslots
  obtain ⟨s', hA⟩ : ∃ z, z = (T.setVm s.vm).setFrames (.invoking m args :: below) := ⟨_, rfl⟩
  rw [← hA] at Y
  have hvm : s'.vm = s.vm := by rw [hA]; rfl
  have hhp : s'.heap = H := by rw [hA]; exact hT
  have hW0 : s.WarmedH s'.vm := by rw [hvm]; exact State.WarmedH.refl s
  have hat' : ∀ w ∈ vx_at0 own ic cls names, w.before args s' = true := fun w hw => vx_ot_at hW0 hvm.symm (hgood w (List.mem_cons_of_mem _ (List.mem_cons_of_mem _ hw))) (hat w hw)
  have hk' : (Cond.classLink own ik cls).before args s' = true := vx_ot_at hW0 hvm.symm (hgood _ List.mem_cons_self) hk
  have hini' : (Cond.initialized cls).before args s' = true := vx_ot_at hW0 hvm.symm (hgood _ (List.mem_cons_of_mem _ List.mem_cons_self)) hini
  have hU' : vx_Zq Bundle.tN "UNASSIGNED_STACK" Bundle.steD A s' s'.heap := by rw [hhp]; exact vx_Zq.moved hW0.alike (hU.kept hS.2.1)
  have hN' : vx_Zq Bundle.tN "SUPPRESSED_SENTINEL" Bundle.listD A s' s'.heap := by rw [hhp]; exact vx_Zq.moved hW0.alike (hN.kept hS.2.1)
  have h : ∀ w ∈ Bundle.ownAtoms0 own ic cls names, w.before args s' = true := vx_own hat' (vx_isRefq hU'.1) (vx_isRefq hN'.1) hU'.2.word hN'.2.word
  have hown' : s'.vm.findClass own = some m.cls := by rw [hvm]; exact hown
  have hins : (Cond.instantiable cls 6).before args s' = true := h _ (by simp [Bundle.ownAtoms0])
  obtain ⟨vm₁, cX, kX, hfX, hkX, -, -, X₁, st1⟩ := Y.newCold hexec (own := own) (C := cls) (index := ik) (n := 6) hown' hk' hins hini'
    (g := F0 m pc ls rest) rfl (by rw [hb]; exact d0) (Nat.le_refl _) (Nat.le_refl _)
  generalize hT1 : (T.setVm vm₁).pushCell { cls := cX, slots := kX.instanceTypes.map defaultValue, vm := .none } = T1 at X₁ st1
  have hcat : (Value.ref T.heap.size).category = 1 := rfl
  have hcellA : T1.heap[T.heap.size]? = some (freshCell cX kX) := by rw [← hT1]; exact State.heap_pushCell_size _ _
  have d3' : decode c.code (pc + 3) = .ok (.dup, 1) := by rw [hb]; exact d3
  obtain ⟨U, hsteps, hrun, hend, hW, hsame, ce, hce, hO⟩ := X₁.ctorThrow0 hexec htr (own := own) (cls := cls) (names := names) (ic := ic) hown' hcls hnames h (fun x hx => nomatch hx) hfX hkX hcellA (by rw [hhp, hT]; exact Nat.le_refl _)
    (g := { method := m, pc := pc + 4, locals := ls, stack := .ref T.heap.size :: .ref T.heap.size :: rest, locked := none }) rfl hsize rfl rfl (rest := rest) rfl
    (by rw [hb]; exact d4) (by rw [hb]; exact d7) hout hRframes (by simp only [List.map_cons, List.sum_cons, hcat]; omega) hlocks
  obtain ⟨f1, f2⟩ := vx_frame hsame
  rw [hhp] at f1 f2
  have hWs : s.WarmedH U.vm := State.WarmedH.trans hW0 hW
  have hcl : s.vm.findClass cls = some ce.cls := by
    have h9 := hO.cls
    rw [hvm] at h9
    exact h9
  have hall : s.sameButNew ({ U with vm := s.vm } : State) locs mc ms := by
    subst hA
    obtain ⟨e1, e2⟩ := hsame
    rw [State.setFrames_setFrames] at e1
    have h2 : (T.setVm s.vm).sameButNew ({ U with vm := s.vm } : State) [] (0 + 1) (0 + 6) := ⟨e1, e2⟩
    have h3 := X.same.trans h2
    rw [List.append_nil] at h3
    exact h3.mono hc hs
  refine ⟨U, ?_, .threw T.heap.size, hrun, hend, Or.inr ⟨T.heap.size, rfl, cls, ce, locs, hx U hWs.alike f1 (fun q hq => f2 q hq (fun z hz => nomatch hz)), hce, hO.vm, hcl, hWs, hall, hf⟩⟩
  refine st1 _ ?_
  show Steps p.tables e below (T1.setTop { method := m, pc := pc + 3, locals := ls, stack := .ref T.heap.size :: rest, locked := none }) _
  jvm_step X₁.here [X₁.here.top, hexec, d3', Value.category]
  exact hsteps
/-- 'throw new E("text")': new; dup; ldc; invokespecial; athrow -/
theorem vx_throwS {cc : ByteArray} {pc : Nat} (hexec : p.tables.exec = Jvm.exec) (hb : c.code = cc) (hl : l.stackTraces = false) {own cls text : String} {names : List String} {ik is ic mc ms sa : Nat} {A : Nat → Prop}
    (hown : s.vm.findClass own = some m.cls) (hcls : Bundle.fit cls = true) (hnames : ∀ n ∈ names, Bundle.fit n = true)
    (hk : (Cond.classLink own ik cls).before args s = true) (hini : (Cond.initialized cls).before args s = true) (hstr : vk_R own is text sa s) (hat : ∀ w ∈ vx_atS own ic cls names, w.before args s = true)
    (hgood : ∀ w ∈ Cond.classLink own ik cls :: Cond.initialized cls :: vx_atS own ic cls names, vx_ot w = true)
    (hU : vx_Zq Bundle.tN "UNASSIGNED_STACK" Bundle.steD A s s.heap) (hN : vx_Zq Bundle.tN "SUPPRESSED_SENTINEL" Bundle.listD A s s.heap) (hS : va_S A s.heap H locs) (hsize : ls.size = c.maxLocals)
    (d0 : decode cc pc = .ok (.new ik, 3)) (d3 : decode cc (pc + 3) = .ok (.dup, 1)) (d4 : decode cc (pc + 4) = .ok (.ldc is, 2)) (d6 : decode cc (pc + 6) = .ok (.invokespecial ic, 3)) (d9 : decode cc (pc + 9) = .ok (.athrow, 1))
    (hout : ∀ x ∈ c.exceptionTable.toList, covers x (pc + 9) = false)
    (hRframes : names.length + 3 < R.frames) (hRlocals : (rest.map fun v => v.category).sum + (13 * (names.length + 1) + 43) ≤ R.locals) (hRcells : cells + 1 ≤ R.cells) (hRslots : slots + 6 ≤ R.slots) (hlocks : meth.locks = false)
    (hx : ∀ t : State, s.vm.Alike t.vm → H.size ≤ t.heap.size → (∀ q : Nat, q < H.size → t.heap[q]? = H[q]?) → XC cls s t)
    (hf : ∀ z ∈ locs, free z.base) (hc : cells + 1 ≤ mc) (hs : slots + 6 ≤ ms) :
    W p l e R s m args below meth c H locs cells slots (vx_MQ below Qc XC args s mc ms free) (F0 m pc ls rest) := by
  intro T hT X
  have htr : e.platform.stackTraces = false := (show e.platform.stackTraces = l.stackTraces by rw [X.admits.platform]).trans hl
  have Y := vx_rebase X (R' := { frames := R.frames, locals := R.locals, cells := 1, slots := 6 }) (Nat.le_refl _) (Nat.le_refl _) hRcells hRslots
  obtain ⟨s', hA⟩ : ∃ z, z = (T.setVm s.vm).setFrames (.invoking m args :: below) := ⟨_, rfl⟩
  rw [← hA] at Y
  have hvm : s'.vm = s.vm := by rw [hA]; rfl
  have hhp : s'.heap = H := by rw [hA]; exact hT
  have hW0 : s.WarmedH s'.vm := by rw [hvm]; exact State.WarmedH.refl s
  have hat' : ∀ w ∈ vx_atS own ic cls names, w.before args s' = true := fun w hw => vx_ot_at hW0 hvm.symm (hgood w (List.mem_cons_of_mem _ (List.mem_cons_of_mem _ hw))) (hat w hw)
  have hk' : (Cond.classLink own ik cls).before args s' = true := vx_ot_at hW0 hvm.symm (hgood _ List.mem_cons_self) hk
  have hini' : (Cond.initialized cls).before args s' = true := vx_ot_at hW0 hvm.symm (hgood _ (List.mem_cons_of_mem _ List.mem_cons_self)) hini
  have hU' : vx_Zq Bundle.tN "UNASSIGNED_STACK" Bundle.steD A s' s'.heap := by rw [hhp]; exact vx_Zq.moved hW0.alike (hU.kept hS.2.1)
  have hN' : vx_Zq Bundle.tN "SUPPRESSED_SENTINEL" Bundle.listD A s' s'.heap := by rw [hhp]; exact vx_Zq.moved hW0.alike (hN.kept hS.2.1)
  have h : ∀ w ∈ Bundle.ownAtoms own ic cls names, w.before args s' = true := vx_own hat' (vx_isRefq hU'.1) (vx_isRefq hN'.1) hU'.2.word hN'.2.word
  have hown' : s'.vm.findClass own = some m.cls := by rw [hvm]; exact hown
  have hins : (Cond.instantiable cls 6).before args s' = true := h _ (by simp [Bundle.ownAtoms])
  obtain ⟨vm₁, cX, kX, hfX, hkX, -, -, X₁, st1⟩ := Y.newCold hexec (own := own) (C := cls) (index := ik) (n := 6) hown' hk' hins hini'
    (g := F0 m pc ls rest) rfl (by rw [hb]; exact d0) (Nat.le_refl _) (Nat.le_refl _)
  generalize hT1 : (T.setVm vm₁).pushCell { cls := cX, slots := kX.instanceTypes.map defaultValue, vm := .none } = T1 at X₁ st1
  have hcat : (Value.ref T.heap.size).category = 1 := rfl
  have hcellA : T1.heap[T.heap.size]? = some (freshCell cX kX) := by rw [← hT1]; exact State.heap_pushCell_size _ _
  have d3' : decode c.code (pc + 3) = .ok (.dup, 1) := by rw [hb]; exact d3
  have d4' : decode c.code (pc + 4) = .ok (.ldc is, 2) := by rw [hb]; exact d4
  have hstr' : vk_R own is text sa s' := vk_R.warm hW0 hstr
  obtain ⟨U, hsteps, hrun, hend, hW, hsame, ce, hce, hO⟩ := X₁.ctorThrowS hexec htr (own := own) (cls := cls) (names := names) (ic := ic) hown' hcls hnames h (fun x hx => nomatch hx) hfX hkX hcellA (by rw [hhp, hT]; exact Nat.le_refl _) (msg := .ref sa) rfl
    (g := { method := m, pc := pc + 6, locals := ls, stack := .ref sa :: .ref T.heap.size :: .ref T.heap.size :: rest, locked := none }) rfl hsize rfl rfl (rest := rest) rfl
    (by rw [hb]; exact d6) (by rw [hb]; exact d9) hout hRframes (by simp only [List.map_cons, List.sum_cons, hcat]; omega) hlocks
  obtain ⟨f1, f2⟩ := vx_frame hsame
  rw [hhp] at f1 f2
  have hWs : s.WarmedH U.vm := State.WarmedH.trans hW0 hW
  have hcl : s.vm.findClass cls = some ce.cls := by
    have h9 := hO.cls
    rw [hvm] at h9
    exact h9
  have hall : s.sameButNew ({ U with vm := s.vm } : State) locs mc ms := by
    subst hA
    obtain ⟨e1, e2⟩ := hsame
    rw [State.setFrames_setFrames] at e1
    have h2 : (T.setVm s.vm).sameButNew ({ U with vm := s.vm } : State) [] (0 + 1) (0 + 6) := ⟨e1, e2⟩
    have h3 := X.same.trans h2
    rw [List.append_nil] at h3
    exact h3.mono hc hs
  refine ⟨U, ?_, .threw T.heap.size, hrun, hend, Or.inr ⟨T.heap.size, rfl, cls, ce, locs, hx U hWs.alike f1 (fun q hq => f2 q hq (fun z hz => nomatch hz)), hce, hO.vm, hcl, hWs, hall, hf⟩⟩
  refine st1 _ ?_
  show Steps p.tables e below (T1.setTop { method := m, pc := pc + 3, locals := ls, stack := .ref T.heap.size :: rest, locked := none }) _
  jvm_step X₁.here [X₁.here.top, hexec, d3', Value.category]
  exact X₁.ldcString hexec (own := own) (text := text) (index := is) (a := sa) hown' hstr'.1 hstr'.2
    (g := { method := m, pc := pc + 4, locals := ls, stack := .ref T.heap.size :: .ref T.heap.size :: rest, locked := none }) rfl d4' _ hsteps
/-- 'throw new E("text")', the text by a wide index -/
theorem vx_throwSW {cc : ByteArray} {pc : Nat} (hexec : p.tables.exec = Jvm.exec) (hb : c.code = cc) (hl : l.stackTraces = false) {own cls text : String} {names : List String} {ik is ic mc ms sa : Nat} {A : Nat → Prop}
    (hown : s.vm.findClass own = some m.cls) (hcls : Bundle.fit cls = true) (hnames : ∀ n ∈ names, Bundle.fit n = true)
    (hk : (Cond.classLink own ik cls).before args s = true) (hini : (Cond.initialized cls).before args s = true) (hstr : vk_R own is text sa s) (hat : ∀ w ∈ vx_atS own ic cls names, w.before args s = true)
    (hgood : ∀ w ∈ Cond.classLink own ik cls :: Cond.initialized cls :: vx_atS own ic cls names, vx_ot w = true)
    (hU : vx_Zq Bundle.tN "UNASSIGNED_STACK" Bundle.steD A s s.heap) (hN : vx_Zq Bundle.tN "SUPPRESSED_SENTINEL" Bundle.listD A s s.heap) (hS : va_S A s.heap H locs) (hsize : ls.size = c.maxLocals)
    (d0 : decode cc pc = .ok (.new ik, 3)) (d3 : decode cc (pc + 3) = .ok (.dup, 1)) (d4 : decode cc (pc + 4) = .ok (.ldc_w is, 3)) (d7 : decode cc (pc + 7) = .ok (.invokespecial ic, 3)) (d10 : decode cc (pc + 10) = .ok (.athrow, 1))
    (hout : ∀ x ∈ c.exceptionTable.toList, covers x (pc + 10) = false)
    (hRframes : names.length + 3 < R.frames) (hRlocals : (rest.map fun v => v.category).sum + (13 * (names.length + 1) + 43) ≤ R.locals) (hRcells : cells + 1 ≤ R.cells) (hRslots : slots + 6 ≤ R.slots) (hlocks : meth.locks = false)
    (hx : ∀ t : State, s.vm.Alike t.vm → H.size ≤ t.heap.size → (∀ q : Nat, q < H.size → t.heap[q]? = H[q]?) → XC cls s t)
    (hf : ∀ z ∈ locs, free z.base) (hc : cells + 1 ≤ mc) (hs : slots + 6 ≤ ms) :
    W p l e R s m args below meth c H locs cells slots (vx_MQ below Qc XC args s mc ms free) (F0 m pc ls rest) := by
  intro T hT X
  have htr : e.platform.stackTraces = false := (show e.platform.stackTraces = l.stackTraces by rw [X.admits.platform]).trans hl
  have Y := vx_rebase X (R' := { frames := R.frames, locals := R.locals, cells := 1, slots := 6 }) (Nat.le_refl _) (Nat.le_refl _) hRcells hRslots
  obtain ⟨s', hA⟩ : ∃ z, z = (T.setVm s.vm).setFrames (.invoking m args :: below) := ⟨_, rfl⟩
  rw [← hA] at Y
  have hvm : s'.vm = s.vm := by rw [hA]; rfl
  have hhp : s'.heap = H := by rw [hA]; exact hT
  have hW0 : s.WarmedH s'.vm := by rw [hvm]; exact State.WarmedH.refl s
  have hat' : ∀ w ∈ vx_atS own ic cls names, w.before args s' = true := fun w hw => vx_ot_at hW0 hvm.symm (hgood w (List.mem_cons_of_mem _ (List.mem_cons_of_mem _ hw))) (hat w hw)
  have hk' : (Cond.classLink own ik cls).before args s' = true := vx_ot_at hW0 hvm.symm (hgood _ List.mem_cons_self) hk
  have hini' : (Cond.initialized cls).before args s' = true := vx_ot_at hW0 hvm.symm (hgood _ (List.mem_cons_of_mem _ List.mem_cons_self)) hini
  have hU' : vx_Zq Bundle.tN "UNASSIGNED_STACK" Bundle.steD A s' s'.heap := by rw [hhp]; exact vx_Zq.moved hW0.alike (hU.kept hS.2.1)
  have hN' : vx_Zq Bundle.tN "SUPPRESSED_SENTINEL" Bundle.listD A s' s'.heap := by rw [hhp]; exact vx_Zq.moved hW0.alike (hN.kept hS.2.1)
  have h : ∀ w ∈ Bundle.ownAtoms own ic cls names, w.before args s' = true := vx_own hat' (vx_isRefq hU'.1) (vx_isRefq hN'.1) hU'.2.word hN'.2.word
  have hown' : s'.vm.findClass own = some m.cls := by rw [hvm]; exact hown
  have hins : (Cond.instantiable cls 6).before args s' = true := h _ (by simp [Bundle.ownAtoms])
  obtain ⟨vm₁, cX, kX, hfX, hkX, -, -, X₁, st1⟩ := Y.newCold hexec (own := own) (C := cls) (index := ik) (n := 6) hown' hk' hins hini'
    (g := F0 m pc ls rest) rfl (by rw [hb]; exact d0) (Nat.le_refl _) (Nat.le_refl _)
  generalize hT1 : (T.setVm vm₁).pushCell { cls := cX, slots := kX.instanceTypes.map defaultValue, vm := .none } = T1 at X₁ st1
  have hcat : (Value.ref T.heap.size).category = 1 := rfl
  have hcellA : T1.heap[T.heap.size]? = some (freshCell cX kX) := by rw [← hT1]; exact State.heap_pushCell_size _ _
  have d3' : decode c.code (pc + 3) = .ok (.dup, 1) := by rw [hb]; exact d3
  have d4' : decode c.code (pc + 4) = .ok (.ldc_w is, 3) := by rw [hb]; exact d4
  have hstr' : vk_R own is text sa s' := vk_R.warm hW0 hstr
  obtain ⟨U, hsteps, hrun, hend, hW, hsame, ce, hce, hO⟩ := X₁.ctorThrowS hexec htr (own := own) (cls := cls) (names := names) (ic := ic) hown' hcls hnames h (fun x hx => nomatch hx) hfX hkX hcellA (by rw [hhp, hT]; exact Nat.le_refl _) (msg := .ref sa) rfl
    (g := { method := m, pc := pc + 7, locals := ls, stack := .ref sa :: .ref T.heap.size :: .ref T.heap.size :: rest, locked := none }) rfl hsize rfl rfl (rest := rest) rfl
    (by rw [hb]; exact d7) (by rw [hb]; exact d10) hout hRframes (by simp only [List.map_cons, List.sum_cons, hcat]; omega) hlocks
  obtain ⟨f1, f2⟩ := vx_frame hsame
  rw [hhp] at f1 f2
  have hWs : s.WarmedH U.vm := State.WarmedH.trans hW0 hW
  have hcl : s.vm.findClass cls = some ce.cls := by
    have h9 := hO.cls
    rw [hvm] at h9
    exact h9
  have hall : s.sameButNew ({ U with vm := s.vm } : State) locs mc ms := by
    subst hA
    obtain ⟨e1, e2⟩ := hsame
    rw [State.setFrames_setFrames] at e1
    have h2 : (T.setVm s.vm).sameButNew ({ U with vm := s.vm } : State) [] (0 + 1) (0 + 6) := ⟨e1, e2⟩
    have h3 := X.same.trans h2
    rw [List.append_nil] at h3
    exact h3.mono hc hs
  refine ⟨U, ?_, .threw T.heap.size, hrun, hend, Or.inr ⟨T.heap.size, rfl, cls, ce, locs, hx U hWs.alike f1 (fun q hq => f2 q hq (fun z hz => nomatch hz)), hce, hO.vm, hcl, hWs, hall, hf⟩⟩
  refine st1 _ ?_
  show Steps p.tables e below (T1.setTop { method := m, pc := pc + 3, locals := ls, stack := .ref T.heap.size :: rest, locked := none }) _
  jvm_step X₁.here [X₁.here.top, hexec, d3', Value.category]
  exact X₁.ldcStringW hexec (own := own) (text := text) (index := is) (a := sa) hown' hstr'.1 hstr'.2
    (g := { method := m, pc := pc + 4, locals := ls, stack := .ref T.heap.size :: .ref T.heap.size :: rest, locked := none }) rfl d4' _ hsteps
end Ends
section Bodies
variable {l : Launch}
theorem vx_ofW {y : MethodName} {ws ws' : List Cond} {rm : Room} {Pc : Array Value → State → Prop} {Qc : Array Value → State → Outcome → State → Prop} {XC : String → State → State → Prop} {mc ms : Nat} {free : Addr → Prop} {cc : ByteArray} {maxL : Nat} {ret : Option FieldType}
    (hy : plainName y.cls = true) (hw : ws = Cond.code y cc maxL ret :: ws')
    (body : ∀ p e s m args below meth c s₁, BodyLoose p l y (headSpec ws rm) cc maxL ret e s m args below meth c s₁ → c.maxLocals = maxL → (∀ x ∈ c.exceptionTable.toList, False) → Pc args s →
      W p l e (headSpec ws rm).room s m args below meth c s.heap [] 0 0 (vx_MQ below Qc XC args s mc ms free) (entryFrame m args maxL)) : vx_Met l y ws rm Pc Qc XC mc ms free := by
  refine MetFree.of_bodyS (code := cc) (maxLocals := maxL) (ret := ret) hy ?_ ?_
  · intro args s m h hn
    obtain ⟨meth, c, h1, h2, h3, h4, h5, h6, -, -⟩ := Cond.code_spec hn (atoms_spec (ws := ws) h _ (by rw [hw]; exact List.mem_cons_self))
    exact ⟨meth, c, h1, h2, h3, h4, h5, h6⟩
  · intro p e s m args below meth c s₁ B hml hP _
    have hh0 : s₁.heap = s.heap := by rw [B.state]; rfl
    have ht : ∀ x ∈ c.exceptionTable.toList, False := by
      obtain ⟨meth9, c9, h1, h2, -, -, -, -, h7, -⟩ := Cond.code_spec B.named (atoms_spec (ws := ws) B.pre _ (by rw [hw]; exact List.mem_cons_self))
      cases Option.some.inj (h1.symm.trans B.method)
      cases Option.some.inj (h2.symm.trans (Stand.of_body B).code)
      intro x hx
      rw [Array.isEmpty_iff.mp h7] at hx
      cases hx
    obtain ⟨t, a1, o, b1, b2, b3⟩ := body p e s m args below meth c s₁ B hml ht hP s₁ hh0 (Stand.of_body B)
    exact ⟨t, o, a1, b1, b2, b3⟩
/-- the table of a body with handlers -/
theorem vx_table {p : Program} {x y : MethodName} {S : Spec} {cc bytes : ByteArray} {maxL maxL' : Nat} {ret ret' : Option FieldType} {e : Env} {s s₁ : State} {m : MethodId} {args : Array Value} {below : List Frame} {meth : Method} {c : Code} {hh : List (Nat × Nat × Nat × Nat)}
    (B : BodyLoose p l y S cc maxL ret e s m args below meth c s₁) (h : (Cond.codeWith y bytes maxL' ret' hh).before args s = true) : c.exceptionTable.toList = tableOf hh := by
  obtain ⟨m9, meth9, c9, hn9, h1, h2, -, -, h6, -⟩ := Cond.codeWith_spec h
  cases Option.some.inj (hn9.symm.trans B.named)
  cases Option.some.inj (h1.symm.trans B.method)
  cases Option.some.inj (h2.symm.trans (Stand.of_body B).code)
  rw [← h6, table_eq]
end Bodies
end VXA
/-! ===== END ===== -/
/-! ===== BEGIN a static call of a method with an exception table ===== -/
section VXS
variable {p : Program} {l : Launch} {e : Env} {R : Room} {s : State} {m : MethodId} {args : Array Value} {below : List Frame} {meth : Method} {c : Code} {T : State} {H : Heap} {locs : List Loc} {cells slots : Nat}
abbrev vx_CSW (R : Room) (s : State) (args : Array Value) (own : String) (index : Nat) (y : MethodName) (bytes : ByteArray) (maxL : Nat) (ret : Option FieldType) (hh : List (Nat × Nat × Nat × Nat)) (ws : List Cond) (rm : Room) (mc ms n : Nat) : Prop :=
  (rm.cells = mc ∧ rm.slots = ms ∧ rm.frames + 1 ≤ R.frames ∧ 8 + (maxL + 11) + rm.locals ≤ R.locals ∧ (∀ w ∈ ws, ∀ (a' : Array Value) (U : State), s.WarmedH U.vm → w.before a' U = true) ∧ Cond.codeWith y bytes maxL ret hh ∈ ws) ∧
  (Cond.codeWith y bytes maxL ret hh).before args s = true ∧ (Cond.initialized y.cls).before args s = true ∧ (y.cls ≠ "java/lang/invoke/MethodHandle" ∧ y.cls ≠ "java/lang/invoke/VarHandle") ∧
  (∀ sig, parseMethodDescriptor y.desc = some sig → n = sig.parameters.length) ∧ (Cond.methodLink own index y).before args s = true ∧ (Cond.static y).before args s = true
theorem vx_cwSW {own : String} {index maxL mc ms : Nat} {y : MethodName} {bytes : ByteArray} {ret : Option FieldType} {hh : List (Nat × Nat × Nat × Nat)} {Ts ws ws' : List Cond} {rm : Room} (n : Nat) (ht : ∀ w ∈ Ts, w.before args s = true) (hT : GoodIn Ts (va_wsS own index y ws)) (hw : ws = Cond.codeWith y bytes maxL ret hh :: ws') (hrc : rm.cells = mc) (hrs : rm.slots = ms)
    (hd : y.cls ≠ "java/lang/invoke/MethodHandle" ∧ y.cls ≠ "java/lang/invoke/VarHandle" ∧ (parseMethodDescriptor y.desc).map (fun d => d.parameters.length) = some n) (hR : rm.frames + 1 ≤ R.frames ∧ 8 + (maxL + 11) + rm.locals ≤ R.locals) :
    vx_CSW R s args own index y bytes maxL ret hh ws rm mc ms n := by
  have ok : ∀ w ∈ va_wsS own index y ws, w.before args s = true := fun w h => ht w (hT w h).1
  have hG : GoodIn Ts ws := fun w h => hT w (by unfold va_wsS; exact List.mem_append_right _ h)
  have hc : Cond.codeWith y bytes maxL ret hh ∈ ws := by rw [hw]; exact List.mem_cons_self
  refine ⟨⟨hrc, hrs, hR.1, hR.2, pay_in ht hG, hc⟩, ht _ (hG _ hc).1, ok _ (by simp [va_wsS]), ⟨hd.1, hd.2.1⟩, fun sig h => ?_, ok _ (by simp [va_wsS]), ok _ (by simp [va_wsS])⟩
  have h2 := hd.2.2
  rw [h] at h2
  exact (Option.some.inj h2).symm
theorem vx_callSW (X : Stand p l e R s m args below meth c T locs cells slots) (hexec : p.tables.exec = Jvm.exec) {own : String} {index : Nat} {y : MethodName} {bytes : ByteArray} {maxL : Nat} {ret : Option FieldType} {hh : List (Nat × Nat × Nat × Nat)}
    (hown : s.vm.findClass own = some m.cls) (hlink : (Cond.methodLink own index y).before args s = true) (hstat : (Cond.static y).before args s = true) (hinit : (Cond.initialized y.cls).before args s = true)
    (hcode : (Cond.codeWith y bytes maxL ret hh).before args s = true) (hy : y.cls ≠ "java/lang/invoke/MethodHandle" ∧ y.cls ≠ "java/lang/invoke/VarHandle")
    {W9 : Nat} {Pre : Pt → Array Value → Prop} {Post : Pt → Array Value → Option Value → Pt → Prop} (hK : Back l R p e below s args y 3 W9 Pre Post)
    {g : JFrame} (hg : g.method = m) (hsize : g.locals.size = c.maxLocals) {argsL rest : List Value} (hlen : ∀ sig, parseMethodDescriptor y.desc = some sig → argsL.length = sig.parameters.length)
    (hstack : g.stack = argsL.reverse ++ rest) (hW : 2 * g.monitorRoom + (rest.map fun v => v.category).sum ≤ W9) (hdg : decode c.code g.pc = .ok (.invokestatic index, 3))
    (hpre : ∀ vm₁, s.WarmedH vm₁ → Pre ⟨T.setVm vm₁, locs, cells, slots⟩ argsL.toArray) :
    ∃ (v : Option Value) (vm₁ : Vm) (B : Pt), s.WarmedH vm₁ ∧ Stand p l e R s m args below meth c B.U B.locs B.cells B.slots ∧ Post ⟨T.setVm vm₁, locs, cells, slots⟩ argsL.toArray v B ∧
      ∀ target, Steps p.tables e below (B.U.setTop { g with pc := g.pc + 3, stack := v.toList ++ rest }) target → Steps p.tables e below (T.setTop g) target := by
  obtain ⟨mk, methM, cM, hnamed, hmethM, -, -, -, -, -, -, hsigM⟩ := Cond.codeWith_spec hcode
  have hstatic : methM.isStatic = true := Cond.static_spec hnamed hmethM hstat
  obtain ⟨kP, hkP, -⟩ := className_of_methodNamed hnamed
  have hinitP : kP.init = .initialized := Cond.initialized_spec (findClass_of_methodNamed hnamed) hkP hinit
  obtain ⟨vm₁, X₁, hstep₁⟩ := X.invokestatic hexec hown hlink hnamed hmethM hstatic hkP hinitP hy (g := g) hg (argsL := argsL) (rest := rest) (hlen _ hsigM) hstack hdg
  obtain ⟨v, B, X', hpost, hsteps⟩ := hK m meth c ⟨T.setVm vm₁, locs, cells, slots⟩ { g with stack := rest } (.invokestatic index) mk argsL.toArray X₁ hg hsize hdg hW (X₁.named hnamed) (hpre vm₁ X₁.warmed)
  exact ⟨v, vm₁, B, X₁.warmed, X', hpost, fun target h => hstep₁ _ fun acts => by rw [doInvoke_state]; exact hsteps.trans h⟩
theorem vx_runSW {y : MethodName} {bytes cc : ByteArray} {maxL nL mc ms n index : Nat} {ret : Option FieldType} {hh : List (Nat × Nat × Nat × Nat)} {ws : List Cond} {rm : Room} {Pc : Array Value → State → Prop} {Qc : Array Value → State → Outcome → State → Prop} {free : Addr → Prop} {Ts : List Cond} {own : String} {As rest : List Value} {g : JFrame}
    (S : CallFix p m c cc nL s args Ts own) (hM : Met l y ws rm Pc Qc mc ms free) (cw : vx_CSW R s args own index y bytes maxL ret hh ws rm mc ms n) (hp : PreS s H Pc As)
    (hg : g.method = m) (hn : As.length = n) (hsize : g.locals.size = nL) (hstack : g.stack = As.reverse ++ rest) (hW : 2 * g.monitorRoom + (rest.map fun v => v.category).sum ≤ 8) (hdg : decode cc g.pc = .ok (.invokestatic index, 3)) (hf : cells + mc ≤ R.cells ∧ slots + ms ≤ R.slots) :
    va_Run p l e R s m args below meth c H locs cells slots mc ms g rest (Qc As.toArray) (free) := by
  obtain ⟨⟨hrc, hrs, hfr, hlo, hws, hcw⟩, hcode, hini, hy, hlen, hl, hstt⟩ := cw
  have hK : Back l R p e below s args y 3 8 (PreOf R mc ms Pc) (PostOf Qc mc ms free) := va_backW (hh := hh) (bytes := bytes) (maxL := maxL) (ret := ret) hM hp.1 hrc hrs hfr hlo hws hcw (fun a' U hW => word_at hW (Or.inl (by first | rfl | simp [Cond.onTables, Cond.keeps, Cond.steady])) hini)
  obtain ⟨hx, hb, hml, ho, -⟩ := S
  intro T hT X
  obtain ⟨v, vm₁, ⟨U', l2, c2, s2⟩, hW₁, X', ⟨g', mk, t, L, e1, e2, hq, h1, hL, h2, h3⟩, st⟩ := vx_callSW X hx (hh := hh) (bytes := bytes) (maxL := maxL) (ret := ret) ho hl hstt hini hcode hy hK hg (hsize.trans hml.symm) (argsL := As) (rest := rest) (fun sig h => hn.trans (hlen sig h)) hstack hW (by rw [hb]; exact hdg)
    (fun vm₁ hW₁ => ⟨hf.1, hf.2, hp.2 (T.setVm vm₁) hT hW₁⟩)
  dsimp only [Pt.U, Pt.locs, Pt.cells, Pt.slots] at X' e1 e2 h1 h2 h3 st
  subst h1; subst h2; subst h3
  exact ⟨v, (T.setVm vm₁).calling g' mk As.toArray, t, U', L, hT, X', hL, e1, e2, hq, st⟩
/-- not caught here, past rows that name other classes: it goes on to the caller -/
theorem vx_outP {p : Program} {l : Launch} {e : Env} {R : Room} {s : State} {m : MethodId} {args : Array Value} {below : List Frame} {meth : Method} {c : Code} {H : Heap} {locs : List Loc} {cells slots : Nat} {free : Addr → Prop} {ls : Array Slot} {rest : List Value} {Qc : Array Value → State → Outcome → State → Prop} {XC : String → State → State → Prop}
    {pc : Nat} {own E : String} {ce : Cell} {q : Addr} {mc ms : Nat} (hown : s.vm.findClass own = some m.cls) (hlocks : meth.locks = false)
    (hpass : ∀ z ∈ c.exceptionTable.toList, covers z pc = false ∨ (z.catchType ≠ 0 ∧ ∃ nm : String, (Cond.classLink own z.catchType nm).before args s = true ∧ va_Nc E nm s)) (hcell : H[q]? = some ce) (hv : ce.vm = .none) (hcl : s.vm.findClass E = some ce.cls)
    (hx : ∀ t : State, t.heap = H → s.vm.Alike t.vm → XC E s t) (hf : ∀ z ∈ locs, free z.base) (hc : cells ≤ mc) (hs : slots ≤ ms) :
    vx_W p l e R s m args below meth c H locs cells slots (vx_MQ below Qc XC args s mc ms free) (F0 m pc ls rest) q := by
  intro T hT X
  have hpl : e.platform.magicAccessors = ({} : Platform).magicAccessors := by rw [X.admits.platform]
  obtain ⟨vm', hW', X', st⟩ := X.outThrough hlocks q (g := F0 m pc ls rest) rfl rfl rfl (cell := ce) (by rw [hT]; exact hcell) (by rw [hv]; rfl)
    (by obtain ⟨k9, h9, -⟩ := Vm.findClass_spec hcl; exact ⟨k9, h9⟩) (fun z hz => by
      rcases hpass z hz with h | ⟨hz0, nm, hl1, hn1⟩
      · exact Or.inl h
      · obtain ⟨c6, hc6, hcl6⟩ := Cond.classLink_spec hown hl1 e.platform hpl
        obtain ⟨a8, b8, h1, h2, h3⟩ := hn1
        cases Option.some.inj (h1.symm.trans hcl)
        cases Option.some.inj (h2.symm.trans hc6)
        exact Or.inr ⟨hz0, _, hcl6, h3⟩)
  obtain ⟨g₀, hfr⟩ := X'.frames_eq
  have hcell9 : ((T.setVm vm').setFrames (.throwing q :: below)).heap[q]? = some ce := by
    show T.heap[q]? = some ce
    rw [hT]; exact hcell
  have hend : Ended ((T.setVm vm').setFrames (.throwing q :: below)) below (.threw q) := State.frames_setFrames _ (State.cur_lt_of_frames hfr)
  refine ⟨(T.setVm vm').setFrames (.throwing q :: below), ?_, .threw q, X'.here.running, hend, Or.inr ⟨q, rfl, E, ce, locs, hx _ hT (X'.ends _).1.alike, hcell9, hv, hcl, (X'.ends _).1, (X'.ends _).2.mono hc hs, hf⟩⟩
  rw [X.pushThrowing_eq]
  exact st
/-- a thing of a world lies in the heap -/
theorem vx_lt {D : va_G} {cl : List vw_C} {ws : va_W} {H1 : Heap} (h : va_P D cl ws H1) {k : Nat} {q : Nat × va_E} (hk : ws[k]? = some q) : q.1 < H1.size := (h k q hk).lt
end VXS
/-! ===== END ===== -/
/-! ===== BEGIN methods with a table of their own: called by a name, returning or throwing ===== -/
section VXH
/-! vx_backW, vx_callVX, vx_callSX, vx_callVW, vx_runVW, vx_runVX, vx_runSX, vx_ofWH follow the same proofs as their sisters above (Free/Laws.lean, Shelf42/LK1.lean); vx_outP calls Shelf42/NT130.lean (outThrough). -/
section
variable {l : Launch} {R : Room} {p : Program} {e : Env} {below : List Frame} {s : State} {sargs : Array Value} {y : MethodName} {len W9 : Nat}
theorem vx_backW {ws : List Cond} {rm : Room} {Pc : Array Value → State → Prop} {Qc : Array Value → State → Outcome → State → Prop} {XC : String → State → State → Prop} {mc ms : Nat} {free : Addr → Prop} {bytes : ByteArray} {maxL : Nat} {ret : Option FieldType} {hh : List (Nat × Nat × Nat × Nat)}
    (hM : vx_Met l y ws rm Pc Qc XC mc ms free) (hblind : FrameBlind Pc) (hrc : rm.cells = mc) (hrs : rm.slots = ms)
    (hframes : rm.frames + 1 ≤ R.frames) (hlocals : W9 + (maxL + 11) + rm.locals ≤ R.locals)
    (hws : ∀ w ∈ ws, ∀ a' U, s.WarmedH U.vm → w.before a' U = true) (hcode : Cond.codeWith y bytes maxL ret hh ∈ ws) (hinit : ∀ a' U, s.WarmedH U.vm → (Cond.initialized y.cls).before a' U = true) :
    vx_Back l R p e below s sargs y len W9 (PreOf R mc ms Pc) (PostOf Qc mc ms free) (vx_Post XC mc ms free) := by
  intro m meth c A g ig mk a X hg hsize hdg hW hn hp
  have h1 : (headSpec ws rm).pre.before a A.U = true := atoms_intro fun w hw => hws w hw _ _ X.warmed
  have h2 : (Cond.codeWith y bytes maxL ret hh).before a A.U = true := hws _ hcode _ _ X.warmed
  have h3 : (Cond.initialized y.cls).before a A.U = true := hinit _ _ X.warmed
  have h4 : A.cells + (headSpec ws rm).room.cells ≤ R.cells := by rw [show (headSpec ws rm).room.cells = mc from hrc]; exact hp.1
  have h5 : A.slots + (headSpec ws rm).room.slots ≤ R.slots := by rw [show (headSpec ws rm).room.slots = ms from hrs]; exact hp.2.1
  have hPc : Pc a (A.U.calling g mk a) := hblind _ _ _ _ hp.2.2
  obtain ⟨U, Ls, c0, s0⟩ := A
  dsimp only [Pt.U, Pt.locs, Pt.cells, Pt.slots] at h1 h2 h3 h4 h5 X hn hPc ⊢
  obtain ⟨m9, methY, cY, hn9, hmY, hcY, -, hlY, -⟩ := Cond.codeWith_spec h2
  cases Option.some.inj (hn9.symm.trans hn)
  obtain ⟨kY, hkY, -⟩ := className_of_methodNamed hn
  have hinitY : kY.init = .initialized := Cond.initialized_spec (findClass_of_methodNamed hn) hkY h3
  have h : At U g.method c below := by rw [hg]; exact X.here
  have hlocals9 : W9 + (maxL + 11) + (headSpec ws rm).room.locals ≤ R.locals := hlocals
  have happ : (headSpec ws rm).appliesLoose y e.platform (U.calling g mk a) = true :=
    Spec.appliesLoose_calling (g := g) h hdg hn hkY hinitY
      (X.room_calling (g := g) (R' := (headSpec ws rm).room) hsize hmY hcY hframes (by rw [hlY]; omega) h4 h5) h1
  obtain ⟨mid, hmid⟩ := h.above
  have hfr : (U.setTop g).frames = (.java g :: mid) ++ below := by rw [State.frames_setTop' g h.top, hmid]; rfl
  obtain ⟨o, s₂, hsteps, -, hend, hq⟩ := Steps.callFree hM p X.admits X.cas X.clock (acts := []) hfr happ hPc trivial
  have hq' : vx_Q Qc XC mc ms free a (U.calling g mk a) o s₂ := hq
  rw [State.frames_setTop' g h.top] at hend
  obtain ⟨g₀, hg0⟩ := Option.isSome_iff_exists.mp h.top
  obtain ⟨r, hr⟩ := State.topJava?_eq_some.mp hg0
  have hr' : (({ U with heap := s₂.heap, slotsUsed := s₂.slotsUsed } : State).setVm s₂.vm).frames = .java g₀ :: r := hr
  rcases hq' with ⟨hqc, L, hfe, hL⟩ | ⟨q, rfl, E, ce, L, hx, hce, hcv, hcl, hW₂, hsm, hL⟩
  · obtain ⟨⟨v, rfl⟩, hW₂, e2, q2, q3, q4, q5, q6⟩ := id hfe
    have e3 : s₂ = ({ (U.calling g mk a).setFrames s₂.frames with heap := s₂.heap, slotsUsed := s₂.slotsUsed } : State).setVm s₂.vm := by
      have : s₂ = ({ s₂ with vm := (U.calling g mk a).vm } : State).setVm s₂.vm := rfl
      rw [e2] at this
      exact this
    obtain ⟨c₂, i₂, len₂, hc₂, hd₂, hf₂⟩ := hend
    have hW' : U.WarmedH s₂.vm := hW₂
    have hcc : c₂ = c := by
      have h1 : s₂.code? g.method = U.code? g.method := by
        rw [State.code?_eq, State.code?_eq, hW'.alike.method?]
      exact Option.some.inj (hc₂.symm.trans (h1.trans h.code))
    subst hcc
    have hlen : len₂ = len := by rw [hdg] at hd₂; cases hd₂; rfl
    subst hlen
    have hs₂ : s₂ = (({ U with heap := s₂.heap, slotsUsed := s₂.slotsUsed } : State).setVm s₂.vm).setTop { g with pc := g.pc + len₂, stack := v.toList ++ g.stack } := by
      refine e3.trans ?_
      rw [hf₂, State.calling_eq h.top, State.setFrames_setFrames, State.setTop_of_frames _ hr', hr]
      rfl
    have hsame : U.sameButNew ({ U with heap := s₂.heap, slotsUsed := s₂.slotsUsed } : State) L mc ms := by
      refine ⟨?_, q2, q3, q4, q5, q6⟩
      obtain ⟨t, ht, -⟩ := State.frames_cons hr
      show ({ U with heap := s₂.heap, slotsUsed := s₂.slotsUsed } : State) = { U.setFrames U.frames with heap := s₂.heap, slotsUsed := s₂.slotsUsed }
      rw [State.setFrames_self ht]
    subst hg
    refine Or.inl ⟨v, ⟨(({ U with heap := s₂.heap, slotsUsed := s₂.slotsUsed } : State).setVm s₂.vm), Ls ++ L, c0 + mc, s0 + ms⟩,
      ⟨X.admits, X.cas, X.clock, X.frames, X.room, X.hears, X.method, X.code, (X.here.setHeapUsed s₂.heap s₂.slotsUsed).setVm hW'.alike, X.tail, State.WarmedH.trans X.warmed hW', X.limits, X.bytes, X.same.trans (hsame.setVm s.vm)⟩,
      ⟨g, mk, s₂, L, rfl, rfl, hqc, rfl, hL, rfl, rfl⟩, ?_⟩
    show Steps p.tables e below _ ((({ U with heap := s₂.heap, slotsUsed := s₂.slotsUsed } : State).setVm s₂.vm).setTop { g with pc := g.pc + len₂, stack := v.toList ++ g.stack })
    rw [← hs₂]
    exact hsteps
  · obtain ⟨e2, q2, q3, q4, q5, q6⟩ := id hsm
    have e3 : s₂ = ({ (U.calling g mk a).setFrames s₂.frames with heap := s₂.heap, slotsUsed := s₂.slotsUsed } : State).setVm s₂.vm := by
      have : s₂ = ({ s₂ with vm := (U.calling g mk a).vm } : State).setVm s₂.vm := rfl
      rw [e2] at this
      exact this
    have hf₂ : s₂.frames = .throwing q :: .java g :: U.frames.tail := hend
    have hW' : U.WarmedH s₂.vm := hW₂
    have hs₂ : s₂ = ((({ U with heap := s₂.heap, slotsUsed := s₂.slotsUsed } : State).setVm s₂.vm).setTop g).pushFrame (.throwing q) := by
      refine e3.trans ?_
      rw [hf₂, State.calling_eq h.top, State.setFrames_setFrames, State.pushFrame, State.frames_setTop _ hr', State.setTop_of_frames _ hr', State.setFrames_setFrames, hr]
      rfl
    have hsame : U.sameButNew ({ U with heap := s₂.heap, slotsUsed := s₂.slotsUsed } : State) L mc ms := by
      refine ⟨?_, q2, q3, q4, q5, q6⟩
      obtain ⟨t, ht, -⟩ := State.frames_cons hr
      show ({ U with heap := s₂.heap, slotsUsed := s₂.slotsUsed } : State) = { U.setFrames U.frames with heap := s₂.heap, slotsUsed := s₂.slotsUsed }
      rw [State.setFrames_self ht]
    subst hg
    refine Or.inr ⟨q, ⟨(({ U with heap := s₂.heap, slotsUsed := s₂.slotsUsed } : State).setVm s₂.vm), Ls ++ L, c0 + mc, s0 + ms⟩,
      ⟨X.admits, X.cas, X.clock, X.frames, X.room, X.hears, X.method, X.code, (X.here.setHeapUsed s₂.heap s₂.slotsUsed).setVm hW'.alike, X.tail, State.WarmedH.trans X.warmed hW', X.limits, X.bytes, X.same.trans (hsame.setVm s.vm)⟩,
      ⟨g, mk, s₂, L, E, ce, rfl, rfl, hx, hce, hcv, hcl, rfl, hL, rfl, rfl⟩, ?_⟩
    show Steps p.tables e below _ (((({ U with heap := s₂.heap, slotsUsed := s₂.slotsUsed } : State).setVm s₂.vm).setTop g).pushFrame (.throwing q))
    rw [← hs₂]
    exact hsteps
end
variable {p : Program} {l : Launch} {e : Env} {R : Room} {s : State} {m : MethodId} {args : Array Value} {below : List Frame} {meth : Method} {c : Code} {T : State} {H : Heap} {locs : List Loc} {cells slots : Nat}
theorem vx_callVX (X : Stand p l e R s m args below meth c T locs cells slots) (hexec : p.tables.exec = Jvm.exec) {own C : String} {index : Nat} {y : MethodName} {bytes : ByteArray} {maxL : Nat} {ret : Option FieldType} {hh : List (Nat × Nat × Nat × Nat)}
    (hown : s.vm.findClass own = some m.cls) (hlink : (Cond.methodLink own index y).before args s = true) (hinst : (Cond.instanceMethod y).before args s = true) (hsel : (Cond.selects C y y).before args s = true)
    (hcode : (Cond.codeWith y bytes maxL ret hh).before args s = true) (hy : y.cls ≠ "java/lang/invoke/MethodHandle" ∧ y.cls ≠ "java/lang/invoke/VarHandle")
    {W9 : Nat} {Pre : Pt → Array Value → Prop} {Post : Pt → Array Value → Option Value → Pt → Prop} {PostX : Pt → Array Value → Addr → Pt → Prop} (hK : vx_Back l R p e below s args y 3 W9 Pre Post PostX)
    {b : Addr} {cellB : Cell} (hcell : T.heap[b]? = some cellB) (hobj : cellB.vm.isStatics = false) (hcls : s.vm.findClass C = some cellB.cls)
    {g : JFrame} (hg : g.method = m) (hsize : g.locals.size = c.maxLocals) {argsL rest : List Value} (hlen : ∀ sig, parseMethodDescriptor y.desc = some sig → argsL.length = sig.parameters.length)
    (hstack : g.stack = argsL.reverse ++ .ref b :: rest) (hW : 2 * g.monitorRoom + (rest.map fun v => v.category).sum ≤ W9) (hdg : decode c.code g.pc = .ok (.invokevirtual index, 3))
    (hpre : ∀ vm₁, s.WarmedH vm₁ → Pre ⟨T.setVm vm₁, locs, cells, slots⟩ (Value.ref b :: argsL).toArray) :
    (∃ (v : Option Value) (vm₁ : Vm) (B : Pt), s.WarmedH vm₁ ∧ Stand p l e R s m args below meth c B.U B.locs B.cells B.slots ∧ Post ⟨T.setVm vm₁, locs, cells, slots⟩ (Value.ref b :: argsL).toArray v B ∧
      ∀ target, Steps p.tables e below (B.U.setTop { g with pc := g.pc + 3, stack := v.toList ++ rest }) target → Steps p.tables e below (T.setTop g) target) ∨
    (∃ (q : Addr) (vm₁ : Vm) (B : Pt), s.WarmedH vm₁ ∧ Stand p l e R s m args below meth c B.U B.locs B.cells B.slots ∧ PostX ⟨T.setVm vm₁, locs, cells, slots⟩ (Value.ref b :: argsL).toArray q B ∧
      Steps p.tables e below (T.setTop g) ((B.U.setTop { g with stack := rest }).pushFrame (.throwing q))) := by
  obtain ⟨mk, methM, hnamed, hmethM, hstM, habM⟩ := Cond.instanceMethod_spec hinst
  obtain ⟨m8, methM', cM, hn8, hmethM', -, -, -, -, -, -, hsigM⟩ := Cond.codeWith_spec hcode
  cases Option.some.inj (hn8.symm.trans hnamed)
  cases hmethM.symm.trans hmethM'
  obtain ⟨c2, r2, m2, q1, q2, q3, q4, kP, hkP, hkPi⟩ := Cond.selects_spec hsel
  cases hcls.symm.trans q1
  cases (State.methodFound?_of_named hnamed hy).symm.trans q2
  cases hnamed.symm.trans q3
  have hselP : selectMethod e.platform s.vm cellB.cls mk = .method mk := by rw [Launch.admits_selectMethod X.admits]; exact q4
  obtain ⟨vm₁, X₁, hstep₁⟩ := X.invokevirtual hexec hown hlink hnamed hmethM hstM hkP hkPi hy (a := b) (cell := cellB) hcell
    (fun z h => by rw [h] at hobj; cases hobj) hselP hmethM habM hkP hkPi (g := g) hg (argsL := argsL) (rest := rest) (hlen _ hsigM) hstack hdg
  rcases hK m meth c ⟨T.setVm vm₁, locs, cells, slots⟩ { g with stack := rest } (.invokevirtual index) mk (Value.ref b :: argsL).toArray X₁ hg hsize hdg hW (X₁.named hnamed) (hpre vm₁ X₁.warmed) with ⟨v, B, X', hpost, hsteps⟩ | ⟨q, B, X', hpost, hsteps⟩
  · exact Or.inl ⟨v, vm₁, B, X₁.warmed, X', hpost, fun target h => hstep₁ _ fun acts => by rw [doInvoke_state]; exact hsteps.trans h⟩
  · exact Or.inr ⟨q, vm₁, B, X₁.warmed, X', hpost, hstep₁ _ fun acts => by rw [doInvoke_state]; exact hsteps⟩
theorem vx_callSX (X : Stand p l e R s m args below meth c T locs cells slots) (hexec : p.tables.exec = Jvm.exec) {own : String} {index : Nat} {y : MethodName} {bytes : ByteArray} {maxL : Nat} {ret : Option FieldType} {hh : List (Nat × Nat × Nat × Nat)}
    (hown : s.vm.findClass own = some m.cls) (hlink : (Cond.methodLink own index y).before args s = true) (hstat : (Cond.static y).before args s = true) (hinit : (Cond.initialized y.cls).before args s = true)
    (hcode : (Cond.codeWith y bytes maxL ret hh).before args s = true) (hy : y.cls ≠ "java/lang/invoke/MethodHandle" ∧ y.cls ≠ "java/lang/invoke/VarHandle")
    {W9 : Nat} {Pre : Pt → Array Value → Prop} {Post : Pt → Array Value → Option Value → Pt → Prop} {PostX : Pt → Array Value → Addr → Pt → Prop} (hK : vx_Back l R p e below s args y 3 W9 Pre Post PostX)
    {g : JFrame} (hg : g.method = m) (hsize : g.locals.size = c.maxLocals) {argsL rest : List Value} (hlen : ∀ sig, parseMethodDescriptor y.desc = some sig → argsL.length = sig.parameters.length)
    (hstack : g.stack = argsL.reverse ++ rest) (hW : 2 * g.monitorRoom + (rest.map fun v => v.category).sum ≤ W9) (hdg : decode c.code g.pc = .ok (.invokestatic index, 3))
    (hpre : ∀ vm₁, s.WarmedH vm₁ → Pre ⟨T.setVm vm₁, locs, cells, slots⟩ argsL.toArray) :
    (∃ (v : Option Value) (vm₁ : Vm) (B : Pt), s.WarmedH vm₁ ∧ Stand p l e R s m args below meth c B.U B.locs B.cells B.slots ∧ Post ⟨T.setVm vm₁, locs, cells, slots⟩ argsL.toArray v B ∧
      ∀ target, Steps p.tables e below (B.U.setTop { g with pc := g.pc + 3, stack := v.toList ++ rest }) target → Steps p.tables e below (T.setTop g) target) ∨
    (∃ (q : Addr) (vm₁ : Vm) (B : Pt), s.WarmedH vm₁ ∧ Stand p l e R s m args below meth c B.U B.locs B.cells B.slots ∧ PostX ⟨T.setVm vm₁, locs, cells, slots⟩ argsL.toArray q B ∧
      Steps p.tables e below (T.setTop g) ((B.U.setTop { g with stack := rest }).pushFrame (.throwing q))) := by
  obtain ⟨mk, methM, cM, hnamed, hmethM, -, -, -, -, -, -, hsigM⟩ := Cond.codeWith_spec hcode
  have hstatic : methM.isStatic = true := Cond.static_spec hnamed hmethM hstat
  obtain ⟨kP, hkP, -⟩ := className_of_methodNamed hnamed
  have hinitP : kP.init = .initialized := Cond.initialized_spec (findClass_of_methodNamed hnamed) hkP hinit
  obtain ⟨vm₁, X₁, hstep₁⟩ := X.invokestatic hexec hown hlink hnamed hmethM hstatic hkP hinitP hy (g := g) hg (argsL := argsL) (rest := rest) (hlen _ hsigM) hstack hdg
  rcases hK m meth c ⟨T.setVm vm₁, locs, cells, slots⟩ { g with stack := rest } (.invokestatic index) mk argsL.toArray X₁ hg hsize hdg hW (X₁.named hnamed) (hpre vm₁ X₁.warmed) with ⟨v, B, X', hpost, hsteps⟩ | ⟨q, B, X', hpost, hsteps⟩
  · exact Or.inl ⟨v, vm₁, B, X₁.warmed, X', hpost, fun target h => hstep₁ _ fun acts => by rw [doInvoke_state]; exact hsteps.trans h⟩
  · exact Or.inr ⟨q, vm₁, B, X₁.warmed, X', hpost, hstep₁ _ fun acts => by rw [doInvoke_state]; exact hsteps⟩
theorem vx_callVW (X : Stand p l e R s m args below meth c T locs cells slots) (hexec : p.tables.exec = Jvm.exec) {own C : String} {index : Nat} {y : MethodName} {bytes : ByteArray} {maxL : Nat} {ret : Option FieldType} {hh : List (Nat × Nat × Nat × Nat)}
    (hown : s.vm.findClass own = some m.cls) (hlink : (Cond.methodLink own index y).before args s = true) (hinst : (Cond.instanceMethod y).before args s = true) (hsel : (Cond.selects C y y).before args s = true)
    (hcode : (Cond.codeWith y bytes maxL ret hh).before args s = true) (hy : y.cls ≠ "java/lang/invoke/MethodHandle" ∧ y.cls ≠ "java/lang/invoke/VarHandle")
    {W9 : Nat} {Pre : Pt → Array Value → Prop} {Post : Pt → Array Value → Option Value → Pt → Prop} (hK : Back l R p e below s args y 3 W9 Pre Post)
    {b : Addr} {cellB : Cell} (hcell : T.heap[b]? = some cellB) (hobj : cellB.vm.isStatics = false) (hcls : s.vm.findClass C = some cellB.cls)
    {g : JFrame} (hg : g.method = m) (hsize : g.locals.size = c.maxLocals) {argsL rest : List Value} (hlen : ∀ sig, parseMethodDescriptor y.desc = some sig → argsL.length = sig.parameters.length)
    (hstack : g.stack = argsL.reverse ++ .ref b :: rest) (hW : 2 * g.monitorRoom + (rest.map fun v => v.category).sum ≤ W9) (hdg : decode c.code g.pc = .ok (.invokevirtual index, 3))
    (hpre : ∀ vm₁, s.WarmedH vm₁ → Pre ⟨T.setVm vm₁, locs, cells, slots⟩ (Value.ref b :: argsL).toArray) :
    ∃ (v : Option Value) (vm₁ : Vm) (B : Pt), s.WarmedH vm₁ ∧ Stand p l e R s m args below meth c B.U B.locs B.cells B.slots ∧ Post ⟨T.setVm vm₁, locs, cells, slots⟩ (Value.ref b :: argsL).toArray v B ∧
      ∀ target, Steps p.tables e below (B.U.setTop { g with pc := g.pc + 3, stack := v.toList ++ rest }) target → Steps p.tables e below (T.setTop g) target := by
  obtain ⟨mk, methM, hnamed, hmethM, hstM, habM⟩ := Cond.instanceMethod_spec hinst
  obtain ⟨m8, methM', cM, hn8, hmethM', -, -, -, -, -, -, hsigM⟩ := Cond.codeWith_spec hcode
  cases Option.some.inj (hn8.symm.trans hnamed)
  cases hmethM.symm.trans hmethM'
  obtain ⟨c2, r2, m2, q1, q2, q3, q4, kP, hkP, hkPi⟩ := Cond.selects_spec hsel
  cases hcls.symm.trans q1
  cases (State.methodFound?_of_named hnamed hy).symm.trans q2
  cases hnamed.symm.trans q3
  have hselP : selectMethod e.platform s.vm cellB.cls mk = .method mk := by rw [Launch.admits_selectMethod X.admits]; exact q4
  obtain ⟨vm₁, X₁, hstep₁⟩ := X.invokevirtual hexec hown hlink hnamed hmethM hstM hkP hkPi hy (a := b) (cell := cellB) hcell
    (fun z h => by rw [h] at hobj; cases hobj) hselP hmethM habM hkP hkPi (g := g) hg (argsL := argsL) (rest := rest) (hlen _ hsigM) hstack hdg
  obtain ⟨v, B, X', hpost, hsteps⟩ := hK m meth c ⟨T.setVm vm₁, locs, cells, slots⟩ { g with stack := rest } (.invokevirtual index) mk (Value.ref b :: argsL).toArray X₁ hg hsize hdg hW (X₁.named hnamed) (hpre vm₁ X₁.warmed)
  exact ⟨v, vm₁, B, X₁.warmed, X', hpost, fun target h => hstep₁ _ fun acts => by rw [doInvoke_state]; exact hsteps.trans h⟩
abbrev vx_CVW (R : Room) (s : State) (args : Array Value) (own C : String) (index : Nat) (y : MethodName) (bytes : ByteArray) (maxL : Nat) (ret : Option FieldType) (hh : List (Nat × Nat × Nat × Nat)) (ws : List Cond) (rm : Room) (mc ms n : Nat) : Prop :=
  (rm.cells = mc ∧ rm.slots = ms ∧ rm.frames + 1 ≤ R.frames ∧ 8 + (maxL + 11) + rm.locals ≤ R.locals ∧ (∀ w ∈ ws, ∀ (a' : Array Value) (U : State), s.WarmedH U.vm → w.before a' U = true) ∧ Cond.codeWith y bytes maxL ret hh ∈ ws) ∧
  (Cond.codeWith y bytes maxL ret hh).before args s = true ∧ (Cond.initialized y.cls).before args s = true ∧ (y.cls ≠ "java/lang/invoke/MethodHandle" ∧ y.cls ≠ "java/lang/invoke/VarHandle") ∧
  (∀ sig, parseMethodDescriptor y.desc = some sig → n = sig.parameters.length) ∧ (Cond.methodLink own index y).before args s = true ∧ (Cond.instanceMethod y).before args s = true ∧ (Cond.selects C y y).before args s = true
theorem vx_cwVW {own C : String} {index maxL mc ms : Nat} {y : MethodName} {bytes : ByteArray} {ret : Option FieldType} {hh : List (Nat × Nat × Nat × Nat)} {Ts ws ws' : List Cond} {rm : Room} (n : Nat) (ht : ∀ w ∈ Ts, w.before args s = true) (hT : GoodIn Ts (wsV own index C y ws)) (hw : ws = Cond.codeWith y bytes maxL ret hh :: ws') (hrc : rm.cells = mc) (hrs : rm.slots = ms)
    (hd : y.cls = C ∧ y.cls ≠ "java/lang/invoke/MethodHandle" ∧ y.cls ≠ "java/lang/invoke/VarHandle" ∧ (parseMethodDescriptor y.desc).map (fun d => d.parameters.length) = some n) (hR : rm.frames + 1 ≤ R.frames ∧ 8 + (maxL + 11) + rm.locals ≤ R.locals) :
    vx_CVW R s args own C index y bytes maxL ret hh ws rm mc ms n := by
  obtain ⟨hC, hd⟩ := hd
  subst hC
  have ok : ∀ w ∈ wsV own index y.cls y ws, w.before args s = true := fun w h => ht w (hT w h).1
  have hG : GoodIn Ts ws := fun w h => hT w (by unfold wsV; exact List.mem_append_right _ h)
  have hc : Cond.codeWith y bytes maxL ret hh ∈ ws := by rw [hw]; exact List.mem_cons_self
  refine ⟨⟨hrc, hrs, hR.1, hR.2, pay_in ht hG, hc⟩, ht _ (hG _ hc).1, ok _ (by simp [wsV]), ⟨hd.1, hd.2.1⟩, fun sig h => ?_, ok _ (by simp [wsV]), ok _ (by simp [wsV]), ok _ (by simp [wsV])⟩
  have h2 := hd.2.2
  rw [h] at h2
  exact (Option.some.inj h2).symm
theorem vx_runVW {y : MethodName} {bytes cc : ByteArray} {maxL nL mc ms n index : Nat} {ret : Option FieldType} {hh : List (Nat × Nat × Nat × Nat)} {ws : List Cond} {rm : Room} {Pc : Array Value → State → Prop} {Qc : Array Value → State → Outcome → State → Prop} {free : Addr → Prop} {Ts : List Cond} {own C : String} {b : Addr} {As rest : List Value} {g : JFrame}
    (S : CallFix p m c cc nL s args Ts own) (hM : Met l y ws rm Pc Qc mc ms free) (cw : vx_CVW R s args own C index y bytes maxL ret hh ws rm mc ms n) (hp : PreV s H C b Pc As)
    (hg : g.method = m) (hn : As.length = n) (hsize : g.locals.size = nL) (hstack : g.stack = As.reverse ++ .ref b :: rest) (hW : 2 * g.monitorRoom + (rest.map fun v => v.category).sum ≤ 8) (hdg : decode cc g.pc = .ok (.invokevirtual index, 3)) (hf : cells + mc ≤ R.cells ∧ slots + ms ≤ R.slots) :
    va_Run p l e R s m args below meth c H locs cells slots mc ms g rest (Qc (Value.ref b :: As).toArray) free := by
  obtain ⟨⟨hrc, hrs, hfr, hlo, hws, hcw⟩, hcode, hini, hy, hlen, hl, hin, hse⟩ := cw
  have hK : Back l R p e below s args y 3 8 (PreOf R mc ms Pc) (PostOf Qc mc ms free) := va_backW (hh := hh) (bytes := bytes) (maxL := maxL) (ret := ret) hM hp.1 hrc hrs hfr hlo hws hcw (fun a' U hW => word_at hW (Or.inl (by first | rfl | simp [Cond.onTables, Cond.keeps, Cond.steady])) hini)
  obtain ⟨hx, hb, hml, ho, -⟩ := S
  obtain ⟨-, ⟨cellB, hcB, hoB, hclB⟩, hPc⟩ := hp
  intro T hT X
  obtain ⟨v, vm₁, ⟨U', l2, c2, s2⟩, hW₁, X', ⟨g', mk, t, L, e1, e2, hq, h1, hL, h2, h3⟩, st⟩ := vx_callVW X hx (C := C) (hh := hh) (bytes := bytes) (maxL := maxL) (ret := ret) ho hl hin hse hcode hy hK (by rw [hT]; exact hcB) hoB hclB hg (hsize.trans hml.symm) (argsL := As) (rest := rest) (fun sig h => hn.trans (hlen sig h)) hstack hW (by rw [hb]; exact hdg)
    (fun vm₁ hW₁ => ⟨hf.1, hf.2, hPc (T.setVm vm₁) hT hW₁⟩)
  dsimp only [Pt.U, Pt.locs, Pt.cells, Pt.slots] at X' e1 e2 h1 h2 h3 st
  subst h1; subst h2; subst h3
  exact ⟨v, (T.setVm vm₁).calling g' mk (Value.ref b :: As).toArray, t, U', L, hT, X', hL, e1, e2, hq, st⟩
section
variable {y : MethodName} {bytes cc : ByteArray} {maxL nL mc ms n index : Nat} {ret : Option FieldType} {ws : List Cond} {rm : Room} {Pc : Array Value → State → Prop} {Qc : Array Value → State → Outcome → State → Prop} {XC : String → State → State → Prop} {free : Addr → Prop} {Ts : List Cond} {own C : String} {b : Addr} {As rest : List Value} {g : JFrame}
theorem vx_runVX {hh : List (Nat × Nat × Nat × Nat)} (S : CallFix p m c cc nL s args Ts own) (hM : vx_Met l y ws rm Pc Qc XC mc ms free) (cw : vx_CVW R s args own C index y bytes maxL ret hh ws rm mc ms n) (hp : PreV s H C b Pc As)
    (hg : g.method = m) (hn : As.length = n) (hsize : g.locals.size = nL) (hstack : g.stack = As.reverse ++ .ref b :: rest) (hW : 2 * g.monitorRoom + (rest.map fun v => v.category).sum ≤ 8) (hdg : decode cc g.pc = .ok (.invokevirtual index, 3)) (hf : cells + mc ≤ R.cells ∧ slots + ms ≤ R.slots) :
    vx_Run p l e R s m args below meth c H locs cells slots mc ms g rest (Qc (Value.ref b :: As).toArray) XC free := by
  obtain ⟨⟨hrc, hrs, hfr, hlo, hws, hcw⟩, hcode, hini, hy, hlen, hl, hin, hse⟩ := cw
  have hK : vx_Back l R p e below s args y 3 8 (PreOf R mc ms Pc) (PostOf Qc mc ms free) (vx_Post XC mc ms free) := vx_backW (hh := hh) (bytes := bytes) (maxL := maxL) (ret := ret) hM hp.1 hrc hrs hfr hlo hws hcw (fun a' U hW => word_at hW (Or.inl (by first | rfl | simp [Cond.onTables, Cond.keeps, Cond.steady])) hini)
  obtain ⟨hx, hb, hml, ho, -⟩ := S
  obtain ⟨-, ⟨cellB, hcB, hoB, hclB⟩, hPc⟩ := hp
  intro T hT X
  rcases vx_callVX X hx (C := C) (hh := hh) (bytes := bytes) (maxL := maxL) (ret := ret) ho hl hin hse hcode hy hK (by rw [hT]; exact hcB) hoB hclB hg (hsize.trans hml.symm) (argsL := As) (rest := rest) (fun sig h => hn.trans (hlen sig h)) hstack hW (by rw [hb]; exact hdg)
    (fun vm₁ hW₁ => ⟨hf.1, hf.2, hPc (T.setVm vm₁) hT hW₁⟩) with ⟨v, vm₁, ⟨U', l2, c2, s2⟩, hW₁, X', ⟨g', mk, t, L, e1, e2, hq, h1, hL, h2, h3⟩, st⟩ | ⟨q, vm₁, ⟨U', l2, c2, s2⟩, hW₁, X', ⟨g', mk, t, L, E, ce, e1, e2, hq, hce, hcv, hcl, h1, hL, h2, h3⟩, st⟩
  · dsimp only [Pt.U, Pt.locs, Pt.cells, Pt.slots] at X' e1 e2 h1 h2 h3 st
    subst h1; subst h2; subst h3
    exact Or.inl ⟨v, (T.setVm vm₁).calling g' mk (Value.ref b :: As).toArray, t, U', L, hT, X', hL, e1, e2, hq, st⟩
  · dsimp only [Pt.U, Pt.locs, Pt.cells, Pt.slots] at X' e1 e2 h1 h2 h3 st hcl
    subst h1; subst h2; subst h3
    exact Or.inr ⟨q, (T.setVm vm₁).calling g' mk (Value.ref b :: As).toArray, t, U', L, E, ce, hT, X', hL, e1, e2, hq, hce, hcv, vx_cls hW₁ hcl, st⟩
theorem vx_runSX {hh : List (Nat × Nat × Nat × Nat)} (S : CallFix p m c cc nL s args Ts own) (hM : vx_Met l y ws rm Pc Qc XC mc ms free) (cw : vx_CSW R s args own index y bytes maxL ret hh ws rm mc ms n) (hp : PreS s H Pc As)
    (hg : g.method = m) (hn : As.length = n) (hsize : g.locals.size = nL) (hstack : g.stack = As.reverse ++ rest) (hW : 2 * g.monitorRoom + (rest.map fun v => v.category).sum ≤ 8) (hdg : decode cc g.pc = .ok (.invokestatic index, 3)) (hf : cells + mc ≤ R.cells ∧ slots + ms ≤ R.slots) :
    vx_Run p l e R s m args below meth c H locs cells slots mc ms g rest (Qc As.toArray) XC free := by
  obtain ⟨⟨hrc, hrs, hfr, hlo, hws, hcw⟩, hcode, hini, hy, hlen, hl, hstt⟩ := cw
  have hK : vx_Back l R p e below s args y 3 8 (PreOf R mc ms Pc) (PostOf Qc mc ms free) (vx_Post XC mc ms free) := vx_backW (hh := hh) (bytes := bytes) (maxL := maxL) (ret := ret) hM hp.1 hrc hrs hfr hlo hws hcw (fun a' U hW => word_at hW (Or.inl (by first | rfl | simp [Cond.onTables, Cond.keeps, Cond.steady])) hini)
  obtain ⟨hx, hb, hml, ho, -⟩ := S
  intro T hT X
  rcases vx_callSX X hx (hh := hh) (bytes := bytes) (maxL := maxL) (ret := ret) ho hl hstt hini hcode hy hK hg (hsize.trans hml.symm) (argsL := As) (rest := rest) (fun sig h => hn.trans (hlen sig h)) hstack hW (by rw [hb]; exact hdg)
    (fun vm₁ hW₁ => ⟨hf.1, hf.2, hp.2 (T.setVm vm₁) hT hW₁⟩) with ⟨v, vm₁, ⟨U', l2, c2, s2⟩, hW₁, X', ⟨g', mk, t, L, e1, e2, hq, h1, hL, h2, h3⟩, st⟩ | ⟨q, vm₁, ⟨U', l2, c2, s2⟩, hW₁, X', ⟨g', mk, t, L, E, ce, e1, e2, hq, hce, hcv, hcl, h1, hL, h2, h3⟩, st⟩
  · dsimp only [Pt.U, Pt.locs, Pt.cells, Pt.slots] at X' e1 e2 h1 h2 h3 st
    subst h1; subst h2; subst h3
    exact Or.inl ⟨v, (T.setVm vm₁).calling g' mk As.toArray, t, U', L, hT, X', hL, e1, e2, hq, st⟩
  · dsimp only [Pt.U, Pt.locs, Pt.cells, Pt.slots] at X' e1 e2 h1 h2 h3 st hcl
    subst h1; subst h2; subst h3
    exact Or.inr ⟨q, (T.setVm vm₁).calling g' mk As.toArray, t, U', L, E, ce, hT, X', hL, e1, e2, hq, hce, hcv, vx_cls hW₁ hcl, st⟩
end
end VXH
theorem vx_ofWH {l : Launch} {y : MethodName} {ws ws' : List Cond} {rm : Room} {Pc : Array Value → State → Prop} {Qc : Array Value → State → Outcome → State → Prop} {XC : String → State → State → Prop} {mc ms : Nat} {free : Addr → Prop} {cc : ByteArray} {maxL : Nat} {ret : Option FieldType} {hh : List (Nat × Nat × Nat × Nat)}
    (hy : plainName y.cls = true) (hw : ws = Cond.codeWith y cc maxL ret hh :: ws')
    (body : ∀ p e s m args below meth c s₁, BodyLoose p l y (headSpec ws rm) cc maxL ret e s m args below meth c s₁ → c.maxLocals = maxL → Pc args s →
      W p l e (headSpec ws rm).room s m args below meth c s.heap [] 0 0 (vx_MQ below Qc XC args s mc ms free) (entryFrame m args maxL)) : vx_Met l y ws rm Pc Qc XC mc ms free := by
  refine MetFree.of_bodyS (code := cc) (maxLocals := maxL) (ret := ret) hy ?_ ?_
  · intro args s m h hn
    obtain ⟨m9, meth, c, hn9, h1, h2, h3, h4, -, h5, h6, -⟩ := Cond.codeWith_spec (atoms_spec (ws := ws) h _ (by rw [hw]; exact List.mem_cons_self))
    cases hn.symm.trans hn9
    exact ⟨meth, c, h1, h2, h3, h4, h5, h6⟩
  · intro p e s m args below meth c s₁ B hml hP _
    have hh0 : s₁.heap = s.heap := by rw [B.state]; rfl
    obtain ⟨t, a1, o, b1, b2, b3⟩ := body p e s m args below meth c s₁ B hml hP s₁ hh0 (Stand.of_body B)
    exact ⟨t, o, a1, b1, b2, b3⟩
/-! ===== END ===== -/
end
section
def RX0 : String := "Mergeparlour$Layout"
def TX0 : u_T := fun k => match k with
  | 0 => ("Mergeparlour$Layout", "ledger", "LMergeparlour$Ledger;", true)
  | 1 => ("Mergeparlour$Layout", "text", "LMergeparlour$Text;", true)
  | 2 => ("Mergeparlour$Layout", "there", "LMergeparlour$Numbers;", true)
  | 3 => ("Mergeparlour$Layout", "begins", "LMergeparlour$Numbers;", true)
  | 4 => ("Mergeparlour$Layout", "rowsOfLines", "LMergeparlour$Numbers;", true)
  | _ => ("Mergeparlour$Layout", "pageStarts", "LMergeparlour$Numbers;", true)
def tyX0 : Nat → FieldType := fun k => match k with
  | 0 => .object "Mergeparlour$Ledger"
  | 1 => .object "Mergeparlour$Text"
  | 2 => .object "Mergeparlour$Numbers"
  | 3 => .object "Mergeparlour$Numbers"
  | 4 => .object "Mergeparlour$Numbers"
  | _ => .object "Mergeparlour$Numbers"
abbrev wsX00 : List Cond := u_ws RX0 TX0 6
theorem nmX0 : ∀ a, a < 6 → ∀ b, b < 6 → a ≠ b → (TX0 a).2.1 ≠ (TX0 b).2.1 := by decide +kernel
theorem tyX0_ok : ∀ k, k < 6 → parseFieldDescriptor (TX0 k).2.2.1 = some (tyX0 k) := by decide +kernel
abbrev cX0_init : ByteArray := prog_2_method_1_code
def yX0_init : MethodName := ⟨RX0, "<init>", "(LMergeparlour$Ledger;LMergeparlour$Text;)V"⟩
abbrev cX0_layAnew : ByteArray := prog_2_method_2_code
def yX0_layAnew : MethodName := ⟨RX0, "layAnew", "()V"⟩
abbrev cX0_lineCount : ByteArray := prog_2_method_3_code
def yX0_lineCount : MethodName := ⟨RX0, "lineCount", "()I"⟩
abbrev cX0_line : ByteArray := prog_2_method_4_code
def yX0_line : MethodName := ⟨RX0, "line", "(I)I"⟩
abbrev cX0_rows : ByteArray := prog_2_method_5_code
def yX0_rows : MethodName := ⟨RX0, "rows", "(I)I"⟩
abbrev cX0_beginsParagraph : ByteArray := prog_2_method_6_code
def yX0_beginsParagraph : MethodName := ⟨RX0, "beginsParagraph", "(I)Z"⟩
abbrev cX0_pageCount : ByteArray := prog_2_method_7_code
def yX0_pageCount : MethodName := ⟨RX0, "pageCount", "()I"⟩
abbrev cX0_pageOf : ByteArray := prog_2_method_8_code
def yX0_pageOf : MethodName := ⟨RX0, "pageOf", "(I)I"⟩
abbrev cX0_startOf : ByteArray := prog_2_method_9_code
def yX0_startOf : MethodName := ⟨RX0, "startOf", "(I)I"⟩
abbrev cX0_countAheadAnew : ByteArray := prog_2_method_10_code
def yX0_countAheadAnew : MethodName := ⟨RX0, "countAheadAnew", "(I)I"⟩
abbrev cX0_gatherLines : ByteArray := prog_2_method_11_code
def yX0_gatherLines : MethodName := ⟨RX0, "gatherLines", "()V"⟩
abbrev cX0_addNotes : ByteArray := prog_2_method_12_code
def yX0_addNotes : MethodName := ⟨RX0, "addNotes", "()V"⟩
abbrev cX0_cutPages : ByteArray := prog_2_method_13_code
def yX0_cutPages : MethodName := ⟨RX0, "cutPages", "()V"⟩
abbrev cX0_endOfPage : ByteArray := prog_2_method_14_code
def yX0_endOfPage : MethodName := ⟨RX0, "endOfPage", "(I)I"⟩
abbrev cX0_endByTrying : ByteArray := prog_2_method_15_code
def yX0_endByTrying : MethodName := ⟨RX0, "endByTrying", "(I)I"⟩
abbrev cX0_endWithRoom : ByteArray := prog_2_method_16_code
def yX0_endWithRoom : MethodName := ⟨RX0, "endWithRoom", "(I)I"⟩
abbrev cX0_isBadCut : ByteArray := prog_2_method_17_code
def yX0_isBadCut : MethodName := ⟨RX0, "isBadCut", "(I)Z"⟩
def RX1 : String := "Mergeparlour$Ledger"
def TX1 : u_T := fun k => match k with
  | 0 => ("Mergeparlour$Ledger", "kinds", "LMergeparlour$Numbers;", true)
  | 1 => ("Mergeparlour$Ledger", "stamps", "LMergeparlour$Numbers;", true)
  | 2 => ("Mergeparlour$Ledger", "subjects", "LMergeparlour$Numbers;", true)
  | 3 => ("Mergeparlour$Ledger", "targets", "LMergeparlour$Numbers;", true)
  | 4 => ("Mergeparlour$Ledger", "lineStamps", "LMergeparlour$Numbers;", true)
  | 5 => ("Mergeparlour$Ledger", "lineBehinds", "LMergeparlour$Numbers;", true)
  | 6 => ("Mergeparlour$Ledger", "lineValues", "LMergeparlour$Numbers;", true)
  | 7 => ("Mergeparlour$Ledger", "lineBegins", "LMergeparlour$Numbers;", true)
  | _ => ("Mergeparlour$Ledger", "noteRows", "LMergeparlour$Numbers;", true)
def tyX1 : Nat → FieldType := fun k => match k with
  | 0 => .object "Mergeparlour$Numbers"
  | 1 => .object "Mergeparlour$Numbers"
  | 2 => .object "Mergeparlour$Numbers"
  | 3 => .object "Mergeparlour$Numbers"
  | 4 => .object "Mergeparlour$Numbers"
  | 5 => .object "Mergeparlour$Numbers"
  | 6 => .object "Mergeparlour$Numbers"
  | 7 => .object "Mergeparlour$Numbers"
  | _ => .object "Mergeparlour$Numbers"
abbrev wsX10 : List Cond := u_ws RX1 TX1 9
theorem nmX1 : ∀ a, a < 9 → ∀ b, b < 9 → a ≠ b → (TX1 a).2.1 ≠ (TX1 b).2.1 := by decide +kernel
theorem tyX1_ok : ∀ k, k < 9 → parseFieldDescriptor (TX1 k).2.2.1 = some (tyX1 k) := by decide +kernel
abbrev cX1_init : ByteArray := prog_3_method_1_code
def yX1_init : MethodName := ⟨RX1, "<init>", "()V"⟩
abbrev cX1_addDeed : ByteArray := prog_3_method_2_code
def yX1_addDeed : MethodName := ⟨RX1, "addDeed", "(IIII)I"⟩
abbrev cX1_addLine : ByteArray := prog_3_method_3_code
def yX1_addLine : MethodName := ⟨RX1, "addLine", "(IIIZ)I"⟩
abbrev cX1_addNote : ByteArray := prog_3_method_4_code
def yX1_addNote : MethodName := ⟨RX1, "addNote", "(I)I"⟩
abbrev cX1_deedCount : ByteArray := prog_3_method_5_code
def yX1_deedCount : MethodName := ⟨RX1, "deedCount", "()I"⟩
abbrev cX1_lineCount : ByteArray := prog_3_method_6_code
def yX1_lineCount : MethodName := ⟨RX1, "lineCount", "()I"⟩
abbrev cX1_noteCount : ByteArray := prog_3_method_7_code
def yX1_noteCount : MethodName := ⟨RX1, "noteCount", "()I"⟩
abbrev cX1_kindOf : ByteArray := prog_3_method_8_code
def yX1_kindOf : MethodName := ⟨RX1, "kindOf", "(I)I"⟩
abbrev cX1_stampOf : ByteArray := prog_3_method_9_code
def yX1_stampOf : MethodName := ⟨RX1, "stampOf", "(I)I"⟩
abbrev cX1_subjectOf : ByteArray := prog_3_method_10_code
def yX1_subjectOf : MethodName := ⟨RX1, "subjectOf", "(I)I"⟩
abbrev cX1_targetOf : ByteArray := prog_3_method_11_code
def yX1_targetOf : MethodName := ⟨RX1, "targetOf", "(I)I"⟩
abbrev cX1_stampOfLine : ByteArray := prog_3_method_12_code
def yX1_stampOfLine : MethodName := ⟨RX1, "stampOfLine", "(I)I"⟩
abbrev cX1_behindOf : ByteArray := prog_3_method_13_code
def yX1_behindOf : MethodName := ⟨RX1, "behindOf", "(I)I"⟩
abbrev cX1_valueOf : ByteArray := prog_3_method_14_code
def yX1_valueOf : MethodName := ⟨RX1, "valueOf", "(I)I"⟩
abbrev cX1_beginsParagraph : ByteArray := prog_3_method_15_code
def yX1_beginsParagraph : MethodName := ⟨RX1, "beginsParagraph", "(I)Z"⟩
abbrev cX1_rowsOfNote : ByteArray := prog_3_method_16_code
def yX1_rowsOfNote : MethodName := ⟨RX1, "rowsOfNote", "(I)I"⟩
def RX2 : String := "Mergeparlour$Numbers"
def TX2 : u_T := fun k => match k with
  | 0 => ("Mergeparlour$Numbers", "cells", "[I", true)
  | _ => ("Mergeparlour$Numbers", "size", "I", false)
def tyX2 : Nat → FieldType := fun k => match k with
  | 0 => .array .int
  | _ => .int
abbrev wsX20 : List Cond := u_ws RX2 TX2 2
theorem nmX2 : ∀ a, a < 2 → ∀ b, b < 2 → a ≠ b → (TX2 a).2.1 ≠ (TX2 b).2.1 := by decide +kernel
theorem tyX2_ok : ∀ k, k < 2 → parseFieldDescriptor (TX2 k).2.2.1 = some (tyX2 k) := by decide +kernel
abbrev cX2_init : ByteArray := prog_4_method_1_code
def yX2_init : MethodName := ⟨RX2, "<init>", "(I)V"⟩
abbrev cX2_size : ByteArray := prog_4_method_2_code
def yX2_size : MethodName := ⟨RX2, "size", "()I"⟩
abbrev cX2_at : ByteArray := prog_4_method_3_code
def yX2_at : MethodName := ⟨RX2, "at", "(I)I"⟩
abbrev cX2_put : ByteArray := prog_4_method_4_code
def yX2_put : MethodName := ⟨RX2, "put", "(II)V"⟩
abbrev cX2_add : ByteArray := prog_4_method_5_code
def yX2_add : MethodName := ⟨RX2, "add", "(I)V"⟩
abbrev cX2_putBetween : ByteArray := prog_4_method_6_code
def yX2_putBetween : MethodName := ⟨RX2, "putBetween", "(II)V"⟩
abbrev cX2_clear : ByteArray := prog_4_method_7_code
def yX2_clear : MethodName := ⟨RX2, "clear", "()V"⟩
abbrev cX2_placeOf : ByteArray := prog_4_method_8_code
def yX2_placeOf : MethodName := ⟨RX2, "placeOf", "(I)I"⟩
def RX3 : String := "Mergeparlour$Press"
def TX3 : u_T := fun k => match k with
  | 0 => ("Mergeparlour$Press", "now", "LMergeparlour$Layout;", true)
  | 1 => ("Mergeparlour$Press", "sizes", "LMergeparlour$Numbers;", true)
  | 2 => ("Mergeparlour$Press", "printedLines", "LMergeparlour$Numbers;", true)
  | _ => ("Mergeparlour$Press", "printedRows", "LMergeparlour$Numbers;", true)
def tyX3 : Nat → FieldType := fun k => match k with
  | 0 => .object "Mergeparlour$Layout"
  | 1 => .object "Mergeparlour$Numbers"
  | 2 => .object "Mergeparlour$Numbers"
  | _ => .object "Mergeparlour$Numbers"
abbrev wsX30 : List Cond := u_ws RX3 TX3 4
theorem nmX3 : ∀ a, a < 4 → ∀ b, b < 4 → a ≠ b → (TX3 a).2.1 ≠ (TX3 b).2.1 := by decide +kernel
theorem tyX3_ok : ∀ k, k < 4 → parseFieldDescriptor (TX3 k).2.2.1 = some (tyX3 k) := by decide +kernel
abbrev cX3_init : ByteArray := prog_5_method_1_code
def yX3_init : MethodName := ⟨RX3, "<init>", "(LMergeparlour$Layout;)V"⟩
abbrev cX3_hasPageToPrint : ByteArray := prog_5_method_2_code
def yX3_hasPageToPrint : MethodName := ⟨RX3, "hasPageToPrint", "()Z"⟩
abbrev cX3_pageCount : ByteArray := prog_5_method_3_code
def yX3_pageCount : MethodName := ⟨RX3, "pageCount", "()I"⟩
abbrev cX3_sheetCount : ByteArray := prog_5_method_4_code
def yX3_sheetCount : MethodName := ⟨RX3, "sheetCount", "()I"⟩
abbrev cX3_printSheet : ByteArray := prog_5_method_5_code
def yX3_printSheet : MethodName := ⟨RX3, "printSheet", "()I"⟩
abbrev cX3_difference : ByteArray := prog_5_method_6_code
def yX3_difference : MethodName := ⟨RX3, "difference", "(I)I"⟩
abbrev cX3_bill : ByteArray := prog_5_method_7_code
def yX3_bill : MethodName := ⟨RX3, "bill", "()I"⟩
abbrev cX3_printPage : ByteArray := prog_5_method_8_code
def yX3_printPage : MethodName := ⟨RX3, "printPage", "()I"⟩
abbrev cX3_isPrinted : ByteArray := prog_5_method_9_code
def yX3_isPrinted : MethodName := ⟨RX3, "isPrinted", "(III)Z"⟩
abbrev cX3_slips : ByteArray := prog_5_method_10_code
def yX3_slips : MethodName := ⟨RX3, "slips", "(I)I"⟩
def RX4 : String := "Mergeparlour$Site"
def TX4 : u_T := fun k => match k with
  | 0 => ("Mergeparlour$Site", "text", "LMergeparlour$Text;", true)
  | 1 => ("Mergeparlour$Site", "layout", "LMergeparlour$Layout;", true)
  | 2 => ("Mergeparlour$Site", "number", "I", true)
  | 3 => ("Mergeparlour$Site", "deeds", "LMergeparlour$Numbers;", true)
  | 4 => ("Mergeparlour$Site", "placesOfDeeds", "LMergeparlour$Numbers;", true)
  | _ => ("Mergeparlour$Site", "clock", "I", false)
def tyX4 : Nat → FieldType := fun k => match k with
  | 0 => .object "Mergeparlour$Text"
  | 1 => .object "Mergeparlour$Layout"
  | 2 => .int
  | 3 => .object "Mergeparlour$Numbers"
  | 4 => .object "Mergeparlour$Numbers"
  | _ => .int
abbrev wsX40 : List Cond := u_ws RX4 TX4 6
theorem nmX4 : ∀ a, a < 6 → ∀ b, b < 6 → a ≠ b → (TX4 a).2.1 ≠ (TX4 b).2.1 := by decide +kernel
theorem tyX4_ok : ∀ k, k < 6 → parseFieldDescriptor (TX4 k).2.2.1 = some (tyX4 k) := by decide +kernel
abbrev cX4_init : ByteArray := prog_6_method_1_code
def yX4_init : MethodName := ⟨RX4, "<init>", "(ILMergeparlour$Ledger;)V"⟩
abbrev cX4_nextStamp : ByteArray := prog_6_method_2_code
def yX4_nextStamp : MethodName := ⟨RX4, "nextStamp", "()I"⟩
abbrev cX4_take : ByteArray := prog_6_method_3_code
def yX4_take : MethodName := ⟨RX4, "take", "(I)V"⟩
abbrev cX4_takeAllOf : ByteArray := prog_6_method_4_code
def yX4_takeAllOf : MethodName := ⟨RX4, "takeAllOf", "(LMergeparlour$Site;)I"⟩
abbrev cX4_deedCount : ByteArray := prog_6_method_5_code
def yX4_deedCount : MethodName := ⟨RX4, "deedCount", "()I"⟩
abbrev cX4_learn : ByteArray := prog_6_method_6_code
def yX4_learn : MethodName := ⟨RX4, "learn", "(I)V"⟩
def RX5 : String := "Mergeparlour$Text"
def TX5 : u_T := fun k => match k with
  | 0 => ("Mergeparlour$Text", "ledger", "LMergeparlour$Ledger;", true)
  | 1 => ("Mergeparlour$Text", "order", "LMergeparlour$Numbers;", true)
  | 2 => ("Mergeparlour$Text", "orderAnew", "LMergeparlour$Numbers;", true)
  | 3 => ("Mergeparlour$Text", "byStamps", "LMergeparlour$Numbers;", true)
  | 4 => ("Mergeparlour$Text", "standings", "LMergeparlour$Numbers;", true)
  | 5 => ("Mergeparlour$Text", "noteLines", "LMergeparlour$Numbers;", true)
  | _ => ("Mergeparlour$Text", "noteStamps", "LMergeparlour$Numbers;", true)
def tyX5 : Nat → FieldType := fun k => match k with
  | 0 => .object "Mergeparlour$Ledger"
  | 1 => .object "Mergeparlour$Numbers"
  | 2 => .object "Mergeparlour$Numbers"
  | 3 => .object "Mergeparlour$Numbers"
  | 4 => .object "Mergeparlour$Numbers"
  | 5 => .object "Mergeparlour$Numbers"
  | _ => .object "Mergeparlour$Numbers"
abbrev wsX50 : List Cond := u_ws RX5 TX5 7
theorem nmX5 : ∀ a, a < 7 → ∀ b, b < 7 → a ≠ b → (TX5 a).2.1 ≠ (TX5 b).2.1 := by decide +kernel
theorem tyX5_ok : ∀ k, k < 7 → parseFieldDescriptor (TX5 k).2.2.1 = some (tyX5 k) := by decide +kernel
abbrev cX5_init : ByteArray := prog_7_method_1_code
def yX5_init : MethodName := ⟨RX5, "<init>", "(LMergeparlour$Ledger;)V"⟩
abbrev cX5_change : ByteArray := prog_7_method_2_code
def yX5_change : MethodName := ⟨RX5, "change", "(I)V"⟩
abbrev cX5_knowsLine : ByteArray := prog_7_method_3_code
def yX5_knowsLine : MethodName := ⟨RX5, "knowsLine", "(I)Z"⟩
abbrev cX5_hasThere : ByteArray := prog_7_method_4_code
def yX5_hasThere : MethodName := ⟨RX5, "hasThere", "(I)Z"⟩
abbrev cX5_knowsNote : ByteArray := prog_7_method_5_code
def yX5_knowsNote : MethodName := ⟨RX5, "knowsNote", "(I)Z"⟩
abbrev cX5_lineCount : ByteArray := prog_7_method_6_code
def yX5_lineCount : MethodName := ⟨RX5, "lineCount", "()I"⟩
abbrev cX5_line : ByteArray := prog_7_method_7_code
def yX5_line : MethodName := ⟨RX5, "line", "(I)I"⟩
abbrev cX5_lineOfNote : ByteArray := prog_7_method_8_code
def yX5_lineOfNote : MethodName := ⟨RX5, "lineOfNote", "(I)I"⟩
abbrev cX5_findAnew : ByteArray := prog_7_method_9_code
def yX5_findAnew : MethodName := ⟨RX5, "findAnew", "(I)I"⟩
abbrev cX5_putIn : ByteArray := prog_7_method_10_code
def yX5_putIn : MethodName := ⟨RX5, "putIn", "(I)V"⟩
abbrev cX5_bringNote : ByteArray := prog_7_method_11_code
def yX5_bringNote : MethodName := ⟨RX5, "bringNote", "(III)V"⟩
abbrev cX5_putAllAnew : ByteArray := prog_7_method_12_code
def yX5_putAllAnew : MethodName := ⟨RX5, "putAllAnew", "()V"⟩
abbrev cX5_sortByStamps : ByteArray := prog_7_method_13_code
def yX5_sortByStamps : MethodName := ⟨RX5, "sortByStamps", "()V"⟩
abbrev cX5_placeByStamp : ByteArray := prog_7_method_14_code
def yX5_placeByStamp : MethodName := ⟨RX5, "placeByStamp", "(I)I"⟩
def RX6 : String := "Mergeparlour"
def TX6 : u_T := fun k => match k with
  | 0 => ("Mergeparlour", "ledger", "LMergeparlour$Ledger;", true)
  | 1 => ("Mergeparlour", "sites", "[LMergeparlour$Site;", true)
  | _ => ("Mergeparlour", "press", "LMergeparlour$Press;", true)
def tyX6 : Nat → FieldType := fun k => match k with
  | 0 => .object "Mergeparlour$Ledger"
  | 1 => .array (.object "Mergeparlour$Site")
  | _ => .object "Mergeparlour$Press"
abbrev wsX60 : List Cond := u_ws RX6 TX6 3
theorem nmX6 : ∀ a, a < 3 → ∀ b, b < 3 → a ≠ b → (TX6 a).2.1 ≠ (TX6 b).2.1 := by decide +kernel
theorem tyX6_ok : ∀ k, k < 3 → parseFieldDescriptor (TX6 k).2.2.1 = some (tyX6 k) := by decide +kernel
abbrev cX6_init : ByteArray := prog_1_method_1_code
def yX6_init : MethodName := ⟨RX6, "<init>", "()V"⟩
abbrev cX6_insert : ByteArray := prog_1_method_2_code
def yX6_insert : MethodName := ⟨RX6, "insert", "(IIIZ)I"⟩
abbrev cX6_remove : ByteArray := prog_1_method_3_code
def yX6_remove : MethodName := ⟨RX6, "remove", "(II)I"⟩
abbrev cX6_note : ByteArray := prog_1_method_4_code
def yX6_note : MethodName := ⟨RX6, "note", "(III)I"⟩
abbrev cX6_move : ByteArray := prog_1_method_5_code
def yX6_move : MethodName := ⟨RX6, "move", "(III)V"⟩
abbrev cX6_sync : ByteArray := prog_1_method_6_code
def yX6_sync : MethodName := ⟨RX6, "sync", "(II)I"⟩
abbrev cX6_print : ByteArray := prog_1_method_7_code
def yX6_print : MethodName := ⟨RX6, "print", "()I"⟩
abbrev cX6_sheets : ByteArray := prog_1_method_8_code
def yX6_sheets : MethodName := ⟨RX6, "sheets", "()I"⟩
abbrev cX6_differs : ByteArray := prog_1_method_9_code
def yX6_differs : MethodName := ⟨RX6, "differs", "(I)I"⟩
abbrev cX6_cost : ByteArray := prog_1_method_10_code
def yX6_cost : MethodName := ⟨RX6, "cost", "()I"⟩
abbrev cX6_lines : ByteArray := prog_1_method_11_code
def yX6_lines : MethodName := ⟨RX6, "lines", "(I)I"⟩
abbrev cX6_lineAt : ByteArray := prog_1_method_12_code
def yX6_lineAt : MethodName := ⟨RX6, "lineAt", "(III)I"⟩
abbrev cX6_lineAnew : ByteArray := prog_1_method_13_code
def yX6_lineAnew : MethodName := ⟨RX6, "lineAnew", "(II)I"⟩
abbrev cX6_noteAt : ByteArray := prog_1_method_14_code
def yX6_noteAt : MethodName := ⟨RX6, "noteAt", "(II)I"⟩
abbrev cX6_pages : ByteArray := prog_1_method_15_code
def yX6_pages : MethodName := ⟨RX6, "pages", "(I)I"⟩
abbrev cX6_aheadAnew : ByteArray := prog_1_method_16_code
def yX6_aheadAnew : MethodName := ⟨RX6, "aheadAnew", "(II)I"⟩
abbrev cX6_known : ByteArray := prog_1_method_17_code
def yX6_known : MethodName := ⟨RX6, "known", "(I)I"⟩
abbrev cX6_siteOf : ByteArray := prog_1_method_18_code
def yX6_siteOf : MethodName := ⟨RX6, "siteOf", "(I)LMergeparlour$Site;"⟩
abbrev cX6_checkLineIsKnown : ByteArray := prog_1_method_19_code
def yX6_checkLineIsKnown : MethodName := ⟨RX6, "checkLineIsKnown", "(LMergeparlour$Site;I)V"⟩
abbrev cX6_checkLineIsThere : ByteArray := prog_1_method_20_code
def yX6_checkLineIsThere : MethodName := ⟨RX6, "checkLineIsThere", "(LMergeparlour$Site;I)V"⟩
abbrev cX6_checkNoteIsKnown : ByteArray := prog_1_method_21_code
def yX6_checkNoteIsKnown : MethodName := ⟨RX6, "checkNoteIsKnown", "(LMergeparlour$Site;I)V"⟩
abbrev cX6_checkRoomForDeed : ByteArray := prog_1_method_22_code
def yX6_checkRoomForDeed : MethodName := ⟨RX6, "checkRoomForDeed", "()V"⟩
abbrev cX6_checkFromNought : ByteArray := prog_1_method_23_code
def yX6_checkFromNought : MethodName := ⟨RX6, "checkFromNought", "(I)V"⟩
def RX7 : String := "MergeparlourModel"
def TX7 : u_T := fun k => match k with
  | 0 => ("MergeparlourModel", "thrown", "I", false)
  | 1 => ("MergeparlourModel", "deeds", "I", false)
  | 2 => ("MergeparlourModel", "kind", "[I", true)
  | 3 => ("MergeparlourModel", "clockOf", "[I", true)
  | 4 => ("MergeparlourModel", "siteOf", "[I", true)
  | 5 => ("MergeparlourModel", "lineOf", "[I", true)
  | 6 => ("MergeparlourModel", "noteOf", "[I", true)
  | 7 => ("MergeparlourModel", "lines", "I", false)
  | 8 => ("MergeparlourModel", "madeBy", "[I", true)
  | 9 => ("MergeparlourModel", "behind", "[I", true)
  | 10 => ("MergeparlourModel", "value", "[I", true)
  | 11 => ("MergeparlourModel", "begins", "[Z", true)
  | 12 => ("MergeparlourModel", "notes", "I", false)
  | 13 => ("MergeparlourModel", "noteBy", "[I", true)
  | 14 => ("MergeparlourModel", "noteRows", "[I", true)
  | 15 => ("MergeparlourModel", "clock", "[I", true)
  | 16 => ("MergeparlourModel", "many", "[I", true)
  | 17 => ("MergeparlourModel", "knows", "[I", true)
  | 18 => ("MergeparlourModel", "has", "[Z", true)
  | 19 => ("MergeparlourModel", "sheets", "I", false)
  | 20 => ("MergeparlourModel", "printed", "[I", true)
  | 21 => ("MergeparlourModel", "printedLine", "[I", true)
  | 22 => ("MergeparlourModel", "printedRows", "[I", true)
  | 23 => ("MergeparlourModel", "all", "I", false)
  | 24 => ("MergeparlourModel", "order", "[I", true)
  | 25 => ("MergeparlourModel", "pile", "[I", true)
  | 26 => ("MergeparlourModel", "rowsThere", "I", false)
  | 27 => ("MergeparlourModel", "there", "[I", true)
  | 28 => ("MergeparlourModel", "rowsOf", "[I", true)
  | 29 => ("MergeparlourModel", "pageOf", "[I", true)
  | _ => ("MergeparlourModel", "pages", "I", false)
def tyX7 : Nat → FieldType := fun k => match k with
  | 0 => .int
  | 1 => .int
  | 2 => .array .int
  | 3 => .array .int
  | 4 => .array .int
  | 5 => .array .int
  | 6 => .array .int
  | 7 => .int
  | 8 => .array .int
  | 9 => .array .int
  | 10 => .array .int
  | 11 => .array .boolean
  | 12 => .int
  | 13 => .array .int
  | 14 => .array .int
  | 15 => .array .int
  | 16 => .array .int
  | 17 => .array .int
  | 18 => .array .boolean
  | 19 => .int
  | 20 => .array .int
  | 21 => .array .int
  | 22 => .array .int
  | 23 => .int
  | 24 => .array .int
  | 25 => .array .int
  | 26 => .int
  | 27 => .array .int
  | 28 => .array .int
  | 29 => .array .int
  | _ => .int
abbrev wsX70 : List Cond := u_ws RX7 TX7 31
theorem nmX7 : ∀ a, a < 31 → ∀ b, b < 31 → a ≠ b → (TX7 a).2.1 ≠ (TX7 b).2.1 := by decide +kernel
theorem tyX7_ok : ∀ k, k < 31 → parseFieldDescriptor (TX7 k).2.2.1 = some (tyX7 k) := by decide +kernel
abbrev cX7_init : ByteArray := prog_9_method_1_code
def yX7_init : MethodName := ⟨RX7, "<init>", "()V"⟩
abbrev cX7_thrown : ByteArray := prog_9_method_2_code
def yX7_thrown : MethodName := ⟨RX7, "thrown", "()I"⟩
abbrev cX7_goesWell : ByteArray := prog_9_method_3_code
def yX7_goesWell : MethodName := ⟨RX7, "goesWell", "(I)Z"⟩
abbrev cX7_in : ByteArray := prog_9_method_4_code
def yX7_in : MethodName := ⟨RX7, "in", "(III)Z"⟩
abbrev cX7_isSite : ByteArray := prog_9_method_5_code
def yX7_isSite : MethodName := ⟨RX7, "isSite", "(I)Z"⟩
abbrev cX7_knowsLine : ByteArray := prog_9_method_6_code
def yX7_knowsLine : MethodName := ⟨RX7, "knowsLine", "(II)Z"⟩
abbrev cX7_knowsNote : ByteArray := prog_9_method_7_code
def yX7_knowsNote : MethodName := ⟨RX7, "knowsNote", "(II)Z"⟩
abbrev cX7_isThere : ByteArray := prog_9_method_8_code
def yX7_isThere : MethodName := ⟨RX7, "isThere", "(II)Z"⟩
abbrev cX7_learn : ByteArray := prog_9_method_9_code
def yX7_learn : MethodName := ⟨RX7, "learn", "(II)V"⟩
abbrev cX7_deed : ByteArray := prog_9_method_10_code
def yX7_deed : MethodName := ⟨RX7, "deed", "(IIII)I"⟩
abbrev cX7_insert : ByteArray := prog_9_method_11_code
def yX7_insert : MethodName := ⟨RX7, "insert", "(IIIZ)I"⟩
abbrev cX7_remove : ByteArray := prog_9_method_12_code
def yX7_remove : MethodName := ⟨RX7, "remove", "(II)I"⟩
abbrev cX7_note : ByteArray := prog_9_method_13_code
def yX7_note : MethodName := ⟨RX7, "note", "(III)I"⟩
abbrev cX7_move : ByteArray := prog_9_method_14_code
def yX7_move : MethodName := ⟨RX7, "move", "(III)V"⟩
abbrev cX7_sync : ByteArray := prog_9_method_15_code
def yX7_sync : MethodName := ⟨RX7, "sync", "(II)I"⟩
abbrev cX7_isGreater : ByteArray := prog_9_method_16_code
def yX7_isGreater : MethodName := ⟨RX7, "isGreater", "(II)Z"⟩
abbrev cX7_pileUp : ByteArray := prog_9_method_17_code
def yX7_pileUp : MethodName := ⟨RX7, "pileUp", "(III)I"⟩
abbrev cX7_arrange : ByteArray := prog_9_method_18_code
def yX7_arrange : MethodName := ⟨RX7, "arrange", "(I)V"⟩
abbrev cX7_placeOf : ByteArray := prog_9_method_19_code
def yX7_placeOf : MethodName := ⟨RX7, "placeOf", "(II)I"⟩
abbrev cX7_layRows : ByteArray := prog_9_method_20_code
def yX7_layRows : MethodName := ⟨RX7, "layRows", "(I)V"⟩
abbrev cX7_isBegun : ByteArray := prog_9_method_21_code
def yX7_isBegun : MethodName := ⟨RX7, "isBegun", "(I)Z"⟩
abbrev cX7_isBad : ByteArray := prog_9_method_22_code
def yX7_isBad : MethodName := ⟨RX7, "isBad", "(I)Z"⟩
abbrev cX7_endOf : ByteArray := prog_9_method_23_code
def yX7_endOf : MethodName := ⟨RX7, "endOf", "(I)I"⟩
abbrev cX7_lay : ByteArray := prog_9_method_24_code
def yX7_lay : MethodName := ⟨RX7, "lay", "(I)V"⟩
abbrev cX7_print : ByteArray := prog_9_method_25_code
def yX7_print : MethodName := ⟨RX7, "print", "()I"⟩
abbrev cX7_sheets : ByteArray := prog_9_method_26_code
def yX7_sheets : MethodName := ⟨RX7, "sheets", "()I"⟩
abbrev cX7_unlike : ByteArray := prog_9_method_27_code
def yX7_unlike : MethodName := ⟨RX7, "unlike", "(I)I"⟩
abbrev cX7_differs : ByteArray := prog_9_method_28_code
def yX7_differs : MethodName := ⟨RX7, "differs", "(I)I"⟩
abbrev cX7_cost : ByteArray := prog_9_method_29_code
def yX7_cost : MethodName := ⟨RX7, "cost", "()I"⟩
abbrev cX7_lines : ByteArray := prog_9_method_30_code
def yX7_lines : MethodName := ⟨RX7, "lines", "(I)I"⟩
abbrev cX7_lineAt : ByteArray := prog_9_method_31_code
def yX7_lineAt : MethodName := ⟨RX7, "lineAt", "(III)I"⟩
abbrev cX7_lineAnew : ByteArray := prog_9_method_32_code
def yX7_lineAnew : MethodName := ⟨RX7, "lineAnew", "(II)I"⟩
abbrev cX7_noteAt : ByteArray := prog_9_method_33_code
def yX7_noteAt : MethodName := ⟨RX7, "noteAt", "(II)I"⟩
abbrev cX7_pages : ByteArray := prog_9_method_34_code
def yX7_pages : MethodName := ⟨RX7, "pages", "(I)I"⟩
abbrev cX7_aheadAnew : ByteArray := prog_9_method_35_code
def yX7_aheadAnew : MethodName := ⟨RX7, "aheadAnew", "(II)I"⟩
abbrev cX7_known : ByteArray := prog_9_method_36_code
def yX7_known : MethodName := ⟨RX7, "known", "(I)I"⟩
def RJx145de : String := "java/io/Serializable"
def TJx145de : u_T := fun k => match k with
  | _ => ("", "", "", false)
def tyJx145de : Nat → FieldType := fun k => match k with
  | _ => .int
abbrev wsJx145de0 : List Cond := u_ws RJx145de TJx145de 0
def RJ9 : String := "java/lang/Math"
def TJ9 : u_T := fun k => match k with
  | _ => ("", "", "", false)
def tyJ9 : Nat → FieldType := fun k => match k with
  | _ => .int
abbrev wsJ90 : List Cond := u_ws RJ9 TJ9 0
abbrev cJ9_max_7cf53 : ByteArray := prog_15_method_65_code
def yJ9_max_7cf53 : MethodName := ⟨RJ9, "max", "(II)I"⟩
abbrev cJ9_min_7cf53 : ByteArray := prog_15_method_69_code
def yJ9_min_7cf53 : MethodName := ⟨RJ9, "min", "(II)I"⟩
def RJ0 : String := "java/lang/String"
def TJ0 : u_T := fun k => match k with
  | _ => ("", "", "", false)
def tyJ0 : Nat → FieldType := fun k => match k with
  | _ => .int
abbrev wsJ00 : List Cond := u_ws RJ0 TJ0 0
def RL : String := "MergeparlourLaw"
abbrev cL_insert : ByteArray := method_3_code
def yL_insert : MethodName := ⟨RL, "insert", "(LMergeparlour;IIIZ[J)I"⟩
abbrev cL_remove : ByteArray := method_4_code
def yL_remove : MethodName := ⟨RL, "remove", "(LMergeparlour;II[J)I"⟩
abbrev cL_note : ByteArray := method_5_code
def yL_note : MethodName := ⟨RL, "note", "(LMergeparlour;III[J)I"⟩
abbrev cL_move : ByteArray := method_6_code
def yL_move : MethodName := ⟨RL, "move", "(LMergeparlour;III)I"⟩
abbrev cL_sync : ByteArray := method_7_code
def yL_sync : MethodName := ⟨RL, "sync", "(LMergeparlour;II[J)I"⟩
abbrev cL_print : ByteArray := method_8_code
def yL_print : MethodName := ⟨RL, "print", "(LMergeparlour;[J)I"⟩
abbrev cL_differs : ByteArray := method_9_code
def yL_differs : MethodName := ⟨RL, "differs", "(LMergeparlour;I[J)I"⟩
abbrev cL_lines : ByteArray := method_10_code
def yL_lines : MethodName := ⟨RL, "lines", "(LMergeparlour;I[J)I"⟩
abbrev cL_lineAt : ByteArray := method_11_code
def yL_lineAt : MethodName := ⟨RL, "lineAt", "(LMergeparlour;III[J)I"⟩
abbrev cL_lineAnew : ByteArray := method_12_code
def yL_lineAnew : MethodName := ⟨RL, "lineAnew", "(LMergeparlour;II[J)I"⟩
abbrev cL_noteAt : ByteArray := method_13_code
def yL_noteAt : MethodName := ⟨RL, "noteAt", "(LMergeparlour;II[J)I"⟩
abbrev cL_pages : ByteArray := method_14_code
def yL_pages : MethodName := ⟨RL, "pages", "(LMergeparlour;I[J)I"⟩
abbrev cL_aheadAnew : ByteArray := method_15_code
def yL_aheadAnew : MethodName := ⟨RL, "aheadAnew", "(LMergeparlour;II[J)I"⟩
abbrev cL_known : ByteArray := method_16_code
def yL_known : MethodName := ⟨RL, "known", "(LMergeparlour;I[J)I"⟩
abbrev cL_law : ByteArray := code
def yL_law : MethodName := ⟨RL, "law", "([I)Z"⟩
abbrev vwCl : List vw_C := [(RX0, TX0, 6), (RX1, TX1, 9), (RX2, TX2, 2), (RX3, TX3, 4), (RX4, TX4, 6), (RX5, TX5, 7), (RX6, TX6, 3), (RX7, TX7, 31)]
end
section
/-- every good word of the tables; each method takes all of them -/
def wsAll : List Cond := lw_tbl.filter goodWord
theorem wdA {w : Cond} (h : w ∈ tables_1) (g : goodWord w = true) : w ∈ wsAll := List.mem_filter.mpr ⟨List.mem_append_right _ h, g⟩
theorem wdS {q : MethodName × Nat} (h : q ∈ lw_privs) (g : goodWord (Cond.selects q.1.cls q.1 q.1) = true) : Cond.selects q.1.cls q.1 q.1 ∈ wsAll := List.mem_filter.mpr ⟨List.mem_append_left _ (List.mem_map.mpr ⟨q, h, rfl⟩), g⟩
theorem wsAll_in : ∀ w ∈ wsAll, w ∈ lw_tbl := fun w h => (List.mem_filter.mp h).1
theorem wsAll_good {h : Cond} : GoodIn (h :: wsAll) wsAll := fun w hw => ⟨List.mem_cons_of_mem _ hw, good_of_word (List.mem_filter.mp hw).2⟩
theorem gAll {h w : Cond} (hw : w ∈ wsAll) : GoodIn (h :: wsAll) (w :: wsAll) := fun x hx => (List.mem_cons.mp hx).elim (fun e => by rw [e]; exact ⟨List.mem_cons_of_mem _ hw, good_of_word (List.mem_filter.mp hw).2⟩) (fun hx => wsAll_good x hx)
theorem gAllV {h w : Cond} {own C : String} {idx : Nat} {y : MethodName} (h1 : Cond.methodLink own idx y ∈ wsAll) (h2 : Cond.instanceMethod y ∈ wsAll) (h3 : Cond.selects C y y ∈ wsAll) (h4 : Cond.initialized C ∈ wsAll) (hw : w ∈ wsAll) : GoodIn (h :: wsAll) (wsV own idx C y (w :: wsAll)) := by
  have k : ∀ {w : Cond}, w ∈ wsAll → w ∈ h :: wsAll ∧ ((w.onTables && w.keeps) = true ∨ ∃ ty, w = .arrayClass ty) := fun hw => ⟨List.mem_cons_of_mem _ hw, good_of_word (List.mem_filter.mp hw).2⟩
  intro x hx
  rcases List.mem_append.mp hx with hx | hx
  · simp only [List.mem_cons, List.not_mem_nil, or_false] at hx
    rcases hx with rfl | rfl | rfl | rfl
    · exact k h1
    · exact k h2
    · exact k h3
    · exact k h4
  · exact gAll hw x hx
theorem gAllS {h w : Cond} {own : String} {idx : Nat} {y : MethodName} (h1 : Cond.methodLink own idx y ∈ wsAll) (h2 : Cond.static y ∈ wsAll) (h3 : Cond.initialized own ∈ wsAll) (hw : w ∈ wsAll) : GoodIn (h :: wsAll) (wsS own idx y (w :: wsAll)) := by
  have k : ∀ {w : Cond}, w ∈ wsAll → w ∈ h :: wsAll ∧ ((w.onTables && w.keeps) = true ∨ ∃ ty, w = .arrayClass ty) := fun hw => ⟨List.mem_cons_of_mem _ hw, good_of_word (List.mem_filter.mp hw).2⟩
  intro x hx
  rcases List.mem_append.mp hx with hx | hx
  · simp only [List.mem_cons, List.not_mem_nil, or_false] at hx
    rcases hx with rfl | rfl | rfl
    · exact k h1
    · exact k h2
    · exact k h3
  · exact gAll hw x hx
theorem wd_0 : (Jvm.Cond.initialized "MergeparlourLaw") ∈ wsAll := wdA (List.mem_of_getElem? (i := 0) (by decide +kernel)) (by decide +kernel)
theorem wd_1 : (Jvm.Cond.initialized "Mergeparlour") ∈ wsAll := wdA (List.mem_of_getElem? (i := 1) (by decide +kernel)) (by decide +kernel)
theorem wd_2 : (Jvm.Cond.initialized "Mergeparlour$Ledger") ∈ wsAll := wdA (List.mem_of_getElem? (i := 2) (by decide +kernel)) (by decide +kernel)
theorem wd_3 : (Jvm.Cond.initialized "Mergeparlour$Numbers") ∈ wsAll := wdA (List.mem_of_getElem? (i := 3) (by decide +kernel)) (by decide +kernel)
theorem wd_4 : (Jvm.Cond.initialized "java/lang/Math") ∈ wsAll := wdA (List.mem_of_getElem? (i := 4) (by decide +kernel)) (by decide +kernel)
theorem wd_5 : (Jvm.Cond.initialized "Mergeparlour$Site") ∈ wsAll := wdA (List.mem_of_getElem? (i := 5) (by decide +kernel)) (by decide +kernel)
theorem wd_6 : (Jvm.Cond.initialized "Mergeparlour$Text") ∈ wsAll := wdA (List.mem_of_getElem? (i := 6) (by decide +kernel)) (by decide +kernel)
theorem wd_7 : (Jvm.Cond.initialized "Mergeparlour$Layout") ∈ wsAll := wdA (List.mem_of_getElem? (i := 7) (by decide +kernel)) (by decide +kernel)
theorem wd_8 : (Jvm.Cond.initialized "Mergeparlour$Press") ∈ wsAll := wdA (List.mem_of_getElem? (i := 8) (by decide +kernel)) (by decide +kernel)
theorem wd_9 : (Jvm.Cond.initialized "MergeparlourModel") ∈ wsAll := wdA (List.mem_of_getElem? (i := 9) (by decide +kernel)) (by decide +kernel)
theorem wd_10 : (Jvm.Cond.initialized "java/lang/Throwable") ∈ wsAll := wdA (List.mem_of_getElem? (i := 10) (by decide +kernel)) (by decide +kernel)
theorem wd_11 : (Jvm.Cond.initialized "java/lang/Exception") ∈ wsAll := wdA (List.mem_of_getElem? (i := 11) (by decide +kernel)) (by decide +kernel)
theorem wd_12 : (Jvm.Cond.initialized "java/lang/RuntimeException") ∈ wsAll := wdA (List.mem_of_getElem? (i := 12) (by decide +kernel)) (by decide +kernel)
theorem wd_13 : (Jvm.Cond.initialized "java/lang/IndexOutOfBoundsException") ∈ wsAll := wdA (List.mem_of_getElem? (i := 13) (by decide +kernel)) (by decide +kernel)
theorem wd_14 : (Jvm.Cond.initialized "java/lang/IllegalArgumentException") ∈ wsAll := wdA (List.mem_of_getElem? (i := 14) (by decide +kernel)) (by decide +kernel)
theorem wd_15 : (Jvm.Cond.initialized "java/lang/IllegalStateException") ∈ wsAll := wdA (List.mem_of_getElem? (i := 15) (by decide +kernel)) (by decide +kernel)
theorem wd_16 : (Jvm.Cond.initialized "java/util/NoSuchElementException") ∈ wsAll := wdA (List.mem_of_getElem? (i := 16) (by decide +kernel)) (by decide +kernel)
theorem wd_17 : (Jvm.Cond.classLink "MergeparlourLaw" (8 : Nat) "Mergeparlour") ∈ wsAll := wdA (List.mem_of_getElem? (i := 17) (by decide +kernel)) (by decide +kernel)
theorem wd_18 : (Jvm.Cond.instantiable "Mergeparlour" (3 : Nat)) ∈ wsAll := wdA (List.mem_of_getElem? (i := 18) (by decide +kernel)) (by decide +kernel)
theorem wd_19 : (Jvm.Cond.methodLink "MergeparlourLaw" (65 : Nat) ({ cls := "Mergeparlour", name := "<init>", desc := "()V" } : Jvm.MethodName)) ∈ wsAll := wdA (List.mem_of_getElem? (i := 19) (by decide +kernel)) (by decide +kernel)
theorem wd_20 : (Jvm.Cond.instanceMethod ({ cls := "Mergeparlour", name := "<init>", desc := "()V" } : Jvm.MethodName)) ∈ wsAll := wdA (List.mem_of_getElem? (i := 20) (by decide +kernel)) (by decide +kernel)
theorem wd_21 : (Jvm.Cond.code ({ cls := "Mergeparlour", name := "<init>", desc := "()V" } : Jvm.MethodName) prog_1_method_1_code (2 : Nat) (Option.none : Option Jvm.ClassFile.FieldType)) ∈ wsAll := wdA (List.mem_of_getElem? (i := 21) (by decide +kernel)) (by decide +kernel)
theorem wd_22 : (Jvm.Cond.methodLink "Mergeparlour" (1 : Nat) ({ cls := "java/lang/Object", name := "<init>", desc := "()V" } : Jvm.MethodName)) ∈ wsAll := wdA (List.mem_of_getElem? (i := 22) (by decide +kernel)) (by decide +kernel)
theorem wd_23 : (Jvm.Cond.instanceMethod ({ cls := "java/lang/Object", name := "<init>", desc := "()V" } : Jvm.MethodName)) ∈ wsAll := wdA (List.mem_of_getElem? (i := 23) (by decide +kernel)) (by decide +kernel)
theorem wd_24 : (Jvm.Cond.code ({ cls := "java/lang/Object", name := "<init>", desc := "()V" } : Jvm.MethodName) object_method_1_code (1 : Nat) (Option.none : Option Jvm.ClassFile.FieldType)) ∈ wsAll := wdA (List.mem_of_getElem? (i := 24) (by decide +kernel)) (by decide +kernel)
theorem wd_25 : (Jvm.Cond.classLink "Mergeparlour" (7 : Nat) "Mergeparlour$Ledger") ∈ wsAll := wdA (List.mem_of_getElem? (i := 25) (by decide +kernel)) (by decide +kernel)
theorem wd_26 : (Jvm.Cond.instantiable "Mergeparlour$Ledger" (9 : Nat)) ∈ wsAll := wdA (List.mem_of_getElem? (i := 26) (by decide +kernel)) (by decide +kernel)
theorem wd_28 : (Jvm.Cond.instanceMethod ({ cls := "Mergeparlour$Ledger", name := "<init>", desc := "()V" } : Jvm.MethodName)) ∈ wsAll := wdA (List.mem_of_getElem? (i := 28) (by decide +kernel)) (by decide +kernel)
theorem wd_29 : (Jvm.Cond.code ({ cls := "Mergeparlour$Ledger", name := "<init>", desc := "()V" } : Jvm.MethodName) prog_3_method_1_code (1 : Nat) (Option.none : Option Jvm.ClassFile.FieldType)) ∈ wsAll := wdA (List.mem_of_getElem? (i := 29) (by decide +kernel)) (by decide +kernel)
theorem wd_30 : (Jvm.Cond.methodLink "Mergeparlour$Ledger" (3 : Nat) ({ cls := "java/lang/Object", name := "<init>", desc := "()V" } : Jvm.MethodName)) ∈ wsAll := wdA (List.mem_of_getElem? (i := 30) (by decide +kernel)) (by decide +kernel)
theorem wd_31 : (Jvm.Cond.classLink "Mergeparlour$Ledger" (9 : Nat) "Mergeparlour$Numbers") ∈ wsAll := wdA (List.mem_of_getElem? (i := 31) (by decide +kernel)) (by decide +kernel)
theorem wd_32 : (Jvm.Cond.instantiable "Mergeparlour$Numbers" (2 : Nat)) ∈ wsAll := wdA (List.mem_of_getElem? (i := 32) (by decide +kernel)) (by decide +kernel)
theorem wd_33 : (Jvm.Cond.methodLink "Mergeparlour$Ledger" (11 : Nat) ({ cls := "Mergeparlour$Numbers", name := "<init>", desc := "(I)V" } : Jvm.MethodName)) ∈ wsAll := wdA (List.mem_of_getElem? (i := 33) (by decide +kernel)) (by decide +kernel)
theorem wd_34 : (Jvm.Cond.instanceMethod ({ cls := "Mergeparlour$Numbers", name := "<init>", desc := "(I)V" } : Jvm.MethodName)) ∈ wsAll := wdA (List.mem_of_getElem? (i := 34) (by decide +kernel)) (by decide +kernel)
theorem wd_35 : (Jvm.Cond.code ({ cls := "Mergeparlour$Numbers", name := "<init>", desc := "(I)V" } : Jvm.MethodName) prog_4_method_1_code (3 : Nat) (Option.none : Option Jvm.ClassFile.FieldType)) ∈ wsAll := wdA (List.mem_of_getElem? (i := 35) (by decide +kernel)) (by decide +kernel)
theorem wd_36 : (Jvm.Cond.methodLink "Mergeparlour$Numbers" (3 : Nat) ({ cls := "java/lang/Object", name := "<init>", desc := "()V" } : Jvm.MethodName)) ∈ wsAll := wdA (List.mem_of_getElem? (i := 36) (by decide +kernel)) (by decide +kernel)
theorem wd_37 : (Jvm.Cond.methodLink "Mergeparlour$Numbers" (9 : Nat) ({ cls := "java/lang/Math", name := "max", desc := "(II)I" } : Jvm.MethodName)) ∈ wsAll := wdA (List.mem_of_getElem? (i := 37) (by decide +kernel)) (by decide +kernel)
theorem wd_38 : (Jvm.Cond.static ({ cls := "java/lang/Math", name := "max", desc := "(II)I" } : Jvm.MethodName)) ∈ wsAll := wdA (List.mem_of_getElem? (i := 38) (by decide +kernel)) (by decide +kernel)
theorem wd_39 : (Jvm.Cond.code ({ cls := "java/lang/Math", name := "max", desc := "(II)I" } : Jvm.MethodName) prog_15_method_65_code (2 : Nat) (Option.some Jvm.ClassFile.FieldType.int)) ∈ wsAll := wdA (List.mem_of_getElem? (i := 39) (by decide +kernel)) (by decide +kernel)
theorem wd_40 : (Jvm.Cond.fieldLink "Mergeparlour$Numbers" (15 : Nat) "Mergeparlour$Numbers" "cells" "[I") ∈ wsAll := wdA (List.mem_of_getElem? (i := 40) (by decide +kernel)) (by decide +kernel)
theorem wd_41 : (Jvm.Cond.fieldLink "Mergeparlour$Numbers" (21 : Nat) "Mergeparlour$Numbers" "size" "I") ∈ wsAll := wdA (List.mem_of_getElem? (i := 41) (by decide +kernel)) (by decide +kernel)
theorem wd_42 : (Jvm.Cond.laysFinal "Mergeparlour$Numbers" "Mergeparlour$Numbers" "cells" "[I") ∈ wsAll := wdA (List.mem_of_getElem? (i := 42) (by decide +kernel)) (by decide +kernel)
theorem wd_44 : (Jvm.Cond.lays "Mergeparlour$Numbers" "Mergeparlour$Numbers" "size" "I") ∈ wsAll := wdA (List.mem_of_getElem? (i := 44) (by decide +kernel)) (by decide +kernel)
theorem wd_46 : (Jvm.Cond.superclass "Mergeparlour$Numbers" "java/lang/Object") ∈ wsAll := wdA (List.mem_of_getElem? (i := 46) (by decide +kernel)) (by decide +kernel)
theorem wd_47 : (Jvm.Cond.arrayClass Jvm.ClassFile.FieldType.int) ∈ wsAll := wdA (List.mem_of_getElem? (i := 47) (by decide +kernel)) (by decide +kernel)
theorem wd_48 : (Jvm.Cond.fieldLink "Mergeparlour$Ledger" (14 : Nat) "Mergeparlour$Ledger" "kinds" "LMergeparlour$Numbers;") ∈ wsAll := wdA (List.mem_of_getElem? (i := 48) (by decide +kernel)) (by decide +kernel)
theorem wd_49 : (Jvm.Cond.fieldLink "Mergeparlour$Ledger" (20 : Nat) "Mergeparlour$Ledger" "stamps" "LMergeparlour$Numbers;") ∈ wsAll := wdA (List.mem_of_getElem? (i := 49) (by decide +kernel)) (by decide +kernel)
theorem wd_50 : (Jvm.Cond.fieldLink "Mergeparlour$Ledger" (23 : Nat) "Mergeparlour$Ledger" "subjects" "LMergeparlour$Numbers;") ∈ wsAll := wdA (List.mem_of_getElem? (i := 50) (by decide +kernel)) (by decide +kernel)
theorem wd_51 : (Jvm.Cond.fieldLink "Mergeparlour$Ledger" (26 : Nat) "Mergeparlour$Ledger" "targets" "LMergeparlour$Numbers;") ∈ wsAll := wdA (List.mem_of_getElem? (i := 51) (by decide +kernel)) (by decide +kernel)
theorem wd_52 : (Jvm.Cond.fieldLink "Mergeparlour$Ledger" (29 : Nat) "Mergeparlour$Ledger" "lineStamps" "LMergeparlour$Numbers;") ∈ wsAll := wdA (List.mem_of_getElem? (i := 52) (by decide +kernel)) (by decide +kernel)
theorem wd_53 : (Jvm.Cond.fieldLink "Mergeparlour$Ledger" (32 : Nat) "Mergeparlour$Ledger" "lineBehinds" "LMergeparlour$Numbers;") ∈ wsAll := wdA (List.mem_of_getElem? (i := 53) (by decide +kernel)) (by decide +kernel)
theorem wd_54 : (Jvm.Cond.fieldLink "Mergeparlour$Ledger" (35 : Nat) "Mergeparlour$Ledger" "lineValues" "LMergeparlour$Numbers;") ∈ wsAll := wdA (List.mem_of_getElem? (i := 54) (by decide +kernel)) (by decide +kernel)
theorem wd_55 : (Jvm.Cond.fieldLink "Mergeparlour$Ledger" (38 : Nat) "Mergeparlour$Ledger" "lineBegins" "LMergeparlour$Numbers;") ∈ wsAll := wdA (List.mem_of_getElem? (i := 55) (by decide +kernel)) (by decide +kernel)
theorem wd_56 : (Jvm.Cond.fieldLink "Mergeparlour$Ledger" (41 : Nat) "Mergeparlour$Ledger" "noteRows" "LMergeparlour$Numbers;") ∈ wsAll := wdA (List.mem_of_getElem? (i := 56) (by decide +kernel)) (by decide +kernel)
theorem wd_57 : (Jvm.Cond.laysFinal "Mergeparlour$Ledger" "Mergeparlour$Ledger" "kinds" "LMergeparlour$Numbers;") ∈ wsAll := wdA (List.mem_of_getElem? (i := 57) (by decide +kernel)) (by decide +kernel)
theorem wd_59 : (Jvm.Cond.laysFinal "Mergeparlour$Ledger" "Mergeparlour$Ledger" "stamps" "LMergeparlour$Numbers;") ∈ wsAll := wdA (List.mem_of_getElem? (i := 59) (by decide +kernel)) (by decide +kernel)
theorem wd_61 : (Jvm.Cond.laysFinal "Mergeparlour$Ledger" "Mergeparlour$Ledger" "subjects" "LMergeparlour$Numbers;") ∈ wsAll := wdA (List.mem_of_getElem? (i := 61) (by decide +kernel)) (by decide +kernel)
theorem wd_63 : (Jvm.Cond.laysFinal "Mergeparlour$Ledger" "Mergeparlour$Ledger" "targets" "LMergeparlour$Numbers;") ∈ wsAll := wdA (List.mem_of_getElem? (i := 63) (by decide +kernel)) (by decide +kernel)
theorem wd_65 : (Jvm.Cond.laysFinal "Mergeparlour$Ledger" "Mergeparlour$Ledger" "lineStamps" "LMergeparlour$Numbers;") ∈ wsAll := wdA (List.mem_of_getElem? (i := 65) (by decide +kernel)) (by decide +kernel)
theorem wd_67 : (Jvm.Cond.laysFinal "Mergeparlour$Ledger" "Mergeparlour$Ledger" "lineBehinds" "LMergeparlour$Numbers;") ∈ wsAll := wdA (List.mem_of_getElem? (i := 67) (by decide +kernel)) (by decide +kernel)
theorem wd_69 : (Jvm.Cond.laysFinal "Mergeparlour$Ledger" "Mergeparlour$Ledger" "lineValues" "LMergeparlour$Numbers;") ∈ wsAll := wdA (List.mem_of_getElem? (i := 69) (by decide +kernel)) (by decide +kernel)
theorem wd_71 : (Jvm.Cond.laysFinal "Mergeparlour$Ledger" "Mergeparlour$Ledger" "lineBegins" "LMergeparlour$Numbers;") ∈ wsAll := wdA (List.mem_of_getElem? (i := 71) (by decide +kernel)) (by decide +kernel)
theorem wd_73 : (Jvm.Cond.laysFinal "Mergeparlour$Ledger" "Mergeparlour$Ledger" "noteRows" "LMergeparlour$Numbers;") ∈ wsAll := wdA (List.mem_of_getElem? (i := 73) (by decide +kernel)) (by decide +kernel)
theorem wd_75 : (Jvm.Cond.superclass "Mergeparlour$Ledger" "java/lang/Object") ∈ wsAll := wdA (List.mem_of_getElem? (i := 75) (by decide +kernel)) (by decide +kernel)
theorem wd_76 : (Jvm.Cond.classLink "Mergeparlour" (16 : Nat) "Mergeparlour$Site") ∈ wsAll := wdA (List.mem_of_getElem? (i := 76) (by decide +kernel)) (by decide +kernel)
theorem wd_78 : (Jvm.Cond.instantiable "Mergeparlour$Site" (6 : Nat)) ∈ wsAll := wdA (List.mem_of_getElem? (i := 78) (by decide +kernel)) (by decide +kernel)
theorem wd_79 : (Jvm.Cond.methodLink "Mergeparlour" (22 : Nat) ({ cls := "Mergeparlour$Site", name := "<init>", desc := "(ILMergeparlour$Ledger;)V" } : Jvm.MethodName)) ∈ wsAll := wdA (List.mem_of_getElem? (i := 79) (by decide +kernel)) (by decide +kernel)
theorem wd_80 : (Jvm.Cond.instanceMethod ({ cls := "Mergeparlour$Site", name := "<init>", desc := "(ILMergeparlour$Ledger;)V" } : Jvm.MethodName)) ∈ wsAll := wdA (List.mem_of_getElem? (i := 80) (by decide +kernel)) (by decide +kernel)
theorem wd_81 : (Jvm.Cond.code ({ cls := "Mergeparlour$Site", name := "<init>", desc := "(ILMergeparlour$Ledger;)V" } : Jvm.MethodName) prog_6_method_1_code (3 : Nat) (Option.none : Option Jvm.ClassFile.FieldType)) ∈ wsAll := wdA (List.mem_of_getElem? (i := 81) (by decide +kernel)) (by decide +kernel)
theorem wd_82 : (Jvm.Cond.methodLink "Mergeparlour$Site" (3 : Nat) ({ cls := "java/lang/Object", name := "<init>", desc := "()V" } : Jvm.MethodName)) ∈ wsAll := wdA (List.mem_of_getElem? (i := 82) (by decide +kernel)) (by decide +kernel)
theorem wd_83 : (Jvm.Cond.classLink "Mergeparlour$Site" (9 : Nat) "Mergeparlour$Numbers") ∈ wsAll := wdA (List.mem_of_getElem? (i := 83) (by decide +kernel)) (by decide +kernel)
theorem wd_84 : (Jvm.Cond.methodLink "Mergeparlour$Site" (11 : Nat) ({ cls := "Mergeparlour$Numbers", name := "<init>", desc := "(I)V" } : Jvm.MethodName)) ∈ wsAll := wdA (List.mem_of_getElem? (i := 84) (by decide +kernel)) (by decide +kernel)
theorem wd_85 : (Jvm.Cond.classLink "Mergeparlour$Site" (27 : Nat) "Mergeparlour$Text") ∈ wsAll := wdA (List.mem_of_getElem? (i := 85) (by decide +kernel)) (by decide +kernel)
theorem wd_86 : (Jvm.Cond.instantiable "Mergeparlour$Text" (7 : Nat)) ∈ wsAll := wdA (List.mem_of_getElem? (i := 86) (by decide +kernel)) (by decide +kernel)
theorem wd_87 : (Jvm.Cond.methodLink "Mergeparlour$Site" (29 : Nat) ({ cls := "Mergeparlour$Text", name := "<init>", desc := "(LMergeparlour$Ledger;)V" } : Jvm.MethodName)) ∈ wsAll := wdA (List.mem_of_getElem? (i := 87) (by decide +kernel)) (by decide +kernel)
theorem wd_88 : (Jvm.Cond.instanceMethod ({ cls := "Mergeparlour$Text", name := "<init>", desc := "(LMergeparlour$Ledger;)V" } : Jvm.MethodName)) ∈ wsAll := wdA (List.mem_of_getElem? (i := 88) (by decide +kernel)) (by decide +kernel)
theorem wd_89 : (Jvm.Cond.code ({ cls := "Mergeparlour$Text", name := "<init>", desc := "(LMergeparlour$Ledger;)V" } : Jvm.MethodName) prog_7_method_1_code (2 : Nat) (Option.none : Option Jvm.ClassFile.FieldType)) ∈ wsAll := wdA (List.mem_of_getElem? (i := 89) (by decide +kernel)) (by decide +kernel)
theorem wd_90 : (Jvm.Cond.methodLink "Mergeparlour$Text" (3 : Nat) ({ cls := "java/lang/Object", name := "<init>", desc := "()V" } : Jvm.MethodName)) ∈ wsAll := wdA (List.mem_of_getElem? (i := 90) (by decide +kernel)) (by decide +kernel)
theorem wd_91 : (Jvm.Cond.classLink "Mergeparlour$Text" (9 : Nat) "Mergeparlour$Numbers") ∈ wsAll := wdA (List.mem_of_getElem? (i := 91) (by decide +kernel)) (by decide +kernel)
theorem wd_92 : (Jvm.Cond.methodLink "Mergeparlour$Text" (11 : Nat) ({ cls := "Mergeparlour$Numbers", name := "<init>", desc := "(I)V" } : Jvm.MethodName)) ∈ wsAll := wdA (List.mem_of_getElem? (i := 92) (by decide +kernel)) (by decide +kernel)
theorem wd_93 : (Jvm.Cond.fieldLink "Mergeparlour$Text" (35 : Nat) "Mergeparlour$Text" "ledger" "LMergeparlour$Ledger;") ∈ wsAll := wdA (List.mem_of_getElem? (i := 93) (by decide +kernel)) (by decide +kernel)
theorem wd_94 : (Jvm.Cond.fieldLink "Mergeparlour$Text" (14 : Nat) "Mergeparlour$Text" "order" "LMergeparlour$Numbers;") ∈ wsAll := wdA (List.mem_of_getElem? (i := 94) (by decide +kernel)) (by decide +kernel)
theorem wd_95 : (Jvm.Cond.fieldLink "Mergeparlour$Text" (20 : Nat) "Mergeparlour$Text" "orderAnew" "LMergeparlour$Numbers;") ∈ wsAll := wdA (List.mem_of_getElem? (i := 95) (by decide +kernel)) (by decide +kernel)
theorem wd_96 : (Jvm.Cond.fieldLink "Mergeparlour$Text" (23 : Nat) "Mergeparlour$Text" "byStamps" "LMergeparlour$Numbers;") ∈ wsAll := wdA (List.mem_of_getElem? (i := 96) (by decide +kernel)) (by decide +kernel)
theorem wd_97 : (Jvm.Cond.fieldLink "Mergeparlour$Text" (26 : Nat) "Mergeparlour$Text" "standings" "LMergeparlour$Numbers;") ∈ wsAll := wdA (List.mem_of_getElem? (i := 97) (by decide +kernel)) (by decide +kernel)
theorem wd_98 : (Jvm.Cond.fieldLink "Mergeparlour$Text" (29 : Nat) "Mergeparlour$Text" "noteLines" "LMergeparlour$Numbers;") ∈ wsAll := wdA (List.mem_of_getElem? (i := 98) (by decide +kernel)) (by decide +kernel)
theorem wd_99 : (Jvm.Cond.fieldLink "Mergeparlour$Text" (32 : Nat) "Mergeparlour$Text" "noteStamps" "LMergeparlour$Numbers;") ∈ wsAll := wdA (List.mem_of_getElem? (i := 99) (by decide +kernel)) (by decide +kernel)
theorem wd_100 : (Jvm.Cond.laysFinal "Mergeparlour$Text" "Mergeparlour$Text" "ledger" "LMergeparlour$Ledger;") ∈ wsAll := wdA (List.mem_of_getElem? (i := 100) (by decide +kernel)) (by decide +kernel)
theorem wd_102 : (Jvm.Cond.laysFinal "Mergeparlour$Text" "Mergeparlour$Text" "order" "LMergeparlour$Numbers;") ∈ wsAll := wdA (List.mem_of_getElem? (i := 102) (by decide +kernel)) (by decide +kernel)
theorem wd_104 : (Jvm.Cond.laysFinal "Mergeparlour$Text" "Mergeparlour$Text" "orderAnew" "LMergeparlour$Numbers;") ∈ wsAll := wdA (List.mem_of_getElem? (i := 104) (by decide +kernel)) (by decide +kernel)
theorem wd_106 : (Jvm.Cond.laysFinal "Mergeparlour$Text" "Mergeparlour$Text" "byStamps" "LMergeparlour$Numbers;") ∈ wsAll := wdA (List.mem_of_getElem? (i := 106) (by decide +kernel)) (by decide +kernel)
theorem wd_108 : (Jvm.Cond.laysFinal "Mergeparlour$Text" "Mergeparlour$Text" "standings" "LMergeparlour$Numbers;") ∈ wsAll := wdA (List.mem_of_getElem? (i := 108) (by decide +kernel)) (by decide +kernel)
theorem wd_110 : (Jvm.Cond.laysFinal "Mergeparlour$Text" "Mergeparlour$Text" "noteLines" "LMergeparlour$Numbers;") ∈ wsAll := wdA (List.mem_of_getElem? (i := 110) (by decide +kernel)) (by decide +kernel)
theorem wd_112 : (Jvm.Cond.laysFinal "Mergeparlour$Text" "Mergeparlour$Text" "noteStamps" "LMergeparlour$Numbers;") ∈ wsAll := wdA (List.mem_of_getElem? (i := 112) (by decide +kernel)) (by decide +kernel)
theorem wd_114 : (Jvm.Cond.superclass "Mergeparlour$Text" "java/lang/Object") ∈ wsAll := wdA (List.mem_of_getElem? (i := 114) (by decide +kernel)) (by decide +kernel)
theorem wd_115 : (Jvm.Cond.classLink "Mergeparlour$Site" (36 : Nat) "Mergeparlour$Layout") ∈ wsAll := wdA (List.mem_of_getElem? (i := 115) (by decide +kernel)) (by decide +kernel)
theorem wd_116 : (Jvm.Cond.instantiable "Mergeparlour$Layout" (6 : Nat)) ∈ wsAll := wdA (List.mem_of_getElem? (i := 116) (by decide +kernel)) (by decide +kernel)
theorem wd_117 : (Jvm.Cond.methodLink "Mergeparlour$Site" (38 : Nat) ({ cls := "Mergeparlour$Layout", name := "<init>", desc := "(LMergeparlour$Ledger;LMergeparlour$Text;)V" } : Jvm.MethodName)) ∈ wsAll := wdA (List.mem_of_getElem? (i := 117) (by decide +kernel)) (by decide +kernel)
theorem wd_118 : (Jvm.Cond.instanceMethod ({ cls := "Mergeparlour$Layout", name := "<init>", desc := "(LMergeparlour$Ledger;LMergeparlour$Text;)V" } : Jvm.MethodName)) ∈ wsAll := wdA (List.mem_of_getElem? (i := 118) (by decide +kernel)) (by decide +kernel)
theorem wd_119 : (Jvm.Cond.code ({ cls := "Mergeparlour$Layout", name := "<init>", desc := "(LMergeparlour$Ledger;LMergeparlour$Text;)V" } : Jvm.MethodName) prog_2_method_1_code (3 : Nat) (Option.none : Option Jvm.ClassFile.FieldType)) ∈ wsAll := wdA (List.mem_of_getElem? (i := 119) (by decide +kernel)) (by decide +kernel)
theorem wd_120 : (Jvm.Cond.methodLink "Mergeparlour$Layout" (3 : Nat) ({ cls := "java/lang/Object", name := "<init>", desc := "()V" } : Jvm.MethodName)) ∈ wsAll := wdA (List.mem_of_getElem? (i := 120) (by decide +kernel)) (by decide +kernel)
theorem wd_121 : (Jvm.Cond.classLink "Mergeparlour$Layout" (9 : Nat) "Mergeparlour$Numbers") ∈ wsAll := wdA (List.mem_of_getElem? (i := 121) (by decide +kernel)) (by decide +kernel)
theorem wd_122 : (Jvm.Cond.methodLink "Mergeparlour$Layout" (11 : Nat) ({ cls := "Mergeparlour$Numbers", name := "<init>", desc := "(I)V" } : Jvm.MethodName)) ∈ wsAll := wdA (List.mem_of_getElem? (i := 122) (by decide +kernel)) (by decide +kernel)
theorem wd_123 : (Jvm.Cond.fieldLink "Mergeparlour$Layout" (29 : Nat) "Mergeparlour$Layout" "ledger" "LMergeparlour$Ledger;") ∈ wsAll := wdA (List.mem_of_getElem? (i := 123) (by decide +kernel)) (by decide +kernel)
theorem wd_124 : (Jvm.Cond.fieldLink "Mergeparlour$Layout" (33 : Nat) "Mergeparlour$Layout" "text" "LMergeparlour$Text;") ∈ wsAll := wdA (List.mem_of_getElem? (i := 124) (by decide +kernel)) (by decide +kernel)
theorem wd_125 : (Jvm.Cond.fieldLink "Mergeparlour$Layout" (14 : Nat) "Mergeparlour$Layout" "there" "LMergeparlour$Numbers;") ∈ wsAll := wdA (List.mem_of_getElem? (i := 125) (by decide +kernel)) (by decide +kernel)
theorem wd_126 : (Jvm.Cond.fieldLink "Mergeparlour$Layout" (20 : Nat) "Mergeparlour$Layout" "begins" "LMergeparlour$Numbers;") ∈ wsAll := wdA (List.mem_of_getElem? (i := 126) (by decide +kernel)) (by decide +kernel)
theorem wd_127 : (Jvm.Cond.fieldLink "Mergeparlour$Layout" (23 : Nat) "Mergeparlour$Layout" "rowsOfLines" "LMergeparlour$Numbers;") ∈ wsAll := wdA (List.mem_of_getElem? (i := 127) (by decide +kernel)) (by decide +kernel)
theorem wd_128 : (Jvm.Cond.fieldLink "Mergeparlour$Layout" (26 : Nat) "Mergeparlour$Layout" "pageStarts" "LMergeparlour$Numbers;") ∈ wsAll := wdA (List.mem_of_getElem? (i := 128) (by decide +kernel)) (by decide +kernel)
theorem wd_129 : (Jvm.Cond.laysFinal "Mergeparlour$Layout" "Mergeparlour$Layout" "ledger" "LMergeparlour$Ledger;") ∈ wsAll := wdA (List.mem_of_getElem? (i := 129) (by decide +kernel)) (by decide +kernel)
theorem wd_131 : (Jvm.Cond.laysFinal "Mergeparlour$Layout" "Mergeparlour$Layout" "text" "LMergeparlour$Text;") ∈ wsAll := wdA (List.mem_of_getElem? (i := 131) (by decide +kernel)) (by decide +kernel)
theorem wd_133 : (Jvm.Cond.laysFinal "Mergeparlour$Layout" "Mergeparlour$Layout" "there" "LMergeparlour$Numbers;") ∈ wsAll := wdA (List.mem_of_getElem? (i := 133) (by decide +kernel)) (by decide +kernel)
theorem wd_135 : (Jvm.Cond.laysFinal "Mergeparlour$Layout" "Mergeparlour$Layout" "begins" "LMergeparlour$Numbers;") ∈ wsAll := wdA (List.mem_of_getElem? (i := 135) (by decide +kernel)) (by decide +kernel)
theorem wd_137 : (Jvm.Cond.laysFinal "Mergeparlour$Layout" "Mergeparlour$Layout" "rowsOfLines" "LMergeparlour$Numbers;") ∈ wsAll := wdA (List.mem_of_getElem? (i := 137) (by decide +kernel)) (by decide +kernel)
theorem wd_139 : (Jvm.Cond.laysFinal "Mergeparlour$Layout" "Mergeparlour$Layout" "pageStarts" "LMergeparlour$Numbers;") ∈ wsAll := wdA (List.mem_of_getElem? (i := 139) (by decide +kernel)) (by decide +kernel)
theorem wd_141 : (Jvm.Cond.superclass "Mergeparlour$Layout" "java/lang/Object") ∈ wsAll := wdA (List.mem_of_getElem? (i := 141) (by decide +kernel)) (by decide +kernel)
theorem wd_142 : (Jvm.Cond.fieldLink "Mergeparlour$Site" (32 : Nat) "Mergeparlour$Site" "text" "LMergeparlour$Text;") ∈ wsAll := wdA (List.mem_of_getElem? (i := 142) (by decide +kernel)) (by decide +kernel)
theorem wd_143 : (Jvm.Cond.fieldLink "Mergeparlour" (143 : Nat) "Mergeparlour$Site" "text" "LMergeparlour$Text;") ∈ wsAll := wdA (List.mem_of_getElem? (i := 143) (by decide +kernel)) (by decide +kernel)
theorem wd_144 : (Jvm.Cond.fieldLink "Mergeparlour$Site" (41 : Nat) "Mergeparlour$Site" "layout" "LMergeparlour$Layout;") ∈ wsAll := wdA (List.mem_of_getElem? (i := 144) (by decide +kernel)) (by decide +kernel)
theorem wd_145 : (Jvm.Cond.fieldLink "Mergeparlour" (27 : Nat) "Mergeparlour$Site" "layout" "LMergeparlour$Layout;") ∈ wsAll := wdA (List.mem_of_getElem? (i := 145) (by decide +kernel)) (by decide +kernel)
theorem wd_146 : (Jvm.Cond.fieldLink "Mergeparlour$Site" (23 : Nat) "Mergeparlour$Site" "number" "I") ∈ wsAll := wdA (List.mem_of_getElem? (i := 146) (by decide +kernel)) (by decide +kernel)
theorem wd_147 : (Jvm.Cond.fieldLink "Mergeparlour$Site" (14 : Nat) "Mergeparlour$Site" "deeds" "LMergeparlour$Numbers;") ∈ wsAll := wdA (List.mem_of_getElem? (i := 147) (by decide +kernel)) (by decide +kernel)
theorem wd_148 : (Jvm.Cond.fieldLink "Mergeparlour$Site" (20 : Nat) "Mergeparlour$Site" "placesOfDeeds" "LMergeparlour$Numbers;") ∈ wsAll := wdA (List.mem_of_getElem? (i := 148) (by decide +kernel)) (by decide +kernel)
theorem wd_149 : (Jvm.Cond.fieldLink "Mergeparlour$Site" (45 : Nat) "Mergeparlour$Site" "clock" "I") ∈ wsAll := wdA (List.mem_of_getElem? (i := 149) (by decide +kernel)) (by decide +kernel)
theorem wd_150 : (Jvm.Cond.laysFinal "Mergeparlour$Site" "Mergeparlour$Site" "text" "LMergeparlour$Text;") ∈ wsAll := wdA (List.mem_of_getElem? (i := 150) (by decide +kernel)) (by decide +kernel)
theorem wd_152 : (Jvm.Cond.laysFinal "Mergeparlour$Site" "Mergeparlour$Site" "layout" "LMergeparlour$Layout;") ∈ wsAll := wdA (List.mem_of_getElem? (i := 152) (by decide +kernel)) (by decide +kernel)
theorem wd_154 : (Jvm.Cond.laysFinal "Mergeparlour$Site" "Mergeparlour$Site" "number" "I") ∈ wsAll := wdA (List.mem_of_getElem? (i := 154) (by decide +kernel)) (by decide +kernel)
theorem wd_156 : (Jvm.Cond.laysFinal "Mergeparlour$Site" "Mergeparlour$Site" "deeds" "LMergeparlour$Numbers;") ∈ wsAll := wdA (List.mem_of_getElem? (i := 156) (by decide +kernel)) (by decide +kernel)
theorem wd_158 : (Jvm.Cond.laysFinal "Mergeparlour$Site" "Mergeparlour$Site" "placesOfDeeds" "LMergeparlour$Numbers;") ∈ wsAll := wdA (List.mem_of_getElem? (i := 158) (by decide +kernel)) (by decide +kernel)
theorem wd_160 : (Jvm.Cond.lays "Mergeparlour$Site" "Mergeparlour$Site" "clock" "I") ∈ wsAll := wdA (List.mem_of_getElem? (i := 160) (by decide +kernel)) (by decide +kernel)
theorem wd_162 : (Jvm.Cond.superclass "Mergeparlour$Site" "java/lang/Object") ∈ wsAll := wdA (List.mem_of_getElem? (i := 162) (by decide +kernel)) (by decide +kernel)
theorem wd_163 : (Jvm.Cond.classLink "Mergeparlour" (25 : Nat) "Mergeparlour$Press") ∈ wsAll := wdA (List.mem_of_getElem? (i := 163) (by decide +kernel)) (by decide +kernel)
theorem wd_164 : (Jvm.Cond.instantiable "Mergeparlour$Press" (4 : Nat)) ∈ wsAll := wdA (List.mem_of_getElem? (i := 164) (by decide +kernel)) (by decide +kernel)
theorem wd_165 : (Jvm.Cond.methodLink "Mergeparlour" (31 : Nat) ({ cls := "Mergeparlour$Press", name := "<init>", desc := "(LMergeparlour$Layout;)V" } : Jvm.MethodName)) ∈ wsAll := wdA (List.mem_of_getElem? (i := 165) (by decide +kernel)) (by decide +kernel)
theorem wd_166 : (Jvm.Cond.instanceMethod ({ cls := "Mergeparlour$Press", name := "<init>", desc := "(LMergeparlour$Layout;)V" } : Jvm.MethodName)) ∈ wsAll := wdA (List.mem_of_getElem? (i := 166) (by decide +kernel)) (by decide +kernel)
theorem wd_167 : (Jvm.Cond.code ({ cls := "Mergeparlour$Press", name := "<init>", desc := "(LMergeparlour$Layout;)V" } : Jvm.MethodName) prog_5_method_1_code (2 : Nat) (Option.none : Option Jvm.ClassFile.FieldType)) ∈ wsAll := wdA (List.mem_of_getElem? (i := 167) (by decide +kernel)) (by decide +kernel)
theorem wd_168 : (Jvm.Cond.methodLink "Mergeparlour$Press" (3 : Nat) ({ cls := "java/lang/Object", name := "<init>", desc := "()V" } : Jvm.MethodName)) ∈ wsAll := wdA (List.mem_of_getElem? (i := 168) (by decide +kernel)) (by decide +kernel)
theorem wd_169 : (Jvm.Cond.classLink "Mergeparlour$Press" (9 : Nat) "Mergeparlour$Numbers") ∈ wsAll := wdA (List.mem_of_getElem? (i := 169) (by decide +kernel)) (by decide +kernel)
theorem wd_170 : (Jvm.Cond.methodLink "Mergeparlour$Press" (11 : Nat) ({ cls := "Mergeparlour$Numbers", name := "<init>", desc := "(I)V" } : Jvm.MethodName)) ∈ wsAll := wdA (List.mem_of_getElem? (i := 170) (by decide +kernel)) (by decide +kernel)
theorem wd_171 : (Jvm.Cond.fieldLink "Mergeparlour$Press" (26 : Nat) "Mergeparlour$Press" "now" "LMergeparlour$Layout;") ∈ wsAll := wdA (List.mem_of_getElem? (i := 171) (by decide +kernel)) (by decide +kernel)
theorem wd_172 : (Jvm.Cond.fieldLink "Mergeparlour$Press" (14 : Nat) "Mergeparlour$Press" "sizes" "LMergeparlour$Numbers;") ∈ wsAll := wdA (List.mem_of_getElem? (i := 172) (by decide +kernel)) (by decide +kernel)
theorem wd_173 : (Jvm.Cond.fieldLink "Mergeparlour$Press" (20 : Nat) "Mergeparlour$Press" "printedLines" "LMergeparlour$Numbers;") ∈ wsAll := wdA (List.mem_of_getElem? (i := 173) (by decide +kernel)) (by decide +kernel)
theorem wd_174 : (Jvm.Cond.fieldLink "Mergeparlour$Press" (23 : Nat) "Mergeparlour$Press" "printedRows" "LMergeparlour$Numbers;") ∈ wsAll := wdA (List.mem_of_getElem? (i := 174) (by decide +kernel)) (by decide +kernel)
theorem wd_175 : (Jvm.Cond.laysFinal "Mergeparlour$Press" "Mergeparlour$Press" "now" "LMergeparlour$Layout;") ∈ wsAll := wdA (List.mem_of_getElem? (i := 175) (by decide +kernel)) (by decide +kernel)
theorem wd_177 : (Jvm.Cond.laysFinal "Mergeparlour$Press" "Mergeparlour$Press" "sizes" "LMergeparlour$Numbers;") ∈ wsAll := wdA (List.mem_of_getElem? (i := 177) (by decide +kernel)) (by decide +kernel)
theorem wd_179 : (Jvm.Cond.laysFinal "Mergeparlour$Press" "Mergeparlour$Press" "printedLines" "LMergeparlour$Numbers;") ∈ wsAll := wdA (List.mem_of_getElem? (i := 179) (by decide +kernel)) (by decide +kernel)
theorem wd_181 : (Jvm.Cond.laysFinal "Mergeparlour$Press" "Mergeparlour$Press" "printedRows" "LMergeparlour$Numbers;") ∈ wsAll := wdA (List.mem_of_getElem? (i := 181) (by decide +kernel)) (by decide +kernel)
theorem wd_183 : (Jvm.Cond.superclass "Mergeparlour$Press" "java/lang/Object") ∈ wsAll := wdA (List.mem_of_getElem? (i := 183) (by decide +kernel)) (by decide +kernel)
theorem wd_184 : (Jvm.Cond.fieldLink "Mergeparlour" (10 : Nat) "Mergeparlour" "ledger" "LMergeparlour$Ledger;") ∈ wsAll := wdA (List.mem_of_getElem? (i := 184) (by decide +kernel)) (by decide +kernel)
theorem wd_185 : (Jvm.Cond.fieldLink "Mergeparlour" (18 : Nat) "Mergeparlour" "sites" "[LMergeparlour$Site;") ∈ wsAll := wdA (List.mem_of_getElem? (i := 185) (by decide +kernel)) (by decide +kernel)
theorem wd_186 : (Jvm.Cond.fieldLink "Mergeparlour" (34 : Nat) "Mergeparlour" "press" "LMergeparlour$Press;") ∈ wsAll := wdA (List.mem_of_getElem? (i := 186) (by decide +kernel)) (by decide +kernel)
theorem wd_187 : (Jvm.Cond.laysFinal "Mergeparlour" "Mergeparlour" "ledger" "LMergeparlour$Ledger;") ∈ wsAll := wdA (List.mem_of_getElem? (i := 187) (by decide +kernel)) (by decide +kernel)
theorem wd_189 : (Jvm.Cond.laysFinal "Mergeparlour" "Mergeparlour" "sites" "[LMergeparlour$Site;") ∈ wsAll := wdA (List.mem_of_getElem? (i := 189) (by decide +kernel)) (by decide +kernel)
theorem wd_191 : (Jvm.Cond.laysFinal "Mergeparlour" "Mergeparlour" "press" "LMergeparlour$Press;") ∈ wsAll := wdA (List.mem_of_getElem? (i := 191) (by decide +kernel)) (by decide +kernel)
theorem wd_193 : (Jvm.Cond.superclass "Mergeparlour" "java/lang/Object") ∈ wsAll := wdA (List.mem_of_getElem? (i := 193) (by decide +kernel)) (by decide +kernel)
theorem wd_194 : (Jvm.Cond.methodLink "MergeparlourLaw" (97 : Nat) ({ cls := "Mergeparlour", name := "sheets", desc := "()I" } : Jvm.MethodName)) ∈ wsAll := wdA (List.mem_of_getElem? (i := 194) (by decide +kernel)) (by decide +kernel)
theorem wd_195 : (Jvm.Cond.instanceMethod ({ cls := "Mergeparlour", name := "sheets", desc := "()I" } : Jvm.MethodName)) ∈ wsAll := wdA (List.mem_of_getElem? (i := 195) (by decide +kernel)) (by decide +kernel)
theorem wd_196 : (Jvm.Cond.selects "Mergeparlour" ({ cls := "Mergeparlour", name := "sheets", desc := "()I" } : Jvm.MethodName) ({ cls := "Mergeparlour", name := "sheets", desc := "()I" } : Jvm.MethodName)) ∈ wsAll := wdA (List.mem_of_getElem? (i := 196) (by decide +kernel)) (by decide +kernel)
theorem wd_197 : (Jvm.Cond.code ({ cls := "Mergeparlour", name := "sheets", desc := "()I" } : Jvm.MethodName) prog_1_method_8_code (1 : Nat) (Option.some Jvm.ClassFile.FieldType.int)) ∈ wsAll := wdA (List.mem_of_getElem? (i := 197) (by decide +kernel)) (by decide +kernel)
theorem wd_198 : (Jvm.Cond.methodLink "Mergeparlour" (105 : Nat) ({ cls := "Mergeparlour$Press", name := "sheetCount", desc := "()I" } : Jvm.MethodName)) ∈ wsAll := wdA (List.mem_of_getElem? (i := 198) (by decide +kernel)) (by decide +kernel)
theorem wd_199 : (Jvm.Cond.instanceMethod ({ cls := "Mergeparlour$Press", name := "sheetCount", desc := "()I" } : Jvm.MethodName)) ∈ wsAll := wdA (List.mem_of_getElem? (i := 199) (by decide +kernel)) (by decide +kernel)
theorem wd_200 : (Jvm.Cond.selects "Mergeparlour$Press" ({ cls := "Mergeparlour$Press", name := "sheetCount", desc := "()I" } : Jvm.MethodName) ({ cls := "Mergeparlour$Press", name := "sheetCount", desc := "()I" } : Jvm.MethodName)) ∈ wsAll := wdA (List.mem_of_getElem? (i := 200) (by decide +kernel)) (by decide +kernel)
theorem wd_201 : (Jvm.Cond.code ({ cls := "Mergeparlour$Press", name := "sheetCount", desc := "()I" } : Jvm.MethodName) prog_5_method_4_code (1 : Nat) (Option.some Jvm.ClassFile.FieldType.int)) ∈ wsAll := wdA (List.mem_of_getElem? (i := 201) (by decide +kernel)) (by decide +kernel)
theorem wd_202 : (Jvm.Cond.methodLink "Mergeparlour$Press" (30 : Nat) ({ cls := "Mergeparlour$Numbers", name := "size", desc := "()I" } : Jvm.MethodName)) ∈ wsAll := wdA (List.mem_of_getElem? (i := 202) (by decide +kernel)) (by decide +kernel)
theorem wd_203 : (Jvm.Cond.instanceMethod ({ cls := "Mergeparlour$Numbers", name := "size", desc := "()I" } : Jvm.MethodName)) ∈ wsAll := wdA (List.mem_of_getElem? (i := 203) (by decide +kernel)) (by decide +kernel)
theorem wd_204 : (Jvm.Cond.selects "Mergeparlour$Numbers" ({ cls := "Mergeparlour$Numbers", name := "size", desc := "()I" } : Jvm.MethodName) ({ cls := "Mergeparlour$Numbers", name := "size", desc := "()I" } : Jvm.MethodName)) ∈ wsAll := wdA (List.mem_of_getElem? (i := 204) (by decide +kernel)) (by decide +kernel)
theorem wd_205 : (Jvm.Cond.code ({ cls := "Mergeparlour$Numbers", name := "size", desc := "()I" } : Jvm.MethodName) prog_4_method_2_code (1 : Nat) (Option.some Jvm.ClassFile.FieldType.int)) ∈ wsAll := wdA (List.mem_of_getElem? (i := 205) (by decide +kernel)) (by decide +kernel)
theorem wd_206 : (Jvm.Cond.methodLink "MergeparlourLaw" (105 : Nat) ({ cls := "Mergeparlour", name := "cost", desc := "()I" } : Jvm.MethodName)) ∈ wsAll := wdA (List.mem_of_getElem? (i := 206) (by decide +kernel)) (by decide +kernel)
theorem wd_207 : (Jvm.Cond.instanceMethod ({ cls := "Mergeparlour", name := "cost", desc := "()I" } : Jvm.MethodName)) ∈ wsAll := wdA (List.mem_of_getElem? (i := 207) (by decide +kernel)) (by decide +kernel)
theorem wd_208 : (Jvm.Cond.selects "Mergeparlour" ({ cls := "Mergeparlour", name := "cost", desc := "()I" } : Jvm.MethodName) ({ cls := "Mergeparlour", name := "cost", desc := "()I" } : Jvm.MethodName)) ∈ wsAll := wdA (List.mem_of_getElem? (i := 208) (by decide +kernel)) (by decide +kernel)
theorem wd_209 : (Jvm.Cond.code ({ cls := "Mergeparlour", name := "cost", desc := "()I" } : Jvm.MethodName) prog_1_method_10_code (1 : Nat) (Option.some Jvm.ClassFile.FieldType.int)) ∈ wsAll := wdA (List.mem_of_getElem? (i := 209) (by decide +kernel)) (by decide +kernel)
theorem wd_210 : (Jvm.Cond.methodLink "Mergeparlour" (119 : Nat) ({ cls := "Mergeparlour$Press", name := "bill", desc := "()I" } : Jvm.MethodName)) ∈ wsAll := wdA (List.mem_of_getElem? (i := 210) (by decide +kernel)) (by decide +kernel)
theorem wd_211 : (Jvm.Cond.instanceMethod ({ cls := "Mergeparlour$Press", name := "bill", desc := "()I" } : Jvm.MethodName)) ∈ wsAll := wdA (List.mem_of_getElem? (i := 211) (by decide +kernel)) (by decide +kernel)
theorem wd_212 : (Jvm.Cond.selects "Mergeparlour$Press" ({ cls := "Mergeparlour$Press", name := "bill", desc := "()I" } : Jvm.MethodName) ({ cls := "Mergeparlour$Press", name := "bill", desc := "()I" } : Jvm.MethodName)) ∈ wsAll := wdA (List.mem_of_getElem? (i := 212) (by decide +kernel)) (by decide +kernel)
theorem wd_213 : (Jvm.Cond.code ({ cls := "Mergeparlour$Press", name := "bill", desc := "()I" } : Jvm.MethodName) prog_5_method_7_code (3 : Nat) (Option.some Jvm.ClassFile.FieldType.int)) ∈ wsAll := wdA (List.mem_of_getElem? (i := 213) (by decide +kernel)) (by decide +kernel)
theorem wd_214 : (Jvm.Cond.methodLink "Mergeparlour$Press" (59 : Nat) ({ cls := "Mergeparlour$Press", name := "pageCount", desc := "()I" } : Jvm.MethodName)) ∈ wsAll := wdA (List.mem_of_getElem? (i := 214) (by decide +kernel)) (by decide +kernel)
theorem wd_215 : (Jvm.Cond.instanceMethod ({ cls := "Mergeparlour$Press", name := "pageCount", desc := "()I" } : Jvm.MethodName)) ∈ wsAll := wdA (List.mem_of_getElem? (i := 215) (by decide +kernel)) (by decide +kernel)
theorem wd_216 : (Jvm.Cond.selects "Mergeparlour$Press" ({ cls := "Mergeparlour$Press", name := "pageCount", desc := "()I" } : Jvm.MethodName) ({ cls := "Mergeparlour$Press", name := "pageCount", desc := "()I" } : Jvm.MethodName)) ∈ wsAll := wdA (List.mem_of_getElem? (i := 216) (by decide +kernel)) (by decide +kernel)
theorem wd_217 : (Jvm.Cond.code ({ cls := "Mergeparlour$Press", name := "pageCount", desc := "()I" } : Jvm.MethodName) prog_5_method_3_code (1 : Nat) (Option.some Jvm.ClassFile.FieldType.int)) ∈ wsAll := wdA (List.mem_of_getElem? (i := 217) (by decide +kernel)) (by decide +kernel)
theorem wd_218 : (Jvm.Cond.methodLink "Mergeparlour$Press" (60 : Nat) ({ cls := "Mergeparlour$Press", name := "slips", desc := "(I)I" } : Jvm.MethodName)) ∈ wsAll := wdA (List.mem_of_getElem? (i := 218) (by decide +kernel)) (by decide +kernel)
theorem wd_220 : (Jvm.Cond.instanceMethod ({ cls := "Mergeparlour$Press", name := "slips", desc := "(I)I" } : Jvm.MethodName)) ∈ wsAll := wdA (List.mem_of_getElem? (i := 220) (by decide +kernel)) (by decide +kernel)
theorem wd_221 : (Jvm.Cond.code ({ cls := "Mergeparlour$Press", name := "slips", desc := "(I)I" } : Jvm.MethodName) prog_5_method_10_code (5 : Nat) (Option.some Jvm.ClassFile.FieldType.int)) ∈ wsAll := wdA (List.mem_of_getElem? (i := 221) (by decide +kernel)) (by decide +kernel)
theorem wd_222 : (Jvm.Cond.methodLink "Mergeparlour$Press" (76 : Nat) ({ cls := "Mergeparlour$Press", name := "difference", desc := "(I)I" } : Jvm.MethodName)) ∈ wsAll := wdA (List.mem_of_getElem? (i := 222) (by decide +kernel)) (by decide +kernel)
theorem wd_223 : (Jvm.Cond.instanceMethod ({ cls := "Mergeparlour$Press", name := "difference", desc := "(I)I" } : Jvm.MethodName)) ∈ wsAll := wdA (List.mem_of_getElem? (i := 223) (by decide +kernel)) (by decide +kernel)
theorem wd_224 : (Jvm.Cond.selects "Mergeparlour$Press" ({ cls := "Mergeparlour$Press", name := "difference", desc := "(I)I" } : Jvm.MethodName) ({ cls := "Mergeparlour$Press", name := "difference", desc := "(I)I" } : Jvm.MethodName)) ∈ wsAll := wdA (List.mem_of_getElem? (i := 224) (by decide +kernel)) (by decide +kernel)
theorem wd_225 : (Jvm.Cond.code ({ cls := "Mergeparlour$Press", name := "difference", desc := "(I)I" } : Jvm.MethodName) prog_5_method_6_code (6 : Nat) (Option.some Jvm.ClassFile.FieldType.int)) ∈ wsAll := wdA (List.mem_of_getElem? (i := 225) (by decide +kernel)) (by decide +kernel)
theorem wd_226 : (Jvm.Cond.methodLink "Mergeparlour$Press" (42 : Nat) ({ cls := "Mergeparlour$Layout", name := "startOf", desc := "(I)I" } : Jvm.MethodName)) ∈ wsAll := wdA (List.mem_of_getElem? (i := 226) (by decide +kernel)) (by decide +kernel)
theorem wd_227 : (Jvm.Cond.instanceMethod ({ cls := "Mergeparlour$Layout", name := "startOf", desc := "(I)I" } : Jvm.MethodName)) ∈ wsAll := wdA (List.mem_of_getElem? (i := 227) (by decide +kernel)) (by decide +kernel)
theorem wd_228 : (Jvm.Cond.selects "Mergeparlour$Layout" ({ cls := "Mergeparlour$Layout", name := "startOf", desc := "(I)I" } : Jvm.MethodName) ({ cls := "Mergeparlour$Layout", name := "startOf", desc := "(I)I" } : Jvm.MethodName)) ∈ wsAll := wdA (List.mem_of_getElem? (i := 228) (by decide +kernel)) (by decide +kernel)
theorem wd_229 : (Jvm.Cond.code ({ cls := "Mergeparlour$Layout", name := "startOf", desc := "(I)I" } : Jvm.MethodName) prog_2_method_9_code (2 : Nat) (Option.some Jvm.ClassFile.FieldType.int)) ∈ wsAll := wdA (List.mem_of_getElem? (i := 229) (by decide +kernel)) (by decide +kernel)
theorem wd_230 : (Jvm.Cond.methodLink "Mergeparlour$Layout" (46 : Nat) ({ cls := "Mergeparlour$Numbers", name := "size", desc := "()I" } : Jvm.MethodName)) ∈ wsAll := wdA (List.mem_of_getElem? (i := 230) (by decide +kernel)) (by decide +kernel)
theorem wd_231 : (Jvm.Cond.methodLink "Mergeparlour$Layout" (50 : Nat) ({ cls := "Mergeparlour$Numbers", name := "at", desc := "(I)I" } : Jvm.MethodName)) ∈ wsAll := wdA (List.mem_of_getElem? (i := 231) (by decide +kernel)) (by decide +kernel)
theorem wd_232 : (Jvm.Cond.instanceMethod ({ cls := "Mergeparlour$Numbers", name := "at", desc := "(I)I" } : Jvm.MethodName)) ∈ wsAll := wdA (List.mem_of_getElem? (i := 232) (by decide +kernel)) (by decide +kernel)
theorem wd_233 : (Jvm.Cond.selects "Mergeparlour$Numbers" ({ cls := "Mergeparlour$Numbers", name := "at", desc := "(I)I" } : Jvm.MethodName) ({ cls := "Mergeparlour$Numbers", name := "at", desc := "(I)I" } : Jvm.MethodName)) ∈ wsAll := wdA (List.mem_of_getElem? (i := 233) (by decide +kernel)) (by decide +kernel)
theorem wd_234 : (Jvm.Cond.code ({ cls := "Mergeparlour$Numbers", name := "at", desc := "(I)I" } : Jvm.MethodName) prog_4_method_3_code (2 : Nat) (Option.some Jvm.ClassFile.FieldType.int)) ∈ wsAll := wdA (List.mem_of_getElem? (i := 234) (by decide +kernel)) (by decide +kernel)
theorem wd_235 : (Jvm.Cond.methodLink "Mergeparlour$Press" (46 : Nat) ({ cls := "Mergeparlour$Layout", name := "line", desc := "(I)I" } : Jvm.MethodName)) ∈ wsAll := wdA (List.mem_of_getElem? (i := 235) (by decide +kernel)) (by decide +kernel)
theorem wd_236 : (Jvm.Cond.instanceMethod ({ cls := "Mergeparlour$Layout", name := "line", desc := "(I)I" } : Jvm.MethodName)) ∈ wsAll := wdA (List.mem_of_getElem? (i := 236) (by decide +kernel)) (by decide +kernel)
theorem wd_237 : (Jvm.Cond.selects "Mergeparlour$Layout" ({ cls := "Mergeparlour$Layout", name := "line", desc := "(I)I" } : Jvm.MethodName) ({ cls := "Mergeparlour$Layout", name := "line", desc := "(I)I" } : Jvm.MethodName)) ∈ wsAll := wdA (List.mem_of_getElem? (i := 237) (by decide +kernel)) (by decide +kernel)
theorem wd_238 : (Jvm.Cond.code ({ cls := "Mergeparlour$Layout", name := "line", desc := "(I)I" } : Jvm.MethodName) prog_2_method_4_code (2 : Nat) (Option.some Jvm.ClassFile.FieldType.int)) ∈ wsAll := wdA (List.mem_of_getElem? (i := 238) (by decide +kernel)) (by decide +kernel)
theorem wd_239 : (Jvm.Cond.methodLink "Mergeparlour$Press" (49 : Nat) ({ cls := "Mergeparlour$Layout", name := "rows", desc := "(I)I" } : Jvm.MethodName)) ∈ wsAll := wdA (List.mem_of_getElem? (i := 239) (by decide +kernel)) (by decide +kernel)
theorem wd_240 : (Jvm.Cond.instanceMethod ({ cls := "Mergeparlour$Layout", name := "rows", desc := "(I)I" } : Jvm.MethodName)) ∈ wsAll := wdA (List.mem_of_getElem? (i := 240) (by decide +kernel)) (by decide +kernel)
theorem wd_241 : (Jvm.Cond.selects "Mergeparlour$Layout" ({ cls := "Mergeparlour$Layout", name := "rows", desc := "(I)I" } : Jvm.MethodName) ({ cls := "Mergeparlour$Layout", name := "rows", desc := "(I)I" } : Jvm.MethodName)) ∈ wsAll := wdA (List.mem_of_getElem? (i := 241) (by decide +kernel)) (by decide +kernel)
theorem wd_242 : (Jvm.Cond.code ({ cls := "Mergeparlour$Layout", name := "rows", desc := "(I)I" } : Jvm.MethodName) prog_2_method_5_code (2 : Nat) (Option.some Jvm.ClassFile.FieldType.int)) ∈ wsAll := wdA (List.mem_of_getElem? (i := 242) (by decide +kernel)) (by decide +kernel)
theorem wd_243 : (Jvm.Cond.methodLink "Mergeparlour$Press" (52 : Nat) ({ cls := "Mergeparlour$Press", name := "isPrinted", desc := "(III)Z" } : Jvm.MethodName)) ∈ wsAll := wdA (List.mem_of_getElem? (i := 243) (by decide +kernel)) (by decide +kernel)
theorem wd_245 : (Jvm.Cond.instanceMethod ({ cls := "Mergeparlour$Press", name := "isPrinted", desc := "(III)Z" } : Jvm.MethodName)) ∈ wsAll := wdA (List.mem_of_getElem? (i := 245) (by decide +kernel)) (by decide +kernel)
theorem wd_246 : (Jvm.Cond.code ({ cls := "Mergeparlour$Press", name := "isPrinted", desc := "(III)Z" } : Jvm.MethodName) prog_5_method_9_code (6 : Nat) (Option.some Jvm.ClassFile.FieldType.boolean)) ∈ wsAll := wdA (List.mem_of_getElem? (i := 246) (by decide +kernel)) (by decide +kernel)
theorem wd_247 : (Jvm.Cond.methodLink "Mergeparlour$Press" (56 : Nat) ({ cls := "Mergeparlour$Numbers", name := "at", desc := "(I)I" } : Jvm.MethodName)) ∈ wsAll := wdA (List.mem_of_getElem? (i := 247) (by decide +kernel)) (by decide +kernel)
theorem wd_248 : (Jvm.Cond.methodLink "Mergeparlour$Press" (63 : Nat) ({ cls := "java/lang/Math", name := "min", desc := "(II)I" } : Jvm.MethodName)) ∈ wsAll := wdA (List.mem_of_getElem? (i := 248) (by decide +kernel)) (by decide +kernel)
theorem wd_249 : (Jvm.Cond.static ({ cls := "java/lang/Math", name := "min", desc := "(II)I" } : Jvm.MethodName)) ∈ wsAll := wdA (List.mem_of_getElem? (i := 249) (by decide +kernel)) (by decide +kernel)
theorem wd_250 : (Jvm.Cond.code ({ cls := "java/lang/Math", name := "min", desc := "(II)I" } : Jvm.MethodName) prog_15_method_69_code (2 : Nat) (Option.some Jvm.ClassFile.FieldType.int)) ∈ wsAll := wdA (List.mem_of_getElem? (i := 250) (by decide +kernel)) (by decide +kernel)
theorem wd_251 : (Jvm.Cond.methodLink "MergeparlourLaw" (69 : Nat) ({ cls := "MergeparlourLaw", name := "insert", desc := "(LMergeparlour;IIIZ[J)I" } : Jvm.MethodName)) ∈ wsAll := wdA (List.mem_of_getElem? (i := 251) (by decide +kernel)) (by decide +kernel)
theorem wd_252 : (Jvm.Cond.static ({ cls := "MergeparlourLaw", name := "insert", desc := "(LMergeparlour;IIIZ[J)I" } : Jvm.MethodName)) ∈ wsAll := wdA (List.mem_of_getElem? (i := 252) (by decide +kernel)) (by decide +kernel)
theorem wd_253 : (Jvm.Cond.codeWith ({ cls := "MergeparlourLaw", name := "insert", desc := "(LMergeparlour;IIIZ[J)I" } : Jvm.MethodName) method_3_code (7 : Nat) (Option.some Jvm.ClassFile.FieldType.int) [((0 : Nat), (14 : Nat), (17 : Nat), (13 : Nat)), ((0 : Nat), (14 : Nat), (21 : Nat), (15 : Nat)), ((0 : Nat), (14 : Nat), (25 : Nat), (17 : Nat))]) ∈ wsAll := wdA (List.mem_of_getElem? (i := 253) (by decide +kernel)) (by decide +kernel)
theorem wd_254 : (Jvm.Cond.classLink "MergeparlourLaw" (13 : Nat) "java/lang/IndexOutOfBoundsException") ∈ wsAll := wdA (List.mem_of_getElem? (i := 254) (by decide +kernel)) (by decide +kernel)
theorem wd_255 : (Jvm.Cond.classLink "MergeparlourLaw" (15 : Nat) "java/lang/IllegalArgumentException") ∈ wsAll := wdA (List.mem_of_getElem? (i := 255) (by decide +kernel)) (by decide +kernel)
theorem wd_256 : (Jvm.Cond.classLink "MergeparlourLaw" (17 : Nat) "java/lang/IllegalStateException") ∈ wsAll := wdA (List.mem_of_getElem? (i := 256) (by decide +kernel)) (by decide +kernel)
theorem wd_257 : (Jvm.Cond.methodLink "MergeparlourLaw" (7 : Nat) ({ cls := "Mergeparlour", name := "insert", desc := "(IIIZ)I" } : Jvm.MethodName)) ∈ wsAll := wdA (List.mem_of_getElem? (i := 257) (by decide +kernel)) (by decide +kernel)
theorem wd_258 : (Jvm.Cond.instanceMethod ({ cls := "Mergeparlour", name := "insert", desc := "(IIIZ)I" } : Jvm.MethodName)) ∈ wsAll := wdA (List.mem_of_getElem? (i := 258) (by decide +kernel)) (by decide +kernel)
theorem wd_259 : (Jvm.Cond.selects "Mergeparlour" ({ cls := "Mergeparlour", name := "insert", desc := "(IIIZ)I" } : Jvm.MethodName) ({ cls := "Mergeparlour", name := "insert", desc := "(IIIZ)I" } : Jvm.MethodName)) ∈ wsAll := wdA (List.mem_of_getElem? (i := 259) (by decide +kernel)) (by decide +kernel)
theorem wd_260 : (Jvm.Cond.code ({ cls := "Mergeparlour", name := "insert", desc := "(IIIZ)I" } : Jvm.MethodName) prog_1_method_2_code (8 : Nat) (Option.some Jvm.ClassFile.FieldType.int)) ∈ wsAll := wdA (List.mem_of_getElem? (i := 260) (by decide +kernel)) (by decide +kernel)
theorem wd_261 : (Jvm.Cond.methodLink "Mergeparlour" (38 : Nat) ({ cls := "Mergeparlour", name := "siteOf", desc := "(I)LMergeparlour$Site;" } : Jvm.MethodName)) ∈ wsAll := wdA (List.mem_of_getElem? (i := 261) (by decide +kernel)) (by decide +kernel)
theorem wd_263 : (Jvm.Cond.instanceMethod ({ cls := "Mergeparlour", name := "siteOf", desc := "(I)LMergeparlour$Site;" } : Jvm.MethodName)) ∈ wsAll := wdA (List.mem_of_getElem? (i := 263) (by decide +kernel)) (by decide +kernel)
theorem wd_264 : (Jvm.Cond.code ({ cls := "Mergeparlour", name := "siteOf", desc := "(I)LMergeparlour$Site;" } : Jvm.MethodName) prog_1_method_18_code (2 : Nat) (Option.some (Jvm.ClassFile.FieldType.object "Mergeparlour$Site"))) ∈ wsAll := wdA (List.mem_of_getElem? (i := 264) (by decide +kernel)) (by decide +kernel)
theorem wd_265 : (Jvm.Cond.classLink "Mergeparlour" (111 : Nat) "java/lang/IndexOutOfBoundsException") ∈ wsAll := wdA (List.mem_of_getElem? (i := 265) (by decide +kernel)) (by decide +kernel)
theorem wd_266 : (Jvm.Cond.instantiable "java/lang/IndexOutOfBoundsException" (6 : Nat)) ∈ wsAll := wdA (List.mem_of_getElem? (i := 266) (by decide +kernel)) (by decide +kernel)
theorem wd_274 : (Jvm.Cond.selects "java/lang/IndexOutOfBoundsException" ({ cls := "java/lang/Throwable", name := "fillInStackTrace", desc := "(I)Ljava/lang/Throwable;" } : Jvm.MethodName) ({ cls := "java/lang/Throwable", name := "fillInStackTrace", desc := "(I)Ljava/lang/Throwable;" } : Jvm.MethodName)) ∈ wsAll := wdA (List.mem_of_getElem? (i := 274) (by decide +kernel)) (by decide +kernel)
theorem wd_275 : (Jvm.Cond.selects "java/lang/IndexOutOfBoundsException" ({ cls := "java/lang/Throwable", name := "fillInStackTrace", desc := "()Ljava/lang/Throwable;" } : Jvm.MethodName) ({ cls := "java/lang/Throwable", name := "fillInStackTrace", desc := "()Ljava/lang/Throwable;" } : Jvm.MethodName)) ∈ wsAll := wdA (List.mem_of_getElem? (i := 275) (by decide +kernel)) (by decide +kernel)
theorem wd_276 : (Jvm.Cond.lays "java/lang/IndexOutOfBoundsException" "java/lang/Throwable" "cause" "Ljava/lang/Throwable;") ∈ wsAll := wdA (List.mem_of_getElem? (i := 276) (by decide +kernel)) (by decide +kernel)
theorem wd_277 : (Jvm.Cond.lays "java/lang/Throwable" "java/lang/Throwable" "cause" "Ljava/lang/Throwable;") ∈ wsAll := wdA (List.mem_of_getElem? (i := 277) (by decide +kernel)) (by decide +kernel)
theorem wd_278 : (Jvm.Cond.lays "java/lang/IndexOutOfBoundsException" "java/lang/Throwable" "stackTrace" "[Ljava/lang/StackTraceElement;") ∈ wsAll := wdA (List.mem_of_getElem? (i := 278) (by decide +kernel)) (by decide +kernel)
theorem wd_279 : (Jvm.Cond.lays "java/lang/Throwable" "java/lang/Throwable" "stackTrace" "[Ljava/lang/StackTraceElement;") ∈ wsAll := wdA (List.mem_of_getElem? (i := 279) (by decide +kernel)) (by decide +kernel)
theorem wd_280 : (Jvm.Cond.lays "java/lang/IndexOutOfBoundsException" "java/lang/Throwable" "suppressedExceptions" "Ljava/util/List;") ∈ wsAll := wdA (List.mem_of_getElem? (i := 280) (by decide +kernel)) (by decide +kernel)
theorem wd_281 : (Jvm.Cond.lays "java/lang/Throwable" "java/lang/Throwable" "suppressedExceptions" "Ljava/util/List;") ∈ wsAll := wdA (List.mem_of_getElem? (i := 281) (by decide +kernel)) (by decide +kernel)
theorem wd_282 : (Jvm.Cond.lays "java/lang/IndexOutOfBoundsException" "java/lang/Throwable" "detailMessage" "Ljava/lang/String;") ∈ wsAll := wdA (List.mem_of_getElem? (i := 282) (by decide +kernel)) (by decide +kernel)
theorem wd_283 : (Jvm.Cond.lays "java/lang/Throwable" "java/lang/Throwable" "detailMessage" "Ljava/lang/String;") ∈ wsAll := wdA (List.mem_of_getElem? (i := 283) (by decide +kernel)) (by decide +kernel)
theorem wd_284 : (Jvm.Cond.lays "java/lang/IndexOutOfBoundsException" "java/lang/Throwable" "backtrace" "Ljava/lang/Object;") ∈ wsAll := wdA (List.mem_of_getElem? (i := 284) (by decide +kernel)) (by decide +kernel)
theorem wd_285 : (Jvm.Cond.lays "java/lang/Throwable" "java/lang/Throwable" "backtrace" "Ljava/lang/Object;") ∈ wsAll := wdA (List.mem_of_getElem? (i := 285) (by decide +kernel)) (by decide +kernel)
theorem wd_286 : (Jvm.Cond.fieldLink "java/lang/Throwable" (198 : Nat) "java/lang/Throwable" "backtrace" "Ljava/lang/Object;") ∈ wsAll := wdA (List.mem_of_getElem? (i := 286) (by decide +kernel)) (by decide +kernel)
theorem wd_287 : (Jvm.Cond.superclass "java/lang/Throwable" "java/lang/Object") ∈ wsAll := wdA (List.mem_of_getElem? (i := 287) (by decide +kernel)) (by decide +kernel)
theorem wd_288 : (Jvm.Cond.instanceMethod ({ cls := "java/lang/Throwable", name := "<init>", desc := "()V" } : Jvm.MethodName)) ∈ wsAll := wdA (List.mem_of_getElem? (i := 288) (by decide +kernel)) (by decide +kernel)
theorem wd_289 : (Jvm.Cond.code ({ cls := "java/lang/Throwable", name := "<init>", desc := "()V" } : Jvm.MethodName) prog_18_method_1_code (1 : Nat) (Option.none : Option Jvm.ClassFile.FieldType)) ∈ wsAll := wdA (List.mem_of_getElem? (i := 289) (by decide +kernel)) (by decide +kernel)
theorem wd_290 : (Jvm.Cond.methodLink "java/lang/Throwable" (1 : Nat) ({ cls := "java/lang/Object", name := "<init>", desc := "()V" } : Jvm.MethodName)) ∈ wsAll := wdA (List.mem_of_getElem? (i := 290) (by decide +kernel)) (by decide +kernel)
theorem wd_291 : (Jvm.Cond.fieldLink "java/lang/Throwable" (13 : Nat) "java/lang/Throwable" "UNASSIGNED_STACK" "[Ljava/lang/StackTraceElement;") ∈ wsAll := wdA (List.mem_of_getElem? (i := 291) (by decide +kernel)) (by decide +kernel)
theorem wd_293 : (Jvm.Cond.fieldLink "java/lang/Throwable" (20 : Nat) "java/lang/Throwable" "SUPPRESSED_SENTINEL" "Ljava/util/List;") ∈ wsAll := wdA (List.mem_of_getElem? (i := 293) (by decide +kernel)) (by decide +kernel)
theorem wd_295 : (Jvm.Cond.methodLink "java/lang/Throwable" (27 : Nat) ({ cls := "java/lang/Throwable", name := "fillInStackTrace", desc := "()Ljava/lang/Throwable;" } : Jvm.MethodName)) ∈ wsAll := wdA (List.mem_of_getElem? (i := 295) (by decide +kernel)) (by decide +kernel)
theorem wd_296 : (Jvm.Cond.instanceMethod ({ cls := "java/lang/Throwable", name := "fillInStackTrace", desc := "()Ljava/lang/Throwable;" } : Jvm.MethodName)) ∈ wsAll := wdA (List.mem_of_getElem? (i := 296) (by decide +kernel)) (by decide +kernel)
theorem wd_297 : (Jvm.Cond.sameMethod "java/lang/Throwable" "java/lang/Throwable" "fillInStackTrace" "()Ljava/lang/Throwable;") ∈ wsAll := wdA (List.mem_of_getElem? (i := 297) (by decide +kernel)) (by decide +kernel)
theorem wd_298 : (Jvm.Cond.selects "java/lang/IllegalArgumentException" ({ cls := "java/lang/Throwable", name := "fillInStackTrace", desc := "()Ljava/lang/Throwable;" } : Jvm.MethodName) ({ cls := "java/lang/Throwable", name := "fillInStackTrace", desc := "()Ljava/lang/Throwable;" } : Jvm.MethodName)) ∈ wsAll := wdA (List.mem_of_getElem? (i := 298) (by decide +kernel)) (by decide +kernel)
theorem wd_299 : (Jvm.Cond.selects "java/lang/IllegalStateException" ({ cls := "java/lang/Throwable", name := "fillInStackTrace", desc := "()Ljava/lang/Throwable;" } : Jvm.MethodName) ({ cls := "java/lang/Throwable", name := "fillInStackTrace", desc := "()Ljava/lang/Throwable;" } : Jvm.MethodName)) ∈ wsAll := wdA (List.mem_of_getElem? (i := 299) (by decide +kernel)) (by decide +kernel)
theorem wd_300 : (Jvm.Cond.selects "java/util/NoSuchElementException" ({ cls := "java/lang/Throwable", name := "fillInStackTrace", desc := "()Ljava/lang/Throwable;" } : Jvm.MethodName) ({ cls := "java/lang/Throwable", name := "fillInStackTrace", desc := "()Ljava/lang/Throwable;" } : Jvm.MethodName)) ∈ wsAll := wdA (List.mem_of_getElem? (i := 300) (by decide +kernel)) (by decide +kernel)
theorem wd_301 : (Jvm.Cond.codeSync ({ cls := "java/lang/Throwable", name := "fillInStackTrace", desc := "()Ljava/lang/Throwable;" } : Jvm.MethodName) prog_18_method_18_code (1 : Nat) (Option.some (Jvm.ClassFile.FieldType.object "java/lang/Throwable"))) ∈ wsAll := wdA (List.mem_of_getElem? (i := 301) (by decide +kernel)) (by decide +kernel)
theorem wd_302 : (Jvm.Cond.methodLink "java/lang/Throwable" (202 : Nat) ({ cls := "java/lang/Throwable", name := "fillInStackTrace", desc := "(I)Ljava/lang/Throwable;" } : Jvm.MethodName)) ∈ wsAll := wdA (List.mem_of_getElem? (i := 302) (by decide +kernel)) (by decide +kernel)
theorem wd_304 : (Jvm.Cond.instanceMethod ({ cls := "java/lang/Throwable", name := "fillInStackTrace", desc := "(I)Ljava/lang/Throwable;" } : Jvm.MethodName)) ∈ wsAll := wdA (List.mem_of_getElem? (i := 304) (by decide +kernel)) (by decide +kernel)
theorem wd_305 : (Jvm.Cond.instantiable "java/lang/Throwable" (6 : Nat)) ∈ wsAll := wdA (List.mem_of_getElem? (i := 305) (by decide +kernel)) (by decide +kernel)
theorem wd_306 : (Jvm.Cond.native ({ cls := "java/lang/Throwable", name := "fillInStackTrace", desc := "(I)Ljava/lang/Throwable;" } : Jvm.MethodName)) ∈ wsAll := wdA (List.mem_of_getElem? (i := 306) (by decide +kernel)) (by decide +kernel)
theorem wd_308 : (Jvm.Cond.methodLink "Mergeparlour" (115 : Nat) ({ cls := "java/lang/IndexOutOfBoundsException", name := "<init>", desc := "(Ljava/lang/String;)V" } : Jvm.MethodName)) ∈ wsAll := wdA (List.mem_of_getElem? (i := 308) (by decide +kernel)) (by decide +kernel)
theorem wd_309 : (Jvm.Cond.instanceMethod ({ cls := "java/lang/IndexOutOfBoundsException", name := "<init>", desc := "(Ljava/lang/String;)V" } : Jvm.MethodName)) ∈ wsAll := wdA (List.mem_of_getElem? (i := 309) (by decide +kernel)) (by decide +kernel)
theorem wd_310 : (Jvm.Cond.code ({ cls := "java/lang/IndexOutOfBoundsException", name := "<init>", desc := "(Ljava/lang/String;)V" } : Jvm.MethodName) prog_14_method_2_code (2 : Nat) (Option.none : Option Jvm.ClassFile.FieldType)) ∈ wsAll := wdA (List.mem_of_getElem? (i := 310) (by decide +kernel)) (by decide +kernel)
theorem wd_311 : (Jvm.Cond.methodLink "java/lang/IndexOutOfBoundsException" (7 : Nat) ({ cls := "java/lang/RuntimeException", name := "<init>", desc := "(Ljava/lang/String;)V" } : Jvm.MethodName)) ∈ wsAll := wdA (List.mem_of_getElem? (i := 311) (by decide +kernel)) (by decide +kernel)
theorem wd_312 : (Jvm.Cond.instanceMethod ({ cls := "java/lang/RuntimeException", name := "<init>", desc := "(Ljava/lang/String;)V" } : Jvm.MethodName)) ∈ wsAll := wdA (List.mem_of_getElem? (i := 312) (by decide +kernel)) (by decide +kernel)
theorem wd_313 : (Jvm.Cond.code ({ cls := "java/lang/RuntimeException", name := "<init>", desc := "(Ljava/lang/String;)V" } : Jvm.MethodName) prog_16_method_2_code (2 : Nat) (Option.none : Option Jvm.ClassFile.FieldType)) ∈ wsAll := wdA (List.mem_of_getElem? (i := 313) (by decide +kernel)) (by decide +kernel)
theorem wd_314 : (Jvm.Cond.methodLink "java/lang/RuntimeException" (7 : Nat) ({ cls := "java/lang/Exception", name := "<init>", desc := "(Ljava/lang/String;)V" } : Jvm.MethodName)) ∈ wsAll := wdA (List.mem_of_getElem? (i := 314) (by decide +kernel)) (by decide +kernel)
theorem wd_315 : (Jvm.Cond.instanceMethod ({ cls := "java/lang/Exception", name := "<init>", desc := "(Ljava/lang/String;)V" } : Jvm.MethodName)) ∈ wsAll := wdA (List.mem_of_getElem? (i := 315) (by decide +kernel)) (by decide +kernel)
theorem wd_316 : (Jvm.Cond.code ({ cls := "java/lang/Exception", name := "<init>", desc := "(Ljava/lang/String;)V" } : Jvm.MethodName) prog_11_method_2_code (2 : Nat) (Option.none : Option Jvm.ClassFile.FieldType)) ∈ wsAll := wdA (List.mem_of_getElem? (i := 316) (by decide +kernel)) (by decide +kernel)
theorem wd_317 : (Jvm.Cond.methodLink "java/lang/Exception" (7 : Nat) ({ cls := "java/lang/Throwable", name := "<init>", desc := "(Ljava/lang/String;)V" } : Jvm.MethodName)) ∈ wsAll := wdA (List.mem_of_getElem? (i := 317) (by decide +kernel)) (by decide +kernel)
theorem wd_318 : (Jvm.Cond.instanceMethod ({ cls := "java/lang/Throwable", name := "<init>", desc := "(Ljava/lang/String;)V" } : Jvm.MethodName)) ∈ wsAll := wdA (List.mem_of_getElem? (i := 318) (by decide +kernel)) (by decide +kernel)
theorem wd_319 : (Jvm.Cond.code ({ cls := "java/lang/Throwable", name := "<init>", desc := "(Ljava/lang/String;)V" } : Jvm.MethodName) prog_18_method_2_code (2 : Nat) (Option.none : Option Jvm.ClassFile.FieldType)) ∈ wsAll := wdA (List.mem_of_getElem? (i := 319) (by decide +kernel)) (by decide +kernel)
theorem wd_320 : (Jvm.Cond.fieldLink "java/lang/Throwable" (198 : Nat) "java/lang/Throwable" "backtrace" "Ljava/lang/Object;") ∈ wsAll := wdA (List.mem_of_getElem? (i := 320) (by decide +kernel)) (by decide +kernel)
theorem wd_321 : (Jvm.Cond.fieldLink "java/lang/Throwable" (31 : Nat) "java/lang/Throwable" "detailMessage" "Ljava/lang/String;") ∈ wsAll := wdA (List.mem_of_getElem? (i := 321) (by decide +kernel)) (by decide +kernel)
theorem wd_322 : (Jvm.Cond.fieldLink "java/lang/Throwable" (7 : Nat) "java/lang/Throwable" "cause" "Ljava/lang/Throwable;") ∈ wsAll := wdA (List.mem_of_getElem? (i := 322) (by decide +kernel)) (by decide +kernel)
theorem wd_323 : (Jvm.Cond.fieldLink "java/lang/Throwable" (17 : Nat) "java/lang/Throwable" "stackTrace" "[Ljava/lang/StackTraceElement;") ∈ wsAll := wdA (List.mem_of_getElem? (i := 323) (by decide +kernel)) (by decide +kernel)
theorem wd_324 : (Jvm.Cond.fieldLink "java/lang/Throwable" (24 : Nat) "java/lang/Throwable" "suppressedExceptions" "Ljava/util/List;") ∈ wsAll := wdA (List.mem_of_getElem? (i := 324) (by decide +kernel)) (by decide +kernel)
theorem wd_329 : (Jvm.Cond.lays "java/lang/IndexOutOfBoundsException" "java/lang/Throwable" "depth" "I") ∈ wsAll := wdA (List.mem_of_getElem? (i := 329) (by decide +kernel)) (by decide +kernel)
theorem wd_332 : (Jvm.Cond.superclass "java/lang/IndexOutOfBoundsException" "java/lang/RuntimeException") ∈ wsAll := wdA (List.mem_of_getElem? (i := 332) (by decide +kernel)) (by decide +kernel)
theorem wd_333 : (Jvm.Cond.arrayClass Jvm.ClassFile.FieldType.byte) ∈ wsAll := wdA (List.mem_of_getElem? (i := 333) (by decide +kernel)) (by decide +kernel)
theorem wd_334 : (Jvm.Cond.methodLink "Mergeparlour" (42 : Nat) ({ cls := "Mergeparlour", name := "checkLineIsKnown", desc := "(LMergeparlour$Site;I)V" } : Jvm.MethodName)) ∈ wsAll := wdA (List.mem_of_getElem? (i := 334) (by decide +kernel)) (by decide +kernel)
theorem wd_336 : (Jvm.Cond.instanceMethod ({ cls := "Mergeparlour", name := "checkLineIsKnown", desc := "(LMergeparlour$Site;I)V" } : Jvm.MethodName)) ∈ wsAll := wdA (List.mem_of_getElem? (i := 336) (by decide +kernel)) (by decide +kernel)
theorem wd_337 : (Jvm.Cond.code ({ cls := "Mergeparlour", name := "checkLineIsKnown", desc := "(LMergeparlour$Site;I)V" } : Jvm.MethodName) prog_1_method_19_code (3 : Nat) (Option.none : Option Jvm.ClassFile.FieldType)) ∈ wsAll := wdA (List.mem_of_getElem? (i := 337) (by decide +kernel)) (by decide +kernel)
theorem wd_338 : (Jvm.Cond.methodLink "Mergeparlour" (164 : Nat) ({ cls := "Mergeparlour$Text", name := "knowsLine", desc := "(I)Z" } : Jvm.MethodName)) ∈ wsAll := wdA (List.mem_of_getElem? (i := 338) (by decide +kernel)) (by decide +kernel)
theorem wd_339 : (Jvm.Cond.instanceMethod ({ cls := "Mergeparlour$Text", name := "knowsLine", desc := "(I)Z" } : Jvm.MethodName)) ∈ wsAll := wdA (List.mem_of_getElem? (i := 339) (by decide +kernel)) (by decide +kernel)
theorem wd_340 : (Jvm.Cond.selects "Mergeparlour$Text" ({ cls := "Mergeparlour$Text", name := "knowsLine", desc := "(I)Z" } : Jvm.MethodName) ({ cls := "Mergeparlour$Text", name := "knowsLine", desc := "(I)Z" } : Jvm.MethodName)) ∈ wsAll := wdA (List.mem_of_getElem? (i := 340) (by decide +kernel)) (by decide +kernel)
theorem wd_341 : (Jvm.Cond.code ({ cls := "Mergeparlour$Text", name := "knowsLine", desc := "(I)Z" } : Jvm.MethodName) prog_7_method_3_code (2 : Nat) (Option.some Jvm.ClassFile.FieldType.boolean)) ∈ wsAll := wdA (List.mem_of_getElem? (i := 341) (by decide +kernel)) (by decide +kernel)
theorem wd_342 : (Jvm.Cond.methodLink "Mergeparlour$Text" (65 : Nat) ({ cls := "Mergeparlour$Numbers", name := "at", desc := "(I)I" } : Jvm.MethodName)) ∈ wsAll := wdA (List.mem_of_getElem? (i := 342) (by decide +kernel)) (by decide +kernel)
theorem wd_344 : (Jvm.Cond.classLink "Mergeparlour" (46 : Nat) "java/lang/IllegalArgumentException") ∈ wsAll := wdA (List.mem_of_getElem? (i := 344) (by decide +kernel)) (by decide +kernel)
theorem wd_345 : (Jvm.Cond.instantiable "java/lang/IllegalArgumentException" (6 : Nat)) ∈ wsAll := wdA (List.mem_of_getElem? (i := 345) (by decide +kernel)) (by decide +kernel)
theorem wd_347 : (Jvm.Cond.selects "java/lang/IllegalArgumentException" ({ cls := "java/lang/Throwable", name := "fillInStackTrace", desc := "(I)Ljava/lang/Throwable;" } : Jvm.MethodName) ({ cls := "java/lang/Throwable", name := "fillInStackTrace", desc := "(I)Ljava/lang/Throwable;" } : Jvm.MethodName)) ∈ wsAll := wdA (List.mem_of_getElem? (i := 347) (by decide +kernel)) (by decide +kernel)
theorem wd_348 : (Jvm.Cond.lays "java/lang/IllegalArgumentException" "java/lang/Throwable" "cause" "Ljava/lang/Throwable;") ∈ wsAll := wdA (List.mem_of_getElem? (i := 348) (by decide +kernel)) (by decide +kernel)
theorem wd_349 : (Jvm.Cond.lays "java/lang/IllegalArgumentException" "java/lang/Throwable" "stackTrace" "[Ljava/lang/StackTraceElement;") ∈ wsAll := wdA (List.mem_of_getElem? (i := 349) (by decide +kernel)) (by decide +kernel)
theorem wd_350 : (Jvm.Cond.lays "java/lang/IllegalArgumentException" "java/lang/Throwable" "suppressedExceptions" "Ljava/util/List;") ∈ wsAll := wdA (List.mem_of_getElem? (i := 350) (by decide +kernel)) (by decide +kernel)
theorem wd_351 : (Jvm.Cond.lays "java/lang/IllegalArgumentException" "java/lang/Throwable" "detailMessage" "Ljava/lang/String;") ∈ wsAll := wdA (List.mem_of_getElem? (i := 351) (by decide +kernel)) (by decide +kernel)
theorem wd_352 : (Jvm.Cond.lays "java/lang/IllegalArgumentException" "java/lang/Throwable" "backtrace" "Ljava/lang/Object;") ∈ wsAll := wdA (List.mem_of_getElem? (i := 352) (by decide +kernel)) (by decide +kernel)
theorem wd_354 : (Jvm.Cond.methodLink "Mergeparlour" (50 : Nat) ({ cls := "java/lang/IllegalArgumentException", name := "<init>", desc := "(Ljava/lang/String;)V" } : Jvm.MethodName)) ∈ wsAll := wdA (List.mem_of_getElem? (i := 354) (by decide +kernel)) (by decide +kernel)
theorem wd_355 : (Jvm.Cond.instanceMethod ({ cls := "java/lang/IllegalArgumentException", name := "<init>", desc := "(Ljava/lang/String;)V" } : Jvm.MethodName)) ∈ wsAll := wdA (List.mem_of_getElem? (i := 355) (by decide +kernel)) (by decide +kernel)
theorem wd_356 : (Jvm.Cond.code ({ cls := "java/lang/IllegalArgumentException", name := "<init>", desc := "(Ljava/lang/String;)V" } : Jvm.MethodName) prog_12_method_2_code (2 : Nat) (Option.none : Option Jvm.ClassFile.FieldType)) ∈ wsAll := wdA (List.mem_of_getElem? (i := 356) (by decide +kernel)) (by decide +kernel)
theorem wd_357 : (Jvm.Cond.methodLink "java/lang/IllegalArgumentException" (7 : Nat) ({ cls := "java/lang/RuntimeException", name := "<init>", desc := "(Ljava/lang/String;)V" } : Jvm.MethodName)) ∈ wsAll := wdA (List.mem_of_getElem? (i := 357) (by decide +kernel)) (by decide +kernel)
theorem wd_358 : (Jvm.Cond.lays "java/lang/IllegalArgumentException" "java/lang/Throwable" "depth" "I") ∈ wsAll := wdA (List.mem_of_getElem? (i := 358) (by decide +kernel)) (by decide +kernel)
theorem wd_359 : (Jvm.Cond.superclass "java/lang/IllegalArgumentException" "java/lang/RuntimeException") ∈ wsAll := wdA (List.mem_of_getElem? (i := 359) (by decide +kernel)) (by decide +kernel)
theorem wd_360 : (Jvm.Cond.methodLink "Mergeparlour" (53 : Nat) ({ cls := "Mergeparlour", name := "checkRoomForDeed", desc := "()V" } : Jvm.MethodName)) ∈ wsAll := wdA (List.mem_of_getElem? (i := 360) (by decide +kernel)) (by decide +kernel)
theorem wd_362 : (Jvm.Cond.instanceMethod ({ cls := "Mergeparlour", name := "checkRoomForDeed", desc := "()V" } : Jvm.MethodName)) ∈ wsAll := wdA (List.mem_of_getElem? (i := 362) (by decide +kernel)) (by decide +kernel)
theorem wd_363 : (Jvm.Cond.code ({ cls := "Mergeparlour", name := "checkRoomForDeed", desc := "()V" } : Jvm.MethodName) prog_1_method_22_code (1 : Nat) (Option.none : Option Jvm.ClassFile.FieldType)) ∈ wsAll := wdA (List.mem_of_getElem? (i := 363) (by decide +kernel)) (by decide +kernel)
theorem wd_364 : (Jvm.Cond.methodLink "Mergeparlour" (182 : Nat) ({ cls := "Mergeparlour$Ledger", name := "deedCount", desc := "()I" } : Jvm.MethodName)) ∈ wsAll := wdA (List.mem_of_getElem? (i := 364) (by decide +kernel)) (by decide +kernel)
theorem wd_365 : (Jvm.Cond.instanceMethod ({ cls := "Mergeparlour$Ledger", name := "deedCount", desc := "()I" } : Jvm.MethodName)) ∈ wsAll := wdA (List.mem_of_getElem? (i := 365) (by decide +kernel)) (by decide +kernel)
theorem wd_366 : (Jvm.Cond.selects "Mergeparlour$Ledger" ({ cls := "Mergeparlour$Ledger", name := "deedCount", desc := "()I" } : Jvm.MethodName) ({ cls := "Mergeparlour$Ledger", name := "deedCount", desc := "()I" } : Jvm.MethodName)) ∈ wsAll := wdA (List.mem_of_getElem? (i := 366) (by decide +kernel)) (by decide +kernel)
theorem wd_367 : (Jvm.Cond.code ({ cls := "Mergeparlour$Ledger", name := "deedCount", desc := "()I" } : Jvm.MethodName) prog_3_method_5_code (1 : Nat) (Option.some Jvm.ClassFile.FieldType.int)) ∈ wsAll := wdA (List.mem_of_getElem? (i := 367) (by decide +kernel)) (by decide +kernel)
theorem wd_368 : (Jvm.Cond.methodLink "Mergeparlour$Ledger" (47 : Nat) ({ cls := "Mergeparlour$Numbers", name := "size", desc := "()I" } : Jvm.MethodName)) ∈ wsAll := wdA (List.mem_of_getElem? (i := 368) (by decide +kernel)) (by decide +kernel)
theorem wd_369 : (Jvm.Cond.classLink "Mergeparlour" (97 : Nat) "java/lang/IllegalStateException") ∈ wsAll := wdA (List.mem_of_getElem? (i := 369) (by decide +kernel)) (by decide +kernel)
theorem wd_370 : (Jvm.Cond.instantiable "java/lang/IllegalStateException" (6 : Nat)) ∈ wsAll := wdA (List.mem_of_getElem? (i := 370) (by decide +kernel)) (by decide +kernel)
theorem wd_372 : (Jvm.Cond.selects "java/lang/IllegalStateException" ({ cls := "java/lang/Throwable", name := "fillInStackTrace", desc := "(I)Ljava/lang/Throwable;" } : Jvm.MethodName) ({ cls := "java/lang/Throwable", name := "fillInStackTrace", desc := "(I)Ljava/lang/Throwable;" } : Jvm.MethodName)) ∈ wsAll := wdA (List.mem_of_getElem? (i := 372) (by decide +kernel)) (by decide +kernel)
theorem wd_373 : (Jvm.Cond.lays "java/lang/IllegalStateException" "java/lang/Throwable" "cause" "Ljava/lang/Throwable;") ∈ wsAll := wdA (List.mem_of_getElem? (i := 373) (by decide +kernel)) (by decide +kernel)
theorem wd_374 : (Jvm.Cond.lays "java/lang/IllegalStateException" "java/lang/Throwable" "stackTrace" "[Ljava/lang/StackTraceElement;") ∈ wsAll := wdA (List.mem_of_getElem? (i := 374) (by decide +kernel)) (by decide +kernel)
theorem wd_375 : (Jvm.Cond.lays "java/lang/IllegalStateException" "java/lang/Throwable" "suppressedExceptions" "Ljava/util/List;") ∈ wsAll := wdA (List.mem_of_getElem? (i := 375) (by decide +kernel)) (by decide +kernel)
theorem wd_376 : (Jvm.Cond.lays "java/lang/IllegalStateException" "java/lang/Throwable" "detailMessage" "Ljava/lang/String;") ∈ wsAll := wdA (List.mem_of_getElem? (i := 376) (by decide +kernel)) (by decide +kernel)
theorem wd_377 : (Jvm.Cond.lays "java/lang/IllegalStateException" "java/lang/Throwable" "backtrace" "Ljava/lang/Object;") ∈ wsAll := wdA (List.mem_of_getElem? (i := 377) (by decide +kernel)) (by decide +kernel)
theorem wd_379 : (Jvm.Cond.methodLink "Mergeparlour" (101 : Nat) ({ cls := "java/lang/IllegalStateException", name := "<init>", desc := "(Ljava/lang/String;)V" } : Jvm.MethodName)) ∈ wsAll := wdA (List.mem_of_getElem? (i := 379) (by decide +kernel)) (by decide +kernel)
theorem wd_380 : (Jvm.Cond.instanceMethod ({ cls := "java/lang/IllegalStateException", name := "<init>", desc := "(Ljava/lang/String;)V" } : Jvm.MethodName)) ∈ wsAll := wdA (List.mem_of_getElem? (i := 380) (by decide +kernel)) (by decide +kernel)
theorem wd_381 : (Jvm.Cond.code ({ cls := "java/lang/IllegalStateException", name := "<init>", desc := "(Ljava/lang/String;)V" } : Jvm.MethodName) prog_13_method_2_code (2 : Nat) (Option.none : Option Jvm.ClassFile.FieldType)) ∈ wsAll := wdA (List.mem_of_getElem? (i := 381) (by decide +kernel)) (by decide +kernel)
theorem wd_382 : (Jvm.Cond.methodLink "java/lang/IllegalStateException" (7 : Nat) ({ cls := "java/lang/RuntimeException", name := "<init>", desc := "(Ljava/lang/String;)V" } : Jvm.MethodName)) ∈ wsAll := wdA (List.mem_of_getElem? (i := 382) (by decide +kernel)) (by decide +kernel)
theorem wd_383 : (Jvm.Cond.lays "java/lang/IllegalStateException" "java/lang/Throwable" "depth" "I") ∈ wsAll := wdA (List.mem_of_getElem? (i := 383) (by decide +kernel)) (by decide +kernel)
theorem wd_384 : (Jvm.Cond.superclass "java/lang/IllegalStateException" "java/lang/RuntimeException") ∈ wsAll := wdA (List.mem_of_getElem? (i := 384) (by decide +kernel)) (by decide +kernel)
theorem wd_385 : (Jvm.Cond.methodLink "Mergeparlour" (56 : Nat) ({ cls := "Mergeparlour$Site", name := "nextStamp", desc := "()I" } : Jvm.MethodName)) ∈ wsAll := wdA (List.mem_of_getElem? (i := 385) (by decide +kernel)) (by decide +kernel)
theorem wd_386 : (Jvm.Cond.instanceMethod ({ cls := "Mergeparlour$Site", name := "nextStamp", desc := "()I" } : Jvm.MethodName)) ∈ wsAll := wdA (List.mem_of_getElem? (i := 386) (by decide +kernel)) (by decide +kernel)
theorem wd_387 : (Jvm.Cond.selects "Mergeparlour$Site" ({ cls := "Mergeparlour$Site", name := "nextStamp", desc := "()I" } : Jvm.MethodName) ({ cls := "Mergeparlour$Site", name := "nextStamp", desc := "()I" } : Jvm.MethodName)) ∈ wsAll := wdA (List.mem_of_getElem? (i := 387) (by decide +kernel)) (by decide +kernel)
theorem wd_388 : (Jvm.Cond.code ({ cls := "Mergeparlour$Site", name := "nextStamp", desc := "()I" } : Jvm.MethodName) prog_6_method_2_code (1 : Nat) (Option.some Jvm.ClassFile.FieldType.int)) ∈ wsAll := wdA (List.mem_of_getElem? (i := 388) (by decide +kernel)) (by decide +kernel)
theorem wd_389 : (Jvm.Cond.methodLink "Mergeparlour" (60 : Nat) ({ cls := "Mergeparlour$Ledger", name := "addLine", desc := "(IIIZ)I" } : Jvm.MethodName)) ∈ wsAll := wdA (List.mem_of_getElem? (i := 389) (by decide +kernel)) (by decide +kernel)
theorem wd_390 : (Jvm.Cond.instanceMethod ({ cls := "Mergeparlour$Ledger", name := "addLine", desc := "(IIIZ)I" } : Jvm.MethodName)) ∈ wsAll := wdA (List.mem_of_getElem? (i := 390) (by decide +kernel)) (by decide +kernel)
theorem wd_391 : (Jvm.Cond.selects "Mergeparlour$Ledger" ({ cls := "Mergeparlour$Ledger", name := "addLine", desc := "(IIIZ)I" } : Jvm.MethodName) ({ cls := "Mergeparlour$Ledger", name := "addLine", desc := "(IIIZ)I" } : Jvm.MethodName)) ∈ wsAll := wdA (List.mem_of_getElem? (i := 391) (by decide +kernel)) (by decide +kernel)
theorem wd_392 : (Jvm.Cond.code ({ cls := "Mergeparlour$Ledger", name := "addLine", desc := "(IIIZ)I" } : Jvm.MethodName) prog_3_method_3_code (5 : Nat) (Option.some Jvm.ClassFile.FieldType.int)) ∈ wsAll := wdA (List.mem_of_getElem? (i := 392) (by decide +kernel)) (by decide +kernel)
theorem wd_393 : (Jvm.Cond.methodLink "Mergeparlour$Ledger" (44 : Nat) ({ cls := "Mergeparlour$Numbers", name := "add", desc := "(I)V" } : Jvm.MethodName)) ∈ wsAll := wdA (List.mem_of_getElem? (i := 393) (by decide +kernel)) (by decide +kernel)
theorem wd_394 : (Jvm.Cond.instanceMethod ({ cls := "Mergeparlour$Numbers", name := "add", desc := "(I)V" } : Jvm.MethodName)) ∈ wsAll := wdA (List.mem_of_getElem? (i := 394) (by decide +kernel)) (by decide +kernel)
theorem wd_395 : (Jvm.Cond.selects "Mergeparlour$Numbers" ({ cls := "Mergeparlour$Numbers", name := "add", desc := "(I)V" } : Jvm.MethodName) ({ cls := "Mergeparlour$Numbers", name := "add", desc := "(I)V" } : Jvm.MethodName)) ∈ wsAll := wdA (List.mem_of_getElem? (i := 395) (by decide +kernel)) (by decide +kernel)
theorem wd_396 : (Jvm.Cond.code ({ cls := "Mergeparlour$Numbers", name := "add", desc := "(I)V" } : Jvm.MethodName) prog_4_method_5_code (2 : Nat) (Option.none : Option Jvm.ClassFile.FieldType)) ∈ wsAll := wdA (List.mem_of_getElem? (i := 396) (by decide +kernel)) (by decide +kernel)
theorem wd_397 : (Jvm.Cond.methodLink "Mergeparlour$Numbers" (25 : Nat) ({ cls := "Mergeparlour$Numbers", name := "putBetween", desc := "(II)V" } : Jvm.MethodName)) ∈ wsAll := wdA (List.mem_of_getElem? (i := 397) (by decide +kernel)) (by decide +kernel)
theorem wd_398 : (Jvm.Cond.instanceMethod ({ cls := "Mergeparlour$Numbers", name := "putBetween", desc := "(II)V" } : Jvm.MethodName)) ∈ wsAll := wdA (List.mem_of_getElem? (i := 398) (by decide +kernel)) (by decide +kernel)
theorem wd_399 : (Jvm.Cond.selects "Mergeparlour$Numbers" ({ cls := "Mergeparlour$Numbers", name := "putBetween", desc := "(II)V" } : Jvm.MethodName) ({ cls := "Mergeparlour$Numbers", name := "putBetween", desc := "(II)V" } : Jvm.MethodName)) ∈ wsAll := wdA (List.mem_of_getElem? (i := 399) (by decide +kernel)) (by decide +kernel)
theorem wd_400 : (Jvm.Cond.code ({ cls := "Mergeparlour$Numbers", name := "putBetween", desc := "(II)V" } : Jvm.MethodName) prog_4_method_6_code (4 : Nat) (Option.none : Option Jvm.ClassFile.FieldType)) ∈ wsAll := wdA (List.mem_of_getElem? (i := 400) (by decide +kernel)) (by decide +kernel)
theorem wd_401 : (Jvm.Cond.methodLink "Mergeparlour$Numbers" (29 : Nat) ({ cls := "Mergeparlour$Numbers", name := "at", desc := "(I)I" } : Jvm.MethodName)) ∈ wsAll := wdA (List.mem_of_getElem? (i := 401) (by decide +kernel)) (by decide +kernel)
theorem wd_402 : (Jvm.Cond.methodLink "Mergeparlour$Numbers" (33 : Nat) ({ cls := "Mergeparlour$Numbers", name := "put", desc := "(II)V" } : Jvm.MethodName)) ∈ wsAll := wdA (List.mem_of_getElem? (i := 402) (by decide +kernel)) (by decide +kernel)
theorem wd_403 : (Jvm.Cond.instanceMethod ({ cls := "Mergeparlour$Numbers", name := "put", desc := "(II)V" } : Jvm.MethodName)) ∈ wsAll := wdA (List.mem_of_getElem? (i := 403) (by decide +kernel)) (by decide +kernel)
theorem wd_404 : (Jvm.Cond.selects "Mergeparlour$Numbers" ({ cls := "Mergeparlour$Numbers", name := "put", desc := "(II)V" } : Jvm.MethodName) ({ cls := "Mergeparlour$Numbers", name := "put", desc := "(II)V" } : Jvm.MethodName)) ∈ wsAll := wdA (List.mem_of_getElem? (i := 404) (by decide +kernel)) (by decide +kernel)
theorem wd_405 : (Jvm.Cond.code ({ cls := "Mergeparlour$Numbers", name := "put", desc := "(II)V" } : Jvm.MethodName) prog_4_method_4_code (3 : Nat) (Option.none : Option Jvm.ClassFile.FieldType)) ∈ wsAll := wdA (List.mem_of_getElem? (i := 405) (by decide +kernel)) (by decide +kernel)
theorem wd_406 : (Jvm.Cond.methodLink "Mergeparlour" (64 : Nat) ({ cls := "Mergeparlour$Ledger", name := "addDeed", desc := "(IIII)I" } : Jvm.MethodName)) ∈ wsAll := wdA (List.mem_of_getElem? (i := 406) (by decide +kernel)) (by decide +kernel)
theorem wd_407 : (Jvm.Cond.instanceMethod ({ cls := "Mergeparlour$Ledger", name := "addDeed", desc := "(IIII)I" } : Jvm.MethodName)) ∈ wsAll := wdA (List.mem_of_getElem? (i := 407) (by decide +kernel)) (by decide +kernel)
theorem wd_408 : (Jvm.Cond.selects "Mergeparlour$Ledger" ({ cls := "Mergeparlour$Ledger", name := "addDeed", desc := "(IIII)I" } : Jvm.MethodName) ({ cls := "Mergeparlour$Ledger", name := "addDeed", desc := "(IIII)I" } : Jvm.MethodName)) ∈ wsAll := wdA (List.mem_of_getElem? (i := 408) (by decide +kernel)) (by decide +kernel)
theorem wd_409 : (Jvm.Cond.code ({ cls := "Mergeparlour$Ledger", name := "addDeed", desc := "(IIII)I" } : Jvm.MethodName) prog_3_method_2_code (5 : Nat) (Option.some Jvm.ClassFile.FieldType.int)) ∈ wsAll := wdA (List.mem_of_getElem? (i := 409) (by decide +kernel)) (by decide +kernel)
theorem wd_410 : (Jvm.Cond.methodLink "Mergeparlour" (68 : Nat) ({ cls := "Mergeparlour$Site", name := "take", desc := "(I)V" } : Jvm.MethodName)) ∈ wsAll := wdA (List.mem_of_getElem? (i := 410) (by decide +kernel)) (by decide +kernel)
theorem wd_411 : (Jvm.Cond.instanceMethod ({ cls := "Mergeparlour$Site", name := "take", desc := "(I)V" } : Jvm.MethodName)) ∈ wsAll := wdA (List.mem_of_getElem? (i := 411) (by decide +kernel)) (by decide +kernel)
theorem wd_412 : (Jvm.Cond.selects "Mergeparlour$Site" ({ cls := "Mergeparlour$Site", name := "take", desc := "(I)V" } : Jvm.MethodName) ({ cls := "Mergeparlour$Site", name := "take", desc := "(I)V" } : Jvm.MethodName)) ∈ wsAll := wdA (List.mem_of_getElem? (i := 412) (by decide +kernel)) (by decide +kernel)
theorem wd_413 : (Jvm.Cond.code ({ cls := "Mergeparlour$Site", name := "take", desc := "(I)V" } : Jvm.MethodName) prog_6_method_3_code (2 : Nat) (Option.none : Option Jvm.ClassFile.FieldType)) ∈ wsAll := wdA (List.mem_of_getElem? (i := 413) (by decide +kernel)) (by decide +kernel)
theorem wd_414 : (Jvm.Cond.methodLink "Mergeparlour$Site" (48 : Nat) ({ cls := "Mergeparlour$Site", name := "learn", desc := "(I)V" } : Jvm.MethodName)) ∈ wsAll := wdA (List.mem_of_getElem? (i := 414) (by decide +kernel)) (by decide +kernel)
theorem wd_416 : (Jvm.Cond.instanceMethod ({ cls := "Mergeparlour$Site", name := "learn", desc := "(I)V" } : Jvm.MethodName)) ∈ wsAll := wdA (List.mem_of_getElem? (i := 416) (by decide +kernel)) (by decide +kernel)
theorem wd_417 : (Jvm.Cond.code ({ cls := "Mergeparlour$Site", name := "learn", desc := "(I)V" } : Jvm.MethodName) prog_6_method_6_code (2 : Nat) (Option.none : Option Jvm.ClassFile.FieldType)) ∈ wsAll := wdA (List.mem_of_getElem? (i := 417) (by decide +kernel)) (by decide +kernel)
theorem wd_418 : (Jvm.Cond.methodLink "Mergeparlour$Site" (54 : Nat) ({ cls := "Mergeparlour$Numbers", name := "size", desc := "()I" } : Jvm.MethodName)) ∈ wsAll := wdA (List.mem_of_getElem? (i := 418) (by decide +kernel)) (by decide +kernel)
theorem wd_419 : (Jvm.Cond.methodLink "Mergeparlour$Site" (68 : Nat) ({ cls := "Mergeparlour$Numbers", name := "put", desc := "(II)V" } : Jvm.MethodName)) ∈ wsAll := wdA (List.mem_of_getElem? (i := 419) (by decide +kernel)) (by decide +kernel)
theorem wd_420 : (Jvm.Cond.methodLink "Mergeparlour$Site" (72 : Nat) ({ cls := "Mergeparlour$Numbers", name := "add", desc := "(I)V" } : Jvm.MethodName)) ∈ wsAll := wdA (List.mem_of_getElem? (i := 420) (by decide +kernel)) (by decide +kernel)
theorem wd_421 : (Jvm.Cond.methodLink "Mergeparlour$Site" (75 : Nat) ({ cls := "Mergeparlour$Text", name := "change", desc := "(I)V" } : Jvm.MethodName)) ∈ wsAll := wdA (List.mem_of_getElem? (i := 421) (by decide +kernel)) (by decide +kernel)
theorem wd_422 : (Jvm.Cond.instanceMethod ({ cls := "Mergeparlour$Text", name := "change", desc := "(I)V" } : Jvm.MethodName)) ∈ wsAll := wdA (List.mem_of_getElem? (i := 422) (by decide +kernel)) (by decide +kernel)
theorem wd_423 : (Jvm.Cond.selects "Mergeparlour$Text" ({ cls := "Mergeparlour$Text", name := "change", desc := "(I)V" } : Jvm.MethodName) ({ cls := "Mergeparlour$Text", name := "change", desc := "(I)V" } : Jvm.MethodName)) ∈ wsAll := wdA (List.mem_of_getElem? (i := 423) (by decide +kernel)) (by decide +kernel)
theorem wd_424 : (Jvm.Cond.code ({ cls := "Mergeparlour$Text", name := "change", desc := "(I)V" } : Jvm.MethodName) prog_7_method_2_code (3 : Nat) (Option.none : Option Jvm.ClassFile.FieldType)) ∈ wsAll := wdA (List.mem_of_getElem? (i := 424) (by decide +kernel)) (by decide +kernel)
theorem wd_425 : (Jvm.Cond.methodLink "Mergeparlour$Text" (39 : Nat) ({ cls := "Mergeparlour$Ledger", name := "subjectOf", desc := "(I)I" } : Jvm.MethodName)) ∈ wsAll := wdA (List.mem_of_getElem? (i := 425) (by decide +kernel)) (by decide +kernel)
theorem wd_426 : (Jvm.Cond.instanceMethod ({ cls := "Mergeparlour$Ledger", name := "subjectOf", desc := "(I)I" } : Jvm.MethodName)) ∈ wsAll := wdA (List.mem_of_getElem? (i := 426) (by decide +kernel)) (by decide +kernel)
theorem wd_427 : (Jvm.Cond.selects "Mergeparlour$Ledger" ({ cls := "Mergeparlour$Ledger", name := "subjectOf", desc := "(I)I" } : Jvm.MethodName) ({ cls := "Mergeparlour$Ledger", name := "subjectOf", desc := "(I)I" } : Jvm.MethodName)) ∈ wsAll := wdA (List.mem_of_getElem? (i := 427) (by decide +kernel)) (by decide +kernel)
theorem wd_428 : (Jvm.Cond.code ({ cls := "Mergeparlour$Ledger", name := "subjectOf", desc := "(I)I" } : Jvm.MethodName) prog_3_method_10_code (2 : Nat) (Option.some Jvm.ClassFile.FieldType.int)) ∈ wsAll := wdA (List.mem_of_getElem? (i := 428) (by decide +kernel)) (by decide +kernel)
theorem wd_429 : (Jvm.Cond.methodLink "Mergeparlour$Ledger" (51 : Nat) ({ cls := "Mergeparlour$Numbers", name := "at", desc := "(I)I" } : Jvm.MethodName)) ∈ wsAll := wdA (List.mem_of_getElem? (i := 429) (by decide +kernel)) (by decide +kernel)
theorem wd_430 : (Jvm.Cond.methodLink "Mergeparlour$Text" (45 : Nat) ({ cls := "Mergeparlour$Ledger", name := "kindOf", desc := "(I)I" } : Jvm.MethodName)) ∈ wsAll := wdA (List.mem_of_getElem? (i := 430) (by decide +kernel)) (by decide +kernel)
theorem wd_431 : (Jvm.Cond.instanceMethod ({ cls := "Mergeparlour$Ledger", name := "kindOf", desc := "(I)I" } : Jvm.MethodName)) ∈ wsAll := wdA (List.mem_of_getElem? (i := 431) (by decide +kernel)) (by decide +kernel)
theorem wd_432 : (Jvm.Cond.selects "Mergeparlour$Ledger" ({ cls := "Mergeparlour$Ledger", name := "kindOf", desc := "(I)I" } : Jvm.MethodName) ({ cls := "Mergeparlour$Ledger", name := "kindOf", desc := "(I)I" } : Jvm.MethodName)) ∈ wsAll := wdA (List.mem_of_getElem? (i := 432) (by decide +kernel)) (by decide +kernel)
theorem wd_433 : (Jvm.Cond.code ({ cls := "Mergeparlour$Ledger", name := "kindOf", desc := "(I)I" } : Jvm.MethodName) prog_3_method_8_code (2 : Nat) (Option.some Jvm.ClassFile.FieldType.int)) ∈ wsAll := wdA (List.mem_of_getElem? (i := 433) (by decide +kernel)) (by decide +kernel)
theorem wd_434 : (Jvm.Cond.methodLink "Mergeparlour$Text" (48 : Nat) ({ cls := "Mergeparlour$Text", name := "putIn", desc := "(I)V" } : Jvm.MethodName)) ∈ wsAll := wdA (List.mem_of_getElem? (i := 434) (by decide +kernel)) (by decide +kernel)
theorem wd_436 : (Jvm.Cond.instanceMethod ({ cls := "Mergeparlour$Text", name := "putIn", desc := "(I)V" } : Jvm.MethodName)) ∈ wsAll := wdA (List.mem_of_getElem? (i := 436) (by decide +kernel)) (by decide +kernel)
theorem wd_437 : (Jvm.Cond.code ({ cls := "Mergeparlour$Text", name := "putIn", desc := "(I)V" } : Jvm.MethodName) prog_7_method_10_code (4 : Nat) (Option.none : Option Jvm.ClassFile.FieldType)) ∈ wsAll := wdA (List.mem_of_getElem? (i := 437) (by decide +kernel)) (by decide +kernel)
theorem wd_438 : (Jvm.Cond.methodLink "Mergeparlour$Text" (82 : Nat) ({ cls := "Mergeparlour$Ledger", name := "stampOfLine", desc := "(I)I" } : Jvm.MethodName)) ∈ wsAll := wdA (List.mem_of_getElem? (i := 438) (by decide +kernel)) (by decide +kernel)
theorem wd_439 : (Jvm.Cond.instanceMethod ({ cls := "Mergeparlour$Ledger", name := "stampOfLine", desc := "(I)I" } : Jvm.MethodName)) ∈ wsAll := wdA (List.mem_of_getElem? (i := 439) (by decide +kernel)) (by decide +kernel)
theorem wd_440 : (Jvm.Cond.selects "Mergeparlour$Ledger" ({ cls := "Mergeparlour$Ledger", name := "stampOfLine", desc := "(I)I" } : Jvm.MethodName) ({ cls := "Mergeparlour$Ledger", name := "stampOfLine", desc := "(I)I" } : Jvm.MethodName)) ∈ wsAll := wdA (List.mem_of_getElem? (i := 440) (by decide +kernel)) (by decide +kernel)
theorem wd_441 : (Jvm.Cond.code ({ cls := "Mergeparlour$Ledger", name := "stampOfLine", desc := "(I)I" } : Jvm.MethodName) prog_3_method_12_code (2 : Nat) (Option.some Jvm.ClassFile.FieldType.int)) ∈ wsAll := wdA (List.mem_of_getElem? (i := 441) (by decide +kernel)) (by decide +kernel)
theorem wd_442 : (Jvm.Cond.methodLink "Mergeparlour$Text" (85 : Nat) ({ cls := "Mergeparlour$Ledger", name := "behindOf", desc := "(I)I" } : Jvm.MethodName)) ∈ wsAll := wdA (List.mem_of_getElem? (i := 442) (by decide +kernel)) (by decide +kernel)
theorem wd_443 : (Jvm.Cond.instanceMethod ({ cls := "Mergeparlour$Ledger", name := "behindOf", desc := "(I)I" } : Jvm.MethodName)) ∈ wsAll := wdA (List.mem_of_getElem? (i := 443) (by decide +kernel)) (by decide +kernel)
theorem wd_444 : (Jvm.Cond.selects "Mergeparlour$Ledger" ({ cls := "Mergeparlour$Ledger", name := "behindOf", desc := "(I)I" } : Jvm.MethodName) ({ cls := "Mergeparlour$Ledger", name := "behindOf", desc := "(I)I" } : Jvm.MethodName)) ∈ wsAll := wdA (List.mem_of_getElem? (i := 444) (by decide +kernel)) (by decide +kernel)
theorem wd_445 : (Jvm.Cond.code ({ cls := "Mergeparlour$Ledger", name := "behindOf", desc := "(I)I" } : Jvm.MethodName) prog_3_method_13_code (2 : Nat) (Option.some Jvm.ClassFile.FieldType.int)) ∈ wsAll := wdA (List.mem_of_getElem? (i := 445) (by decide +kernel)) (by decide +kernel)
theorem wd_446 : (Jvm.Cond.methodLink "Mergeparlour$Text" (72 : Nat) ({ cls := "Mergeparlour$Numbers", name := "placeOf", desc := "(I)I" } : Jvm.MethodName)) ∈ wsAll := wdA (List.mem_of_getElem? (i := 446) (by decide +kernel)) (by decide +kernel)
theorem wd_447 : (Jvm.Cond.instanceMethod ({ cls := "Mergeparlour$Numbers", name := "placeOf", desc := "(I)I" } : Jvm.MethodName)) ∈ wsAll := wdA (List.mem_of_getElem? (i := 447) (by decide +kernel)) (by decide +kernel)
theorem wd_448 : (Jvm.Cond.selects "Mergeparlour$Numbers" ({ cls := "Mergeparlour$Numbers", name := "placeOf", desc := "(I)I" } : Jvm.MethodName) ({ cls := "Mergeparlour$Numbers", name := "placeOf", desc := "(I)I" } : Jvm.MethodName)) ∈ wsAll := wdA (List.mem_of_getElem? (i := 448) (by decide +kernel)) (by decide +kernel)
theorem wd_449 : (Jvm.Cond.code ({ cls := "Mergeparlour$Numbers", name := "placeOf", desc := "(I)I" } : Jvm.MethodName) prog_4_method_8_code (3 : Nat) (Option.some Jvm.ClassFile.FieldType.int)) ∈ wsAll := wdA (List.mem_of_getElem? (i := 449) (by decide +kernel)) (by decide +kernel)
theorem wd_450 : (Jvm.Cond.methodLink "Mergeparlour$Text" (68 : Nat) ({ cls := "Mergeparlour$Numbers", name := "size", desc := "()I" } : Jvm.MethodName)) ∈ wsAll := wdA (List.mem_of_getElem? (i := 450) (by decide +kernel)) (by decide +kernel)
theorem wd_451 : (Jvm.Cond.methodLink "Mergeparlour$Text" (88 : Nat) ({ cls := "Mergeparlour$Numbers", name := "putBetween", desc := "(II)V" } : Jvm.MethodName)) ∈ wsAll := wdA (List.mem_of_getElem? (i := 451) (by decide +kernel)) (by decide +kernel)
theorem wd_452 : (Jvm.Cond.methodLink "Mergeparlour$Text" (51 : Nat) ({ cls := "Mergeparlour$Numbers", name := "put", desc := "(II)V" } : Jvm.MethodName)) ∈ wsAll := wdA (List.mem_of_getElem? (i := 452) (by decide +kernel)) (by decide +kernel)
theorem wd_453 : (Jvm.Cond.methodLink "Mergeparlour$Text" (55 : Nat) ({ cls := "Mergeparlour$Ledger", name := "targetOf", desc := "(I)I" } : Jvm.MethodName)) ∈ wsAll := wdA (List.mem_of_getElem? (i := 453) (by decide +kernel)) (by decide +kernel)
theorem wd_454 : (Jvm.Cond.instanceMethod ({ cls := "Mergeparlour$Ledger", name := "targetOf", desc := "(I)I" } : Jvm.MethodName)) ∈ wsAll := wdA (List.mem_of_getElem? (i := 454) (by decide +kernel)) (by decide +kernel)
theorem wd_455 : (Jvm.Cond.selects "Mergeparlour$Ledger" ({ cls := "Mergeparlour$Ledger", name := "targetOf", desc := "(I)I" } : Jvm.MethodName) ({ cls := "Mergeparlour$Ledger", name := "targetOf", desc := "(I)I" } : Jvm.MethodName)) ∈ wsAll := wdA (List.mem_of_getElem? (i := 455) (by decide +kernel)) (by decide +kernel)
theorem wd_456 : (Jvm.Cond.code ({ cls := "Mergeparlour$Ledger", name := "targetOf", desc := "(I)I" } : Jvm.MethodName) prog_3_method_11_code (2 : Nat) (Option.some Jvm.ClassFile.FieldType.int)) ∈ wsAll := wdA (List.mem_of_getElem? (i := 456) (by decide +kernel)) (by decide +kernel)
theorem wd_457 : (Jvm.Cond.methodLink "Mergeparlour$Text" (58 : Nat) ({ cls := "Mergeparlour$Ledger", name := "stampOf", desc := "(I)I" } : Jvm.MethodName)) ∈ wsAll := wdA (List.mem_of_getElem? (i := 457) (by decide +kernel)) (by decide +kernel)
theorem wd_458 : (Jvm.Cond.instanceMethod ({ cls := "Mergeparlour$Ledger", name := "stampOf", desc := "(I)I" } : Jvm.MethodName)) ∈ wsAll := wdA (List.mem_of_getElem? (i := 458) (by decide +kernel)) (by decide +kernel)
theorem wd_459 : (Jvm.Cond.selects "Mergeparlour$Ledger" ({ cls := "Mergeparlour$Ledger", name := "stampOf", desc := "(I)I" } : Jvm.MethodName) ({ cls := "Mergeparlour$Ledger", name := "stampOf", desc := "(I)I" } : Jvm.MethodName)) ∈ wsAll := wdA (List.mem_of_getElem? (i := 459) (by decide +kernel)) (by decide +kernel)
theorem wd_460 : (Jvm.Cond.code ({ cls := "Mergeparlour$Ledger", name := "stampOf", desc := "(I)I" } : Jvm.MethodName) prog_3_method_9_code (2 : Nat) (Option.some Jvm.ClassFile.FieldType.int)) ∈ wsAll := wdA (List.mem_of_getElem? (i := 460) (by decide +kernel)) (by decide +kernel)
theorem wd_461 : (Jvm.Cond.methodLink "Mergeparlour$Text" (61 : Nat) ({ cls := "Mergeparlour$Text", name := "bringNote", desc := "(III)V" } : Jvm.MethodName)) ∈ wsAll := wdA (List.mem_of_getElem? (i := 461) (by decide +kernel)) (by decide +kernel)
theorem wd_463 : (Jvm.Cond.instanceMethod ({ cls := "Mergeparlour$Text", name := "bringNote", desc := "(III)V" } : Jvm.MethodName)) ∈ wsAll := wdA (List.mem_of_getElem? (i := 463) (by decide +kernel)) (by decide +kernel)
theorem wd_464 : (Jvm.Cond.code ({ cls := "Mergeparlour$Text", name := "bringNote", desc := "(III)V" } : Jvm.MethodName) prog_7_method_11_code (4 : Nat) (Option.none : Option Jvm.ClassFile.FieldType)) ∈ wsAll := wdA (List.mem_of_getElem? (i := 464) (by decide +kernel)) (by decide +kernel)
theorem wd_465 : (Jvm.Cond.methodLink "Mergeparlour$Site" (51 : Nat) ({ cls := "Mergeparlour$Layout", name := "layAnew", desc := "()V" } : Jvm.MethodName)) ∈ wsAll := wdA (List.mem_of_getElem? (i := 465) (by decide +kernel)) (by decide +kernel)
theorem wd_466 : (Jvm.Cond.instanceMethod ({ cls := "Mergeparlour$Layout", name := "layAnew", desc := "()V" } : Jvm.MethodName)) ∈ wsAll := wdA (List.mem_of_getElem? (i := 466) (by decide +kernel)) (by decide +kernel)
theorem wd_467 : (Jvm.Cond.selects "Mergeparlour$Layout" ({ cls := "Mergeparlour$Layout", name := "layAnew", desc := "()V" } : Jvm.MethodName) ({ cls := "Mergeparlour$Layout", name := "layAnew", desc := "()V" } : Jvm.MethodName)) ∈ wsAll := wdA (List.mem_of_getElem? (i := 467) (by decide +kernel)) (by decide +kernel)
theorem wd_468 : (Jvm.Cond.code ({ cls := "Mergeparlour$Layout", name := "layAnew", desc := "()V" } : Jvm.MethodName) prog_2_method_2_code (1 : Nat) (Option.none : Option Jvm.ClassFile.FieldType)) ∈ wsAll := wdA (List.mem_of_getElem? (i := 468) (by decide +kernel)) (by decide +kernel)
theorem wd_469 : (Jvm.Cond.methodLink "Mergeparlour$Layout" (37 : Nat) ({ cls := "Mergeparlour$Layout", name := "gatherLines", desc := "()V" } : Jvm.MethodName)) ∈ wsAll := wdA (List.mem_of_getElem? (i := 469) (by decide +kernel)) (by decide +kernel)
theorem wd_471 : (Jvm.Cond.instanceMethod ({ cls := "Mergeparlour$Layout", name := "gatherLines", desc := "()V" } : Jvm.MethodName)) ∈ wsAll := wdA (List.mem_of_getElem? (i := 471) (by decide +kernel)) (by decide +kernel)
theorem wd_472 : (Jvm.Cond.code ({ cls := "Mergeparlour$Layout", name := "gatherLines", desc := "()V" } : Jvm.MethodName) prog_2_method_11_code (4 : Nat) (Option.none : Option Jvm.ClassFile.FieldType)) ∈ wsAll := wdA (List.mem_of_getElem? (i := 472) (by decide +kernel)) (by decide +kernel)
theorem wd_473 : (Jvm.Cond.methodLink "Mergeparlour$Layout" (57 : Nat) ({ cls := "Mergeparlour$Numbers", name := "clear", desc := "()V" } : Jvm.MethodName)) ∈ wsAll := wdA (List.mem_of_getElem? (i := 473) (by decide +kernel)) (by decide +kernel)
theorem wd_474 : (Jvm.Cond.instanceMethod ({ cls := "Mergeparlour$Numbers", name := "clear", desc := "()V" } : Jvm.MethodName)) ∈ wsAll := wdA (List.mem_of_getElem? (i := 474) (by decide +kernel)) (by decide +kernel)
theorem wd_475 : (Jvm.Cond.selects "Mergeparlour$Numbers" ({ cls := "Mergeparlour$Numbers", name := "clear", desc := "()V" } : Jvm.MethodName) ({ cls := "Mergeparlour$Numbers", name := "clear", desc := "()V" } : Jvm.MethodName)) ∈ wsAll := wdA (List.mem_of_getElem? (i := 475) (by decide +kernel)) (by decide +kernel)
theorem wd_476 : (Jvm.Cond.code ({ cls := "Mergeparlour$Numbers", name := "clear", desc := "()V" } : Jvm.MethodName) prog_4_method_7_code (1 : Nat) (Option.none : Option Jvm.ClassFile.FieldType)) ∈ wsAll := wdA (List.mem_of_getElem? (i := 476) (by decide +kernel)) (by decide +kernel)
theorem wd_477 : (Jvm.Cond.methodLink "Mergeparlour$Layout" (60 : Nat) ({ cls := "Mergeparlour$Text", name := "lineCount", desc := "()I" } : Jvm.MethodName)) ∈ wsAll := wdA (List.mem_of_getElem? (i := 477) (by decide +kernel)) (by decide +kernel)
theorem wd_478 : (Jvm.Cond.instanceMethod ({ cls := "Mergeparlour$Text", name := "lineCount", desc := "()I" } : Jvm.MethodName)) ∈ wsAll := wdA (List.mem_of_getElem? (i := 478) (by decide +kernel)) (by decide +kernel)
theorem wd_479 : (Jvm.Cond.selects "Mergeparlour$Text" ({ cls := "Mergeparlour$Text", name := "lineCount", desc := "()I" } : Jvm.MethodName) ({ cls := "Mergeparlour$Text", name := "lineCount", desc := "()I" } : Jvm.MethodName)) ∈ wsAll := wdA (List.mem_of_getElem? (i := 479) (by decide +kernel)) (by decide +kernel)
theorem wd_480 : (Jvm.Cond.code ({ cls := "Mergeparlour$Text", name := "lineCount", desc := "()I" } : Jvm.MethodName) prog_7_method_6_code (1 : Nat) (Option.some Jvm.ClassFile.FieldType.int)) ∈ wsAll := wdA (List.mem_of_getElem? (i := 480) (by decide +kernel)) (by decide +kernel)
theorem wd_481 : (Jvm.Cond.methodLink "Mergeparlour$Layout" (65 : Nat) ({ cls := "Mergeparlour$Text", name := "line", desc := "(I)I" } : Jvm.MethodName)) ∈ wsAll := wdA (List.mem_of_getElem? (i := 481) (by decide +kernel)) (by decide +kernel)
theorem wd_482 : (Jvm.Cond.instanceMethod ({ cls := "Mergeparlour$Text", name := "line", desc := "(I)I" } : Jvm.MethodName)) ∈ wsAll := wdA (List.mem_of_getElem? (i := 482) (by decide +kernel)) (by decide +kernel)
theorem wd_483 : (Jvm.Cond.selects "Mergeparlour$Text" ({ cls := "Mergeparlour$Text", name := "line", desc := "(I)I" } : Jvm.MethodName) ({ cls := "Mergeparlour$Text", name := "line", desc := "(I)I" } : Jvm.MethodName)) ∈ wsAll := wdA (List.mem_of_getElem? (i := 483) (by decide +kernel)) (by decide +kernel)
theorem wd_484 : (Jvm.Cond.code ({ cls := "Mergeparlour$Text", name := "line", desc := "(I)I" } : Jvm.MethodName) prog_7_method_7_code (2 : Nat) (Option.some Jvm.ClassFile.FieldType.int)) ∈ wsAll := wdA (List.mem_of_getElem? (i := 484) (by decide +kernel)) (by decide +kernel)
theorem wd_485 : (Jvm.Cond.methodLink "Mergeparlour$Layout" (68 : Nat) ({ cls := "Mergeparlour$Text", name := "hasThere", desc := "(I)Z" } : Jvm.MethodName)) ∈ wsAll := wdA (List.mem_of_getElem? (i := 485) (by decide +kernel)) (by decide +kernel)
theorem wd_486 : (Jvm.Cond.instanceMethod ({ cls := "Mergeparlour$Text", name := "hasThere", desc := "(I)Z" } : Jvm.MethodName)) ∈ wsAll := wdA (List.mem_of_getElem? (i := 486) (by decide +kernel)) (by decide +kernel)
theorem wd_487 : (Jvm.Cond.selects "Mergeparlour$Text" ({ cls := "Mergeparlour$Text", name := "hasThere", desc := "(I)Z" } : Jvm.MethodName) ({ cls := "Mergeparlour$Text", name := "hasThere", desc := "(I)Z" } : Jvm.MethodName)) ∈ wsAll := wdA (List.mem_of_getElem? (i := 487) (by decide +kernel)) (by decide +kernel)
theorem wd_488 : (Jvm.Cond.code ({ cls := "Mergeparlour$Text", name := "hasThere", desc := "(I)Z" } : Jvm.MethodName) prog_7_method_4_code (2 : Nat) (Option.some Jvm.ClassFile.FieldType.boolean)) ∈ wsAll := wdA (List.mem_of_getElem? (i := 488) (by decide +kernel)) (by decide +kernel)
theorem wd_489 : (Jvm.Cond.methodLink "Mergeparlour$Layout" (72 : Nat) ({ cls := "Mergeparlour$Ledger", name := "beginsParagraph", desc := "(I)Z" } : Jvm.MethodName)) ∈ wsAll := wdA (List.mem_of_getElem? (i := 489) (by decide +kernel)) (by decide +kernel)
theorem wd_490 : (Jvm.Cond.instanceMethod ({ cls := "Mergeparlour$Ledger", name := "beginsParagraph", desc := "(I)Z" } : Jvm.MethodName)) ∈ wsAll := wdA (List.mem_of_getElem? (i := 490) (by decide +kernel)) (by decide +kernel)
theorem wd_491 : (Jvm.Cond.selects "Mergeparlour$Ledger" ({ cls := "Mergeparlour$Ledger", name := "beginsParagraph", desc := "(I)Z" } : Jvm.MethodName) ({ cls := "Mergeparlour$Ledger", name := "beginsParagraph", desc := "(I)Z" } : Jvm.MethodName)) ∈ wsAll := wdA (List.mem_of_getElem? (i := 491) (by decide +kernel)) (by decide +kernel)
theorem wd_492 : (Jvm.Cond.code ({ cls := "Mergeparlour$Ledger", name := "beginsParagraph", desc := "(I)Z" } : Jvm.MethodName) prog_3_method_15_code (2 : Nat) (Option.some Jvm.ClassFile.FieldType.boolean)) ∈ wsAll := wdA (List.mem_of_getElem? (i := 492) (by decide +kernel)) (by decide +kernel)
theorem wd_493 : (Jvm.Cond.methodLink "Mergeparlour$Layout" (77 : Nat) ({ cls := "Mergeparlour$Numbers", name := "add", desc := "(I)V" } : Jvm.MethodName)) ∈ wsAll := wdA (List.mem_of_getElem? (i := 493) (by decide +kernel)) (by decide +kernel)
theorem wd_494 : (Jvm.Cond.methodLink "Mergeparlour$Layout" (80 : Nat) ({ cls := "Mergeparlour$Numbers", name := "put", desc := "(II)V" } : Jvm.MethodName)) ∈ wsAll := wdA (List.mem_of_getElem? (i := 494) (by decide +kernel)) (by decide +kernel)
theorem wd_495 : (Jvm.Cond.methodLink "Mergeparlour$Layout" (40 : Nat) ({ cls := "Mergeparlour$Layout", name := "addNotes", desc := "()V" } : Jvm.MethodName)) ∈ wsAll := wdA (List.mem_of_getElem? (i := 495) (by decide +kernel)) (by decide +kernel)
theorem wd_497 : (Jvm.Cond.instanceMethod ({ cls := "Mergeparlour$Layout", name := "addNotes", desc := "()V" } : Jvm.MethodName)) ∈ wsAll := wdA (List.mem_of_getElem? (i := 497) (by decide +kernel)) (by decide +kernel)
theorem wd_498 : (Jvm.Cond.code ({ cls := "Mergeparlour$Layout", name := "addNotes", desc := "()V" } : Jvm.MethodName) prog_2_method_12_code (4 : Nat) (Option.none : Option Jvm.ClassFile.FieldType)) ∈ wsAll := wdA (List.mem_of_getElem? (i := 498) (by decide +kernel)) (by decide +kernel)
theorem wd_499 : (Jvm.Cond.methodLink "Mergeparlour$Layout" (84 : Nat) ({ cls := "Mergeparlour$Ledger", name := "noteCount", desc := "()I" } : Jvm.MethodName)) ∈ wsAll := wdA (List.mem_of_getElem? (i := 499) (by decide +kernel)) (by decide +kernel)
theorem wd_500 : (Jvm.Cond.instanceMethod ({ cls := "Mergeparlour$Ledger", name := "noteCount", desc := "()I" } : Jvm.MethodName)) ∈ wsAll := wdA (List.mem_of_getElem? (i := 500) (by decide +kernel)) (by decide +kernel)
theorem wd_501 : (Jvm.Cond.selects "Mergeparlour$Ledger" ({ cls := "Mergeparlour$Ledger", name := "noteCount", desc := "()I" } : Jvm.MethodName) ({ cls := "Mergeparlour$Ledger", name := "noteCount", desc := "()I" } : Jvm.MethodName)) ∈ wsAll := wdA (List.mem_of_getElem? (i := 501) (by decide +kernel)) (by decide +kernel)
theorem wd_502 : (Jvm.Cond.code ({ cls := "Mergeparlour$Ledger", name := "noteCount", desc := "()I" } : Jvm.MethodName) prog_3_method_7_code (1 : Nat) (Option.some Jvm.ClassFile.FieldType.int)) ∈ wsAll := wdA (List.mem_of_getElem? (i := 502) (by decide +kernel)) (by decide +kernel)
theorem wd_503 : (Jvm.Cond.methodLink "Mergeparlour$Layout" (87 : Nat) ({ cls := "Mergeparlour$Text", name := "knowsNote", desc := "(I)Z" } : Jvm.MethodName)) ∈ wsAll := wdA (List.mem_of_getElem? (i := 503) (by decide +kernel)) (by decide +kernel)
theorem wd_504 : (Jvm.Cond.instanceMethod ({ cls := "Mergeparlour$Text", name := "knowsNote", desc := "(I)Z" } : Jvm.MethodName)) ∈ wsAll := wdA (List.mem_of_getElem? (i := 504) (by decide +kernel)) (by decide +kernel)
theorem wd_505 : (Jvm.Cond.selects "Mergeparlour$Text" ({ cls := "Mergeparlour$Text", name := "knowsNote", desc := "(I)Z" } : Jvm.MethodName) ({ cls := "Mergeparlour$Text", name := "knowsNote", desc := "(I)Z" } : Jvm.MethodName)) ∈ wsAll := wdA (List.mem_of_getElem? (i := 505) (by decide +kernel)) (by decide +kernel)
theorem wd_506 : (Jvm.Cond.code ({ cls := "Mergeparlour$Text", name := "knowsNote", desc := "(I)Z" } : Jvm.MethodName) prog_7_method_5_code (2 : Nat) (Option.some Jvm.ClassFile.FieldType.boolean)) ∈ wsAll := wdA (List.mem_of_getElem? (i := 506) (by decide +kernel)) (by decide +kernel)
theorem wd_507 : (Jvm.Cond.methodLink "Mergeparlour$Layout" (90 : Nat) ({ cls := "Mergeparlour$Text", name := "lineOfNote", desc := "(I)I" } : Jvm.MethodName)) ∈ wsAll := wdA (List.mem_of_getElem? (i := 507) (by decide +kernel)) (by decide +kernel)
theorem wd_508 : (Jvm.Cond.instanceMethod ({ cls := "Mergeparlour$Text", name := "lineOfNote", desc := "(I)I" } : Jvm.MethodName)) ∈ wsAll := wdA (List.mem_of_getElem? (i := 508) (by decide +kernel)) (by decide +kernel)
theorem wd_509 : (Jvm.Cond.selects "Mergeparlour$Text" ({ cls := "Mergeparlour$Text", name := "lineOfNote", desc := "(I)I" } : Jvm.MethodName) ({ cls := "Mergeparlour$Text", name := "lineOfNote", desc := "(I)I" } : Jvm.MethodName)) ∈ wsAll := wdA (List.mem_of_getElem? (i := 509) (by decide +kernel)) (by decide +kernel)
theorem wd_510 : (Jvm.Cond.code ({ cls := "Mergeparlour$Text", name := "lineOfNote", desc := "(I)I" } : Jvm.MethodName) prog_7_method_8_code (5 : Nat) (Option.some Jvm.ClassFile.FieldType.int)) ∈ wsAll := wdA (List.mem_of_getElem? (i := 510) (by decide +kernel)) (by decide +kernel)
theorem wd_511 : (Jvm.Cond.methodLink "Mergeparlour$Text" (75 : Nat) ({ cls := "Mergeparlour$Text", name := "hasThere", desc := "(I)Z" } : Jvm.MethodName)) ∈ wsAll := wdA (List.mem_of_getElem? (i := 511) (by decide +kernel)) (by decide +kernel)
theorem wd_512 : (Jvm.Cond.methodLink "Mergeparlour$Layout" (93 : Nat) ({ cls := "Mergeparlour$Ledger", name := "rowsOfNote", desc := "(I)I" } : Jvm.MethodName)) ∈ wsAll := wdA (List.mem_of_getElem? (i := 512) (by decide +kernel)) (by decide +kernel)
theorem wd_513 : (Jvm.Cond.instanceMethod ({ cls := "Mergeparlour$Ledger", name := "rowsOfNote", desc := "(I)I" } : Jvm.MethodName)) ∈ wsAll := wdA (List.mem_of_getElem? (i := 513) (by decide +kernel)) (by decide +kernel)
theorem wd_514 : (Jvm.Cond.selects "Mergeparlour$Ledger" ({ cls := "Mergeparlour$Ledger", name := "rowsOfNote", desc := "(I)I" } : Jvm.MethodName) ({ cls := "Mergeparlour$Ledger", name := "rowsOfNote", desc := "(I)I" } : Jvm.MethodName)) ∈ wsAll := wdA (List.mem_of_getElem? (i := 514) (by decide +kernel)) (by decide +kernel)
theorem wd_515 : (Jvm.Cond.code ({ cls := "Mergeparlour$Ledger", name := "rowsOfNote", desc := "(I)I" } : Jvm.MethodName) prog_3_method_16_code (2 : Nat) (Option.some Jvm.ClassFile.FieldType.int)) ∈ wsAll := wdA (List.mem_of_getElem? (i := 515) (by decide +kernel)) (by decide +kernel)
theorem wd_516 : (Jvm.Cond.methodLink "Mergeparlour$Layout" (96 : Nat) ({ cls := "java/lang/Math", name := "min", desc := "(II)I" } : Jvm.MethodName)) ∈ wsAll := wdA (List.mem_of_getElem? (i := 516) (by decide +kernel)) (by decide +kernel)
theorem wd_517 : (Jvm.Cond.methodLink "Mergeparlour$Layout" (43 : Nat) ({ cls := "Mergeparlour$Layout", name := "cutPages", desc := "()V" } : Jvm.MethodName)) ∈ wsAll := wdA (List.mem_of_getElem? (i := 517) (by decide +kernel)) (by decide +kernel)
theorem wd_519 : (Jvm.Cond.instanceMethod ({ cls := "Mergeparlour$Layout", name := "cutPages", desc := "()V" } : Jvm.MethodName)) ∈ wsAll := wdA (List.mem_of_getElem? (i := 519) (by decide +kernel)) (by decide +kernel)
theorem wd_520 : (Jvm.Cond.code ({ cls := "Mergeparlour$Layout", name := "cutPages", desc := "()V" } : Jvm.MethodName) prog_2_method_13_code (3 : Nat) (Option.none : Option Jvm.ClassFile.FieldType)) ∈ wsAll := wdA (List.mem_of_getElem? (i := 520) (by decide +kernel)) (by decide +kernel)
theorem wd_521 : (Jvm.Cond.methodLink "Mergeparlour$Layout" (102 : Nat) ({ cls := "Mergeparlour$Layout", name := "endOfPage", desc := "(I)I" } : Jvm.MethodName)) ∈ wsAll := wdA (List.mem_of_getElem? (i := 521) (by decide +kernel)) (by decide +kernel)
theorem wd_523 : (Jvm.Cond.instanceMethod ({ cls := "Mergeparlour$Layout", name := "endOfPage", desc := "(I)I" } : Jvm.MethodName)) ∈ wsAll := wdA (List.mem_of_getElem? (i := 523) (by decide +kernel)) (by decide +kernel)
theorem wd_524 : (Jvm.Cond.code ({ cls := "Mergeparlour$Layout", name := "endOfPage", desc := "(I)I" } : Jvm.MethodName) prog_2_method_14_code (5 : Nat) (Option.some Jvm.ClassFile.FieldType.int)) ∈ wsAll := wdA (List.mem_of_getElem? (i := 524) (by decide +kernel)) (by decide +kernel)
theorem wd_525 : (Jvm.Cond.methodLink "Mergeparlour$Layout" (105 : Nat) ({ cls := "Mergeparlour$Layout", name := "rows", desc := "(I)I" } : Jvm.MethodName)) ∈ wsAll := wdA (List.mem_of_getElem? (i := 525) (by decide +kernel)) (by decide +kernel)
theorem wd_526 : (Jvm.Cond.methodLink "Mergeparlour$Layout" (108 : Nat) ({ cls := "Mergeparlour$Layout", name := "isBadCut", desc := "(I)Z" } : Jvm.MethodName)) ∈ wsAll := wdA (List.mem_of_getElem? (i := 526) (by decide +kernel)) (by decide +kernel)
theorem wd_528 : (Jvm.Cond.instanceMethod ({ cls := "Mergeparlour$Layout", name := "isBadCut", desc := "(I)Z" } : Jvm.MethodName)) ∈ wsAll := wdA (List.mem_of_getElem? (i := 528) (by decide +kernel)) (by decide +kernel)
theorem wd_529 : (Jvm.Cond.code ({ cls := "Mergeparlour$Layout", name := "isBadCut", desc := "(I)Z" } : Jvm.MethodName) prog_2_method_17_code (4 : Nat) (Option.some Jvm.ClassFile.FieldType.boolean)) ∈ wsAll := wdA (List.mem_of_getElem? (i := 529) (by decide +kernel)) (by decide +kernel)
theorem wd_530 : (Jvm.Cond.methodLink "MergeparlourLaw" (78 : Nat) ({ cls := "MergeparlourLaw", name := "remove", desc := "(LMergeparlour;II[J)I" } : Jvm.MethodName)) ∈ wsAll := wdA (List.mem_of_getElem? (i := 530) (by decide +kernel)) (by decide +kernel)
theorem wd_531 : (Jvm.Cond.static ({ cls := "MergeparlourLaw", name := "remove", desc := "(LMergeparlour;II[J)I" } : Jvm.MethodName)) ∈ wsAll := wdA (List.mem_of_getElem? (i := 531) (by decide +kernel)) (by decide +kernel)
theorem wd_532 : (Jvm.Cond.codeWith ({ cls := "MergeparlourLaw", name := "remove", desc := "(LMergeparlour;II[J)I" } : Jvm.MethodName) method_4_code (5 : Nat) (Option.some Jvm.ClassFile.FieldType.int) [((0 : Nat), (10 : Nat), (13 : Nat), (13 : Nat)), ((0 : Nat), (10 : Nat), (17 : Nat), (23 : Nat)), ((0 : Nat), (10 : Nat), (21 : Nat), (17 : Nat))]) ∈ wsAll := wdA (List.mem_of_getElem? (i := 532) (by decide +kernel)) (by decide +kernel)
theorem wd_533 : (Jvm.Cond.classLink "MergeparlourLaw" (23 : Nat) "java/util/NoSuchElementException") ∈ wsAll := wdA (List.mem_of_getElem? (i := 533) (by decide +kernel)) (by decide +kernel)
theorem wd_534 : (Jvm.Cond.methodLink "MergeparlourLaw" (19 : Nat) ({ cls := "Mergeparlour", name := "remove", desc := "(II)I" } : Jvm.MethodName)) ∈ wsAll := wdA (List.mem_of_getElem? (i := 534) (by decide +kernel)) (by decide +kernel)
theorem wd_535 : (Jvm.Cond.instanceMethod ({ cls := "Mergeparlour", name := "remove", desc := "(II)I" } : Jvm.MethodName)) ∈ wsAll := wdA (List.mem_of_getElem? (i := 535) (by decide +kernel)) (by decide +kernel)
theorem wd_536 : (Jvm.Cond.selects "Mergeparlour" ({ cls := "Mergeparlour", name := "remove", desc := "(II)I" } : Jvm.MethodName) ({ cls := "Mergeparlour", name := "remove", desc := "(II)I" } : Jvm.MethodName)) ∈ wsAll := wdA (List.mem_of_getElem? (i := 536) (by decide +kernel)) (by decide +kernel)
theorem wd_537 : (Jvm.Cond.code ({ cls := "Mergeparlour", name := "remove", desc := "(II)I" } : Jvm.MethodName) prog_1_method_3_code (4 : Nat) (Option.some Jvm.ClassFile.FieldType.int)) ∈ wsAll := wdA (List.mem_of_getElem? (i := 537) (by decide +kernel)) (by decide +kernel)
theorem wd_538 : (Jvm.Cond.methodLink "Mergeparlour" (72 : Nat) ({ cls := "Mergeparlour", name := "checkLineIsThere", desc := "(LMergeparlour$Site;I)V" } : Jvm.MethodName)) ∈ wsAll := wdA (List.mem_of_getElem? (i := 538) (by decide +kernel)) (by decide +kernel)
theorem wd_540 : (Jvm.Cond.instanceMethod ({ cls := "Mergeparlour", name := "checkLineIsThere", desc := "(LMergeparlour$Site;I)V" } : Jvm.MethodName)) ∈ wsAll := wdA (List.mem_of_getElem? (i := 540) (by decide +kernel)) (by decide +kernel)
theorem wd_541 : (Jvm.Cond.code ({ cls := "Mergeparlour", name := "checkLineIsThere", desc := "(LMergeparlour$Site;I)V" } : Jvm.MethodName) prog_1_method_20_code (3 : Nat) (Option.none : Option Jvm.ClassFile.FieldType)) ∈ wsAll := wdA (List.mem_of_getElem? (i := 541) (by decide +kernel)) (by decide +kernel)
theorem wd_542 : (Jvm.Cond.methodLink "Mergeparlour" (169 : Nat) ({ cls := "Mergeparlour$Text", name := "hasThere", desc := "(I)Z" } : Jvm.MethodName)) ∈ wsAll := wdA (List.mem_of_getElem? (i := 542) (by decide +kernel)) (by decide +kernel)
theorem wd_543 : (Jvm.Cond.classLink "Mergeparlour" (172 : Nat) "java/util/NoSuchElementException") ∈ wsAll := wdA (List.mem_of_getElem? (i := 543) (by decide +kernel)) (by decide +kernel)
theorem wd_544 : (Jvm.Cond.instantiable "java/util/NoSuchElementException" (6 : Nat)) ∈ wsAll := wdA (List.mem_of_getElem? (i := 544) (by decide +kernel)) (by decide +kernel)
theorem wd_546 : (Jvm.Cond.selects "java/util/NoSuchElementException" ({ cls := "java/lang/Throwable", name := "fillInStackTrace", desc := "(I)Ljava/lang/Throwable;" } : Jvm.MethodName) ({ cls := "java/lang/Throwable", name := "fillInStackTrace", desc := "(I)Ljava/lang/Throwable;" } : Jvm.MethodName)) ∈ wsAll := wdA (List.mem_of_getElem? (i := 546) (by decide +kernel)) (by decide +kernel)
theorem wd_547 : (Jvm.Cond.lays "java/util/NoSuchElementException" "java/lang/Throwable" "cause" "Ljava/lang/Throwable;") ∈ wsAll := wdA (List.mem_of_getElem? (i := 547) (by decide +kernel)) (by decide +kernel)
theorem wd_548 : (Jvm.Cond.lays "java/util/NoSuchElementException" "java/lang/Throwable" "stackTrace" "[Ljava/lang/StackTraceElement;") ∈ wsAll := wdA (List.mem_of_getElem? (i := 548) (by decide +kernel)) (by decide +kernel)
theorem wd_549 : (Jvm.Cond.lays "java/util/NoSuchElementException" "java/lang/Throwable" "suppressedExceptions" "Ljava/util/List;") ∈ wsAll := wdA (List.mem_of_getElem? (i := 549) (by decide +kernel)) (by decide +kernel)
theorem wd_550 : (Jvm.Cond.lays "java/util/NoSuchElementException" "java/lang/Throwable" "detailMessage" "Ljava/lang/String;") ∈ wsAll := wdA (List.mem_of_getElem? (i := 550) (by decide +kernel)) (by decide +kernel)
theorem wd_551 : (Jvm.Cond.lays "java/util/NoSuchElementException" "java/lang/Throwable" "backtrace" "Ljava/lang/Object;") ∈ wsAll := wdA (List.mem_of_getElem? (i := 551) (by decide +kernel)) (by decide +kernel)
theorem wd_553 : (Jvm.Cond.methodLink "Mergeparlour" (176 : Nat) ({ cls := "java/util/NoSuchElementException", name := "<init>", desc := "(Ljava/lang/String;)V" } : Jvm.MethodName)) ∈ wsAll := wdA (List.mem_of_getElem? (i := 553) (by decide +kernel)) (by decide +kernel)
theorem wd_554 : (Jvm.Cond.instanceMethod ({ cls := "java/util/NoSuchElementException", name := "<init>", desc := "(Ljava/lang/String;)V" } : Jvm.MethodName)) ∈ wsAll := wdA (List.mem_of_getElem? (i := 554) (by decide +kernel)) (by decide +kernel)
theorem wd_555 : (Jvm.Cond.code ({ cls := "java/util/NoSuchElementException", name := "<init>", desc := "(Ljava/lang/String;)V" } : Jvm.MethodName) prog_19_method_4_code (2 : Nat) (Option.none : Option Jvm.ClassFile.FieldType)) ∈ wsAll := wdA (List.mem_of_getElem? (i := 555) (by decide +kernel)) (by decide +kernel)
theorem wd_556 : (Jvm.Cond.methodLink "java/util/NoSuchElementException" (13 : Nat) ({ cls := "java/lang/RuntimeException", name := "<init>", desc := "(Ljava/lang/String;)V" } : Jvm.MethodName)) ∈ wsAll := wdA (List.mem_of_getElem? (i := 556) (by decide +kernel)) (by decide +kernel)
theorem wd_557 : (Jvm.Cond.lays "java/util/NoSuchElementException" "java/lang/Throwable" "depth" "I") ∈ wsAll := wdA (List.mem_of_getElem? (i := 557) (by decide +kernel)) (by decide +kernel)
theorem wd_558 : (Jvm.Cond.superclass "java/util/NoSuchElementException" "java/lang/RuntimeException") ∈ wsAll := wdA (List.mem_of_getElem? (i := 558) (by decide +kernel)) (by decide +kernel)
theorem wd_559 : (Jvm.Cond.methodLink "Mergeparlour" (75 : Nat) ({ cls := "Mergeparlour$Layout", name := "lineCount", desc := "()I" } : Jvm.MethodName)) ∈ wsAll := wdA (List.mem_of_getElem? (i := 559) (by decide +kernel)) (by decide +kernel)
theorem wd_560 : (Jvm.Cond.instanceMethod ({ cls := "Mergeparlour$Layout", name := "lineCount", desc := "()I" } : Jvm.MethodName)) ∈ wsAll := wdA (List.mem_of_getElem? (i := 560) (by decide +kernel)) (by decide +kernel)
theorem wd_561 : (Jvm.Cond.selects "Mergeparlour$Layout" ({ cls := "Mergeparlour$Layout", name := "lineCount", desc := "()I" } : Jvm.MethodName) ({ cls := "Mergeparlour$Layout", name := "lineCount", desc := "()I" } : Jvm.MethodName)) ∈ wsAll := wdA (List.mem_of_getElem? (i := 561) (by decide +kernel)) (by decide +kernel)
theorem wd_562 : (Jvm.Cond.code ({ cls := "Mergeparlour$Layout", name := "lineCount", desc := "()I" } : Jvm.MethodName) prog_2_method_3_code (1 : Nat) (Option.some Jvm.ClassFile.FieldType.int)) ∈ wsAll := wdA (List.mem_of_getElem? (i := 562) (by decide +kernel)) (by decide +kernel)
theorem wd_563 : (Jvm.Cond.methodLink "MergeparlourLaw" (82 : Nat) ({ cls := "MergeparlourLaw", name := "note", desc := "(LMergeparlour;III[J)I" } : Jvm.MethodName)) ∈ wsAll := wdA (List.mem_of_getElem? (i := 563) (by decide +kernel)) (by decide +kernel)
theorem wd_564 : (Jvm.Cond.static ({ cls := "MergeparlourLaw", name := "note", desc := "(LMergeparlour;III[J)I" } : Jvm.MethodName)) ∈ wsAll := wdA (List.mem_of_getElem? (i := 564) (by decide +kernel)) (by decide +kernel)
theorem wd_565 : (Jvm.Cond.codeWith ({ cls := "MergeparlourLaw", name := "note", desc := "(LMergeparlour;III[J)I" } : Jvm.MethodName) method_5_code (6 : Nat) (Option.some Jvm.ClassFile.FieldType.int) [((0 : Nat), (12 : Nat), (15 : Nat), (13 : Nat)), ((0 : Nat), (12 : Nat), (19 : Nat), (15 : Nat)), ((0 : Nat), (12 : Nat), (23 : Nat), (23 : Nat)), ((0 : Nat), (12 : Nat), (27 : Nat), (17 : Nat))]) ∈ wsAll := wdA (List.mem_of_getElem? (i := 565) (by decide +kernel)) (by decide +kernel)
theorem wd_566 : (Jvm.Cond.methodLink "MergeparlourLaw" (25 : Nat) ({ cls := "Mergeparlour", name := "note", desc := "(III)I" } : Jvm.MethodName)) ∈ wsAll := wdA (List.mem_of_getElem? (i := 566) (by decide +kernel)) (by decide +kernel)
theorem wd_567 : (Jvm.Cond.instanceMethod ({ cls := "Mergeparlour", name := "note", desc := "(III)I" } : Jvm.MethodName)) ∈ wsAll := wdA (List.mem_of_getElem? (i := 567) (by decide +kernel)) (by decide +kernel)
theorem wd_568 : (Jvm.Cond.selects "Mergeparlour" ({ cls := "Mergeparlour", name := "note", desc := "(III)I" } : Jvm.MethodName) ({ cls := "Mergeparlour", name := "note", desc := "(III)I" } : Jvm.MethodName)) ∈ wsAll := wdA (List.mem_of_getElem? (i := 568) (by decide +kernel)) (by decide +kernel)
theorem wd_569 : (Jvm.Cond.code ({ cls := "Mergeparlour", name := "note", desc := "(III)I" } : Jvm.MethodName) prog_1_method_4_code (6 : Nat) (Option.some Jvm.ClassFile.FieldType.int)) ∈ wsAll := wdA (List.mem_of_getElem? (i := 569) (by decide +kernel)) (by decide +kernel)
theorem wd_571 : (Jvm.Cond.methodLink "Mergeparlour" (82 : Nat) ({ cls := "Mergeparlour$Ledger", name := "addNote", desc := "(I)I" } : Jvm.MethodName)) ∈ wsAll := wdA (List.mem_of_getElem? (i := 571) (by decide +kernel)) (by decide +kernel)
theorem wd_572 : (Jvm.Cond.instanceMethod ({ cls := "Mergeparlour$Ledger", name := "addNote", desc := "(I)I" } : Jvm.MethodName)) ∈ wsAll := wdA (List.mem_of_getElem? (i := 572) (by decide +kernel)) (by decide +kernel)
theorem wd_573 : (Jvm.Cond.selects "Mergeparlour$Ledger" ({ cls := "Mergeparlour$Ledger", name := "addNote", desc := "(I)I" } : Jvm.MethodName) ({ cls := "Mergeparlour$Ledger", name := "addNote", desc := "(I)I" } : Jvm.MethodName)) ∈ wsAll := wdA (List.mem_of_getElem? (i := 573) (by decide +kernel)) (by decide +kernel)
theorem wd_574 : (Jvm.Cond.code ({ cls := "Mergeparlour$Ledger", name := "addNote", desc := "(I)I" } : Jvm.MethodName) prog_3_method_4_code (2 : Nat) (Option.some Jvm.ClassFile.FieldType.int)) ∈ wsAll := wdA (List.mem_of_getElem? (i := 574) (by decide +kernel)) (by decide +kernel)
theorem wd_575 : (Jvm.Cond.methodLink "MergeparlourLaw" (86 : Nat) ({ cls := "MergeparlourLaw", name := "move", desc := "(LMergeparlour;III)I" } : Jvm.MethodName)) ∈ wsAll := wdA (List.mem_of_getElem? (i := 575) (by decide +kernel)) (by decide +kernel)
theorem wd_576 : (Jvm.Cond.static ({ cls := "MergeparlourLaw", name := "move", desc := "(LMergeparlour;III)I" } : Jvm.MethodName)) ∈ wsAll := wdA (List.mem_of_getElem? (i := 576) (by decide +kernel)) (by decide +kernel)
theorem wd_577 : (Jvm.Cond.codeWith ({ cls := "MergeparlourLaw", name := "move", desc := "(LMergeparlour;III)I" } : Jvm.MethodName) method_6_code (5 : Nat) (Option.some Jvm.ClassFile.FieldType.int) [((0 : Nat), (7 : Nat), (10 : Nat), (13 : Nat)), ((0 : Nat), (7 : Nat), (14 : Nat), (23 : Nat)), ((0 : Nat), (7 : Nat), (18 : Nat), (17 : Nat))]) ∈ wsAll := wdA (List.mem_of_getElem? (i := 577) (by decide +kernel)) (by decide +kernel)
theorem wd_578 : (Jvm.Cond.methodLink "MergeparlourLaw" (29 : Nat) ({ cls := "Mergeparlour", name := "move", desc := "(III)V" } : Jvm.MethodName)) ∈ wsAll := wdA (List.mem_of_getElem? (i := 578) (by decide +kernel)) (by decide +kernel)
theorem wd_579 : (Jvm.Cond.instanceMethod ({ cls := "Mergeparlour", name := "move", desc := "(III)V" } : Jvm.MethodName)) ∈ wsAll := wdA (List.mem_of_getElem? (i := 579) (by decide +kernel)) (by decide +kernel)
theorem wd_580 : (Jvm.Cond.selects "Mergeparlour" ({ cls := "Mergeparlour", name := "move", desc := "(III)V" } : Jvm.MethodName) ({ cls := "Mergeparlour", name := "move", desc := "(III)V" } : Jvm.MethodName)) ∈ wsAll := wdA (List.mem_of_getElem? (i := 580) (by decide +kernel)) (by decide +kernel)
theorem wd_581 : (Jvm.Cond.code ({ cls := "Mergeparlour", name := "move", desc := "(III)V" } : Jvm.MethodName) prog_1_method_5_code (5 : Nat) (Option.none : Option Jvm.ClassFile.FieldType)) ∈ wsAll := wdA (List.mem_of_getElem? (i := 581) (by decide +kernel)) (by decide +kernel)
theorem wd_582 : (Jvm.Cond.methodLink "Mergeparlour" (86 : Nat) ({ cls := "Mergeparlour", name := "checkNoteIsKnown", desc := "(LMergeparlour$Site;I)V" } : Jvm.MethodName)) ∈ wsAll := wdA (List.mem_of_getElem? (i := 582) (by decide +kernel)) (by decide +kernel)
theorem wd_584 : (Jvm.Cond.instanceMethod ({ cls := "Mergeparlour", name := "checkNoteIsKnown", desc := "(LMergeparlour$Site;I)V" } : Jvm.MethodName)) ∈ wsAll := wdA (List.mem_of_getElem? (i := 584) (by decide +kernel)) (by decide +kernel)
theorem wd_585 : (Jvm.Cond.code ({ cls := "Mergeparlour", name := "checkNoteIsKnown", desc := "(LMergeparlour$Site;I)V" } : Jvm.MethodName) prog_1_method_21_code (3 : Nat) (Option.none : Option Jvm.ClassFile.FieldType)) ∈ wsAll := wdA (List.mem_of_getElem? (i := 585) (by decide +kernel)) (by decide +kernel)
theorem wd_586 : (Jvm.Cond.methodLink "Mergeparlour" (177 : Nat) ({ cls := "Mergeparlour$Text", name := "knowsNote", desc := "(I)Z" } : Jvm.MethodName)) ∈ wsAll := wdA (List.mem_of_getElem? (i := 586) (by decide +kernel)) (by decide +kernel)
theorem wd_588 : (Jvm.Cond.methodLink "MergeparlourLaw" (90 : Nat) ({ cls := "MergeparlourLaw", name := "sync", desc := "(LMergeparlour;II[J)I" } : Jvm.MethodName)) ∈ wsAll := wdA (List.mem_of_getElem? (i := 588) (by decide +kernel)) (by decide +kernel)
theorem wd_589 : (Jvm.Cond.static ({ cls := "MergeparlourLaw", name := "sync", desc := "(LMergeparlour;II[J)I" } : Jvm.MethodName)) ∈ wsAll := wdA (List.mem_of_getElem? (i := 589) (by decide +kernel)) (by decide +kernel)
theorem wd_590 : (Jvm.Cond.codeWith ({ cls := "MergeparlourLaw", name := "sync", desc := "(LMergeparlour;II[J)I" } : Jvm.MethodName) method_7_code (5 : Nat) (Option.some Jvm.ClassFile.FieldType.int) [((0 : Nat), (10 : Nat), (13 : Nat), (13 : Nat))]) ∈ wsAll := wdA (List.mem_of_getElem? (i := 590) (by decide +kernel)) (by decide +kernel)
theorem wd_591 : (Jvm.Cond.methodLink "MergeparlourLaw" (33 : Nat) ({ cls := "Mergeparlour", name := "sync", desc := "(II)I" } : Jvm.MethodName)) ∈ wsAll := wdA (List.mem_of_getElem? (i := 591) (by decide +kernel)) (by decide +kernel)
theorem wd_592 : (Jvm.Cond.instanceMethod ({ cls := "Mergeparlour", name := "sync", desc := "(II)I" } : Jvm.MethodName)) ∈ wsAll := wdA (List.mem_of_getElem? (i := 592) (by decide +kernel)) (by decide +kernel)
theorem wd_593 : (Jvm.Cond.selects "Mergeparlour" ({ cls := "Mergeparlour", name := "sync", desc := "(II)I" } : Jvm.MethodName) ({ cls := "Mergeparlour", name := "sync", desc := "(II)I" } : Jvm.MethodName)) ∈ wsAll := wdA (List.mem_of_getElem? (i := 593) (by decide +kernel)) (by decide +kernel)
theorem wd_594 : (Jvm.Cond.code ({ cls := "Mergeparlour", name := "sync", desc := "(II)I" } : Jvm.MethodName) prog_1_method_6_code (5 : Nat) (Option.some Jvm.ClassFile.FieldType.int)) ∈ wsAll := wdA (List.mem_of_getElem? (i := 594) (by decide +kernel)) (by decide +kernel)
theorem wd_595 : (Jvm.Cond.methodLink "Mergeparlour" (89 : Nat) ({ cls := "Mergeparlour$Site", name := "takeAllOf", desc := "(LMergeparlour$Site;)I" } : Jvm.MethodName)) ∈ wsAll := wdA (List.mem_of_getElem? (i := 595) (by decide +kernel)) (by decide +kernel)
theorem wd_596 : (Jvm.Cond.instanceMethod ({ cls := "Mergeparlour$Site", name := "takeAllOf", desc := "(LMergeparlour$Site;)I" } : Jvm.MethodName)) ∈ wsAll := wdA (List.mem_of_getElem? (i := 596) (by decide +kernel)) (by decide +kernel)
theorem wd_597 : (Jvm.Cond.selects "Mergeparlour$Site" ({ cls := "Mergeparlour$Site", name := "takeAllOf", desc := "(LMergeparlour$Site;)I" } : Jvm.MethodName) ({ cls := "Mergeparlour$Site", name := "takeAllOf", desc := "(LMergeparlour$Site;)I" } : Jvm.MethodName)) ∈ wsAll := wdA (List.mem_of_getElem? (i := 597) (by decide +kernel)) (by decide +kernel)
theorem wd_598 : (Jvm.Cond.code ({ cls := "Mergeparlour$Site", name := "takeAllOf", desc := "(LMergeparlour$Site;)I" } : Jvm.MethodName) prog_6_method_4_code (5 : Nat) (Option.some Jvm.ClassFile.FieldType.int)) ∈ wsAll := wdA (List.mem_of_getElem? (i := 598) (by decide +kernel)) (by decide +kernel)
theorem wd_599 : (Jvm.Cond.methodLink "Mergeparlour$Site" (58 : Nat) ({ cls := "Mergeparlour$Numbers", name := "at", desc := "(I)I" } : Jvm.MethodName)) ∈ wsAll := wdA (List.mem_of_getElem? (i := 599) (by decide +kernel)) (by decide +kernel)
theorem wd_600 : (Jvm.Cond.methodLink "Mergeparlour$Site" (62 : Nat) ({ cls := "java/lang/Math", name := "max", desc := "(II)I" } : Jvm.MethodName)) ∈ wsAll := wdA (List.mem_of_getElem? (i := 600) (by decide +kernel)) (by decide +kernel)
theorem wd_601 : (Jvm.Cond.methodLink "MergeparlourLaw" (93 : Nat) ({ cls := "MergeparlourLaw", name := "print", desc := "(LMergeparlour;[J)I" } : Jvm.MethodName)) ∈ wsAll := wdA (List.mem_of_getElem? (i := 601) (by decide +kernel)) (by decide +kernel)
theorem wd_602 : (Jvm.Cond.static ({ cls := "MergeparlourLaw", name := "print", desc := "(LMergeparlour;[J)I" } : Jvm.MethodName)) ∈ wsAll := wdA (List.mem_of_getElem? (i := 602) (by decide +kernel)) (by decide +kernel)
theorem wd_603 : (Jvm.Cond.codeWith ({ cls := "MergeparlourLaw", name := "print", desc := "(LMergeparlour;[J)I" } : Jvm.MethodName) method_8_code (3 : Nat) (Option.some Jvm.ClassFile.FieldType.int) [((0 : Nat), (8 : Nat), (11 : Nat), (17 : Nat))]) ∈ wsAll := wdA (List.mem_of_getElem? (i := 603) (by decide +kernel)) (by decide +kernel)
theorem wd_604 : (Jvm.Cond.methodLink "MergeparlourLaw" (36 : Nat) ({ cls := "Mergeparlour", name := "print", desc := "()I" } : Jvm.MethodName)) ∈ wsAll := wdA (List.mem_of_getElem? (i := 604) (by decide +kernel)) (by decide +kernel)
theorem wd_605 : (Jvm.Cond.instanceMethod ({ cls := "Mergeparlour", name := "print", desc := "()I" } : Jvm.MethodName)) ∈ wsAll := wdA (List.mem_of_getElem? (i := 605) (by decide +kernel)) (by decide +kernel)
theorem wd_606 : (Jvm.Cond.selects "Mergeparlour" ({ cls := "Mergeparlour", name := "print", desc := "()I" } : Jvm.MethodName) ({ cls := "Mergeparlour", name := "print", desc := "()I" } : Jvm.MethodName)) ∈ wsAll := wdA (List.mem_of_getElem? (i := 606) (by decide +kernel)) (by decide +kernel)
theorem wd_607 : (Jvm.Cond.code ({ cls := "Mergeparlour", name := "print", desc := "()I" } : Jvm.MethodName) prog_1_method_7_code (1 : Nat) (Option.some Jvm.ClassFile.FieldType.int)) ∈ wsAll := wdA (List.mem_of_getElem? (i := 607) (by decide +kernel)) (by decide +kernel)
theorem wd_608 : (Jvm.Cond.methodLink "Mergeparlour" (93 : Nat) ({ cls := "Mergeparlour$Press", name := "hasPageToPrint", desc := "()Z" } : Jvm.MethodName)) ∈ wsAll := wdA (List.mem_of_getElem? (i := 608) (by decide +kernel)) (by decide +kernel)
theorem wd_609 : (Jvm.Cond.instanceMethod ({ cls := "Mergeparlour$Press", name := "hasPageToPrint", desc := "()Z" } : Jvm.MethodName)) ∈ wsAll := wdA (List.mem_of_getElem? (i := 609) (by decide +kernel)) (by decide +kernel)
theorem wd_610 : (Jvm.Cond.selects "Mergeparlour$Press" ({ cls := "Mergeparlour$Press", name := "hasPageToPrint", desc := "()Z" } : Jvm.MethodName) ({ cls := "Mergeparlour$Press", name := "hasPageToPrint", desc := "()Z" } : Jvm.MethodName)) ∈ wsAll := wdA (List.mem_of_getElem? (i := 610) (by decide +kernel)) (by decide +kernel)
theorem wd_611 : (Jvm.Cond.code ({ cls := "Mergeparlour$Press", name := "hasPageToPrint", desc := "()Z" } : Jvm.MethodName) prog_5_method_2_code (1 : Nat) (Option.some Jvm.ClassFile.FieldType.boolean)) ∈ wsAll := wdA (List.mem_of_getElem? (i := 611) (by decide +kernel)) (by decide +kernel)
theorem wd_612 : (Jvm.Cond.methodLink "Mergeparlour$Press" (34 : Nat) ({ cls := "Mergeparlour$Layout", name := "pageCount", desc := "()I" } : Jvm.MethodName)) ∈ wsAll := wdA (List.mem_of_getElem? (i := 612) (by decide +kernel)) (by decide +kernel)
theorem wd_613 : (Jvm.Cond.instanceMethod ({ cls := "Mergeparlour$Layout", name := "pageCount", desc := "()I" } : Jvm.MethodName)) ∈ wsAll := wdA (List.mem_of_getElem? (i := 613) (by decide +kernel)) (by decide +kernel)
theorem wd_614 : (Jvm.Cond.selects "Mergeparlour$Layout" ({ cls := "Mergeparlour$Layout", name := "pageCount", desc := "()I" } : Jvm.MethodName) ({ cls := "Mergeparlour$Layout", name := "pageCount", desc := "()I" } : Jvm.MethodName)) ∈ wsAll := wdA (List.mem_of_getElem? (i := 614) (by decide +kernel)) (by decide +kernel)
theorem wd_615 : (Jvm.Cond.code ({ cls := "Mergeparlour$Layout", name := "pageCount", desc := "()I" } : Jvm.MethodName) prog_2_method_7_code (1 : Nat) (Option.some Jvm.ClassFile.FieldType.int)) ∈ wsAll := wdA (List.mem_of_getElem? (i := 615) (by decide +kernel)) (by decide +kernel)
theorem wd_617 : (Jvm.Cond.methodLink "Mergeparlour" (102 : Nat) ({ cls := "Mergeparlour$Press", name := "printSheet", desc := "()I" } : Jvm.MethodName)) ∈ wsAll := wdA (List.mem_of_getElem? (i := 617) (by decide +kernel)) (by decide +kernel)
theorem wd_618 : (Jvm.Cond.instanceMethod ({ cls := "Mergeparlour$Press", name := "printSheet", desc := "()I" } : Jvm.MethodName)) ∈ wsAll := wdA (List.mem_of_getElem? (i := 618) (by decide +kernel)) (by decide +kernel)
theorem wd_619 : (Jvm.Cond.selects "Mergeparlour$Press" ({ cls := "Mergeparlour$Press", name := "printSheet", desc := "()I" } : Jvm.MethodName) ({ cls := "Mergeparlour$Press", name := "printSheet", desc := "()I" } : Jvm.MethodName)) ∈ wsAll := wdA (List.mem_of_getElem? (i := 619) (by decide +kernel)) (by decide +kernel)
theorem wd_620 : (Jvm.Cond.code ({ cls := "Mergeparlour$Press", name := "printSheet", desc := "()I" } : Jvm.MethodName) prog_5_method_5_code (3 : Nat) (Option.some Jvm.ClassFile.FieldType.int)) ∈ wsAll := wdA (List.mem_of_getElem? (i := 620) (by decide +kernel)) (by decide +kernel)
theorem wd_621 : (Jvm.Cond.methodLink "Mergeparlour$Press" (39 : Nat) ({ cls := "Mergeparlour$Press", name := "printPage", desc := "()I" } : Jvm.MethodName)) ∈ wsAll := wdA (List.mem_of_getElem? (i := 621) (by decide +kernel)) (by decide +kernel)
theorem wd_623 : (Jvm.Cond.instanceMethod ({ cls := "Mergeparlour$Press", name := "printPage", desc := "()I" } : Jvm.MethodName)) ∈ wsAll := wdA (List.mem_of_getElem? (i := 623) (by decide +kernel)) (by decide +kernel)
theorem wd_624 : (Jvm.Cond.code ({ cls := "Mergeparlour$Press", name := "printPage", desc := "()I" } : Jvm.MethodName) prog_5_method_8_code (5 : Nat) (Option.some Jvm.ClassFile.FieldType.int)) ∈ wsAll := wdA (List.mem_of_getElem? (i := 624) (by decide +kernel)) (by decide +kernel)
theorem wd_625 : (Jvm.Cond.methodLink "Mergeparlour$Press" (69 : Nat) ({ cls := "Mergeparlour$Numbers", name := "put", desc := "(II)V" } : Jvm.MethodName)) ∈ wsAll := wdA (List.mem_of_getElem? (i := 625) (by decide +kernel)) (by decide +kernel)
theorem wd_626 : (Jvm.Cond.methodLink "Mergeparlour$Press" (73 : Nat) ({ cls := "Mergeparlour$Numbers", name := "add", desc := "(I)V" } : Jvm.MethodName)) ∈ wsAll := wdA (List.mem_of_getElem? (i := 626) (by decide +kernel)) (by decide +kernel)
theorem wd_627 : (Jvm.Cond.methodLink "MergeparlourLaw" (101 : Nat) ({ cls := "MergeparlourLaw", name := "differs", desc := "(LMergeparlour;I[J)I" } : Jvm.MethodName)) ∈ wsAll := wdA (List.mem_of_getElem? (i := 627) (by decide +kernel)) (by decide +kernel)
theorem wd_628 : (Jvm.Cond.static ({ cls := "MergeparlourLaw", name := "differs", desc := "(LMergeparlour;I[J)I" } : Jvm.MethodName)) ∈ wsAll := wdA (List.mem_of_getElem? (i := 628) (by decide +kernel)) (by decide +kernel)
theorem wd_629 : (Jvm.Cond.codeWith ({ cls := "MergeparlourLaw", name := "differs", desc := "(LMergeparlour;I[J)I" } : Jvm.MethodName) method_9_code (4 : Nat) (Option.some Jvm.ClassFile.FieldType.int) [((0 : Nat), (9 : Nat), (12 : Nat), (13 : Nat))]) ∈ wsAll := wdA (List.mem_of_getElem? (i := 629) (by decide +kernel)) (by decide +kernel)
theorem wd_630 : (Jvm.Cond.methodLink "MergeparlourLaw" (40 : Nat) ({ cls := "Mergeparlour", name := "differs", desc := "(I)I" } : Jvm.MethodName)) ∈ wsAll := wdA (List.mem_of_getElem? (i := 630) (by decide +kernel)) (by decide +kernel)
theorem wd_631 : (Jvm.Cond.instanceMethod ({ cls := "Mergeparlour", name := "differs", desc := "(I)I" } : Jvm.MethodName)) ∈ wsAll := wdA (List.mem_of_getElem? (i := 631) (by decide +kernel)) (by decide +kernel)
theorem wd_632 : (Jvm.Cond.selects "Mergeparlour" ({ cls := "Mergeparlour", name := "differs", desc := "(I)I" } : Jvm.MethodName) ({ cls := "Mergeparlour", name := "differs", desc := "(I)I" } : Jvm.MethodName)) ∈ wsAll := wdA (List.mem_of_getElem? (i := 632) (by decide +kernel)) (by decide +kernel)
theorem wd_633 : (Jvm.Cond.code ({ cls := "Mergeparlour", name := "differs", desc := "(I)I" } : Jvm.MethodName) prog_1_method_9_code (2 : Nat) (Option.some Jvm.ClassFile.FieldType.int)) ∈ wsAll := wdA (List.mem_of_getElem? (i := 633) (by decide +kernel)) (by decide +kernel)
theorem wd_634 : (Jvm.Cond.methodLink "Mergeparlour" (108 : Nat) ({ cls := "Mergeparlour$Press", name := "pageCount", desc := "()I" } : Jvm.MethodName)) ∈ wsAll := wdA (List.mem_of_getElem? (i := 634) (by decide +kernel)) (by decide +kernel)
theorem wd_636 : (Jvm.Cond.methodLink "Mergeparlour" (116 : Nat) ({ cls := "Mergeparlour$Press", name := "difference", desc := "(I)I" } : Jvm.MethodName)) ∈ wsAll := wdA (List.mem_of_getElem? (i := 636) (by decide +kernel)) (by decide +kernel)
theorem wd_637 : (Jvm.Cond.methodLink "MergeparlourLaw" (109 : Nat) ({ cls := "MergeparlourLaw", name := "lines", desc := "(LMergeparlour;I[J)I" } : Jvm.MethodName)) ∈ wsAll := wdA (List.mem_of_getElem? (i := 637) (by decide +kernel)) (by decide +kernel)
theorem wd_638 : (Jvm.Cond.static ({ cls := "MergeparlourLaw", name := "lines", desc := "(LMergeparlour;I[J)I" } : Jvm.MethodName)) ∈ wsAll := wdA (List.mem_of_getElem? (i := 638) (by decide +kernel)) (by decide +kernel)
theorem wd_639 : (Jvm.Cond.codeWith ({ cls := "MergeparlourLaw", name := "lines", desc := "(LMergeparlour;I[J)I" } : Jvm.MethodName) method_10_code (4 : Nat) (Option.some Jvm.ClassFile.FieldType.int) [((0 : Nat), (9 : Nat), (12 : Nat), (13 : Nat))]) ∈ wsAll := wdA (List.mem_of_getElem? (i := 639) (by decide +kernel)) (by decide +kernel)
theorem wd_640 : (Jvm.Cond.methodLink "MergeparlourLaw" (44 : Nat) ({ cls := "Mergeparlour", name := "lines", desc := "(I)I" } : Jvm.MethodName)) ∈ wsAll := wdA (List.mem_of_getElem? (i := 640) (by decide +kernel)) (by decide +kernel)
theorem wd_641 : (Jvm.Cond.instanceMethod ({ cls := "Mergeparlour", name := "lines", desc := "(I)I" } : Jvm.MethodName)) ∈ wsAll := wdA (List.mem_of_getElem? (i := 641) (by decide +kernel)) (by decide +kernel)
theorem wd_642 : (Jvm.Cond.selects "Mergeparlour" ({ cls := "Mergeparlour", name := "lines", desc := "(I)I" } : Jvm.MethodName) ({ cls := "Mergeparlour", name := "lines", desc := "(I)I" } : Jvm.MethodName)) ∈ wsAll := wdA (List.mem_of_getElem? (i := 642) (by decide +kernel)) (by decide +kernel)
theorem wd_643 : (Jvm.Cond.code ({ cls := "Mergeparlour", name := "lines", desc := "(I)I" } : Jvm.MethodName) prog_1_method_11_code (2 : Nat) (Option.some Jvm.ClassFile.FieldType.int)) ∈ wsAll := wdA (List.mem_of_getElem? (i := 643) (by decide +kernel)) (by decide +kernel)
theorem wd_644 : (Jvm.Cond.methodLink "MergeparlourLaw" (112 : Nat) ({ cls := "MergeparlourLaw", name := "lineAt", desc := "(LMergeparlour;III[J)I" } : Jvm.MethodName)) ∈ wsAll := wdA (List.mem_of_getElem? (i := 644) (by decide +kernel)) (by decide +kernel)
theorem wd_645 : (Jvm.Cond.static ({ cls := "MergeparlourLaw", name := "lineAt", desc := "(LMergeparlour;III[J)I" } : Jvm.MethodName)) ∈ wsAll := wdA (List.mem_of_getElem? (i := 645) (by decide +kernel)) (by decide +kernel)
theorem wd_646 : (Jvm.Cond.codeWith ({ cls := "MergeparlourLaw", name := "lineAt", desc := "(LMergeparlour;III[J)I" } : Jvm.MethodName) method_11_code (6 : Nat) (Option.some Jvm.ClassFile.FieldType.int) [((0 : Nat), (12 : Nat), (15 : Nat), (13 : Nat)), ((0 : Nat), (12 : Nat), (19 : Nat), (15 : Nat))]) ∈ wsAll := wdA (List.mem_of_getElem? (i := 646) (by decide +kernel)) (by decide +kernel)
theorem wd_647 : (Jvm.Cond.methodLink "MergeparlourLaw" (47 : Nat) ({ cls := "Mergeparlour", name := "lineAt", desc := "(III)I" } : Jvm.MethodName)) ∈ wsAll := wdA (List.mem_of_getElem? (i := 647) (by decide +kernel)) (by decide +kernel)
theorem wd_648 : (Jvm.Cond.instanceMethod ({ cls := "Mergeparlour", name := "lineAt", desc := "(III)I" } : Jvm.MethodName)) ∈ wsAll := wdA (List.mem_of_getElem? (i := 648) (by decide +kernel)) (by decide +kernel)
theorem wd_649 : (Jvm.Cond.selects "Mergeparlour" ({ cls := "Mergeparlour", name := "lineAt", desc := "(III)I" } : Jvm.MethodName) ({ cls := "Mergeparlour", name := "lineAt", desc := "(III)I" } : Jvm.MethodName)) ∈ wsAll := wdA (List.mem_of_getElem? (i := 649) (by decide +kernel)) (by decide +kernel)
theorem wd_650 : (Jvm.Cond.code ({ cls := "Mergeparlour", name := "lineAt", desc := "(III)I" } : Jvm.MethodName) prog_1_method_12_code (5 : Nat) (Option.some Jvm.ClassFile.FieldType.int)) ∈ wsAll := wdA (List.mem_of_getElem? (i := 650) (by decide +kernel)) (by decide +kernel)
theorem wd_651 : (Jvm.Cond.methodLink "Mergeparlour" (122 : Nat) ({ cls := "Mergeparlour", name := "checkFromNought", desc := "(I)V" } : Jvm.MethodName)) ∈ wsAll := wdA (List.mem_of_getElem? (i := 651) (by decide +kernel)) (by decide +kernel)
theorem wd_653 : (Jvm.Cond.instanceMethod ({ cls := "Mergeparlour", name := "checkFromNought", desc := "(I)V" } : Jvm.MethodName)) ∈ wsAll := wdA (List.mem_of_getElem? (i := 653) (by decide +kernel)) (by decide +kernel)
theorem wd_654 : (Jvm.Cond.code ({ cls := "Mergeparlour", name := "checkFromNought", desc := "(I)V" } : Jvm.MethodName) prog_1_method_23_code (2 : Nat) (Option.none : Option Jvm.ClassFile.FieldType)) ∈ wsAll := wdA (List.mem_of_getElem? (i := 654) (by decide +kernel)) (by decide +kernel)
theorem wd_657 : (Jvm.Cond.methodLink "Mergeparlour" (127 : Nat) ({ cls := "Mergeparlour$Layout", name := "line", desc := "(I)I" } : Jvm.MethodName)) ∈ wsAll := wdA (List.mem_of_getElem? (i := 657) (by decide +kernel)) (by decide +kernel)
theorem wd_658 : (Jvm.Cond.methodLink "Mergeparlour" (130 : Nat) ({ cls := "Mergeparlour$Ledger", name := "valueOf", desc := "(I)I" } : Jvm.MethodName)) ∈ wsAll := wdA (List.mem_of_getElem? (i := 658) (by decide +kernel)) (by decide +kernel)
theorem wd_659 : (Jvm.Cond.instanceMethod ({ cls := "Mergeparlour$Ledger", name := "valueOf", desc := "(I)I" } : Jvm.MethodName)) ∈ wsAll := wdA (List.mem_of_getElem? (i := 659) (by decide +kernel)) (by decide +kernel)
theorem wd_660 : (Jvm.Cond.selects "Mergeparlour$Ledger" ({ cls := "Mergeparlour$Ledger", name := "valueOf", desc := "(I)I" } : Jvm.MethodName) ({ cls := "Mergeparlour$Ledger", name := "valueOf", desc := "(I)I" } : Jvm.MethodName)) ∈ wsAll := wdA (List.mem_of_getElem? (i := 660) (by decide +kernel)) (by decide +kernel)
theorem wd_661 : (Jvm.Cond.code ({ cls := "Mergeparlour$Ledger", name := "valueOf", desc := "(I)I" } : Jvm.MethodName) prog_3_method_14_code (2 : Nat) (Option.some Jvm.ClassFile.FieldType.int)) ∈ wsAll := wdA (List.mem_of_getElem? (i := 661) (by decide +kernel)) (by decide +kernel)
theorem wd_662 : (Jvm.Cond.methodLink "Mergeparlour" (133 : Nat) ({ cls := "Mergeparlour$Layout", name := "rows", desc := "(I)I" } : Jvm.MethodName)) ∈ wsAll := wdA (List.mem_of_getElem? (i := 662) (by decide +kernel)) (by decide +kernel)
theorem wd_663 : (Jvm.Cond.methodLink "Mergeparlour" (136 : Nat) ({ cls := "Mergeparlour$Layout", name := "beginsParagraph", desc := "(I)Z" } : Jvm.MethodName)) ∈ wsAll := wdA (List.mem_of_getElem? (i := 663) (by decide +kernel)) (by decide +kernel)
theorem wd_664 : (Jvm.Cond.instanceMethod ({ cls := "Mergeparlour$Layout", name := "beginsParagraph", desc := "(I)Z" } : Jvm.MethodName)) ∈ wsAll := wdA (List.mem_of_getElem? (i := 664) (by decide +kernel)) (by decide +kernel)
theorem wd_665 : (Jvm.Cond.selects "Mergeparlour$Layout" ({ cls := "Mergeparlour$Layout", name := "beginsParagraph", desc := "(I)Z" } : Jvm.MethodName) ({ cls := "Mergeparlour$Layout", name := "beginsParagraph", desc := "(I)Z" } : Jvm.MethodName)) ∈ wsAll := wdA (List.mem_of_getElem? (i := 665) (by decide +kernel)) (by decide +kernel)
theorem wd_666 : (Jvm.Cond.code ({ cls := "Mergeparlour$Layout", name := "beginsParagraph", desc := "(I)Z" } : Jvm.MethodName) prog_2_method_6_code (2 : Nat) (Option.some Jvm.ClassFile.FieldType.boolean)) ∈ wsAll := wdA (List.mem_of_getElem? (i := 666) (by decide +kernel)) (by decide +kernel)
theorem wd_667 : (Jvm.Cond.methodLink "Mergeparlour" (140 : Nat) ({ cls := "Mergeparlour$Layout", name := "pageOf", desc := "(I)I" } : Jvm.MethodName)) ∈ wsAll := wdA (List.mem_of_getElem? (i := 667) (by decide +kernel)) (by decide +kernel)
theorem wd_668 : (Jvm.Cond.instanceMethod ({ cls := "Mergeparlour$Layout", name := "pageOf", desc := "(I)I" } : Jvm.MethodName)) ∈ wsAll := wdA (List.mem_of_getElem? (i := 668) (by decide +kernel)) (by decide +kernel)
theorem wd_669 : (Jvm.Cond.selects "Mergeparlour$Layout" ({ cls := "Mergeparlour$Layout", name := "pageOf", desc := "(I)I" } : Jvm.MethodName) ({ cls := "Mergeparlour$Layout", name := "pageOf", desc := "(I)I" } : Jvm.MethodName)) ∈ wsAll := wdA (List.mem_of_getElem? (i := 669) (by decide +kernel)) (by decide +kernel)
theorem wd_670 : (Jvm.Cond.code ({ cls := "Mergeparlour$Layout", name := "pageOf", desc := "(I)I" } : Jvm.MethodName) prog_2_method_8_code (4 : Nat) (Option.some Jvm.ClassFile.FieldType.int)) ∈ wsAll := wdA (List.mem_of_getElem? (i := 670) (by decide +kernel)) (by decide +kernel)
theorem wd_671 : (Jvm.Cond.methodLink "MergeparlourLaw" (115 : Nat) ({ cls := "MergeparlourLaw", name := "lineAnew", desc := "(LMergeparlour;II[J)I" } : Jvm.MethodName)) ∈ wsAll := wdA (List.mem_of_getElem? (i := 671) (by decide +kernel)) (by decide +kernel)
theorem wd_672 : (Jvm.Cond.static ({ cls := "MergeparlourLaw", name := "lineAnew", desc := "(LMergeparlour;II[J)I" } : Jvm.MethodName)) ∈ wsAll := wdA (List.mem_of_getElem? (i := 672) (by decide +kernel)) (by decide +kernel)
theorem wd_673 : (Jvm.Cond.codeWith ({ cls := "MergeparlourLaw", name := "lineAnew", desc := "(LMergeparlour;II[J)I" } : Jvm.MethodName) method_12_code (5 : Nat) (Option.some Jvm.ClassFile.FieldType.int) [((0 : Nat), (10 : Nat), (13 : Nat), (13 : Nat))]) ∈ wsAll := wdA (List.mem_of_getElem? (i := 673) (by decide +kernel)) (by decide +kernel)
theorem wd_674 : (Jvm.Cond.methodLink "MergeparlourLaw" (50 : Nat) ({ cls := "Mergeparlour", name := "lineAnew", desc := "(II)I" } : Jvm.MethodName)) ∈ wsAll := wdA (List.mem_of_getElem? (i := 674) (by decide +kernel)) (by decide +kernel)
theorem wd_675 : (Jvm.Cond.instanceMethod ({ cls := "Mergeparlour", name := "lineAnew", desc := "(II)I" } : Jvm.MethodName)) ∈ wsAll := wdA (List.mem_of_getElem? (i := 675) (by decide +kernel)) (by decide +kernel)
theorem wd_676 : (Jvm.Cond.selects "Mergeparlour" ({ cls := "Mergeparlour", name := "lineAnew", desc := "(II)I" } : Jvm.MethodName) ({ cls := "Mergeparlour", name := "lineAnew", desc := "(II)I" } : Jvm.MethodName)) ∈ wsAll := wdA (List.mem_of_getElem? (i := 676) (by decide +kernel)) (by decide +kernel)
theorem wd_677 : (Jvm.Cond.code ({ cls := "Mergeparlour", name := "lineAnew", desc := "(II)I" } : Jvm.MethodName) prog_1_method_13_code (4 : Nat) (Option.some Jvm.ClassFile.FieldType.int)) ∈ wsAll := wdA (List.mem_of_getElem? (i := 677) (by decide +kernel)) (by decide +kernel)
theorem wd_678 : (Jvm.Cond.methodLink "Mergeparlour" (147 : Nat) ({ cls := "Mergeparlour$Text", name := "findAnew", desc := "(I)I" } : Jvm.MethodName)) ∈ wsAll := wdA (List.mem_of_getElem? (i := 678) (by decide +kernel)) (by decide +kernel)
theorem wd_679 : (Jvm.Cond.instanceMethod ({ cls := "Mergeparlour$Text", name := "findAnew", desc := "(I)I" } : Jvm.MethodName)) ∈ wsAll := wdA (List.mem_of_getElem? (i := 679) (by decide +kernel)) (by decide +kernel)
theorem wd_680 : (Jvm.Cond.selects "Mergeparlour$Text" ({ cls := "Mergeparlour$Text", name := "findAnew", desc := "(I)I" } : Jvm.MethodName) ({ cls := "Mergeparlour$Text", name := "findAnew", desc := "(I)I" } : Jvm.MethodName)) ∈ wsAll := wdA (List.mem_of_getElem? (i := 680) (by decide +kernel)) (by decide +kernel)
theorem wd_681 : (Jvm.Cond.code ({ cls := "Mergeparlour$Text", name := "findAnew", desc := "(I)I" } : Jvm.MethodName) prog_7_method_9_code (5 : Nat) (Option.some Jvm.ClassFile.FieldType.int)) ∈ wsAll := wdA (List.mem_of_getElem? (i := 681) (by decide +kernel)) (by decide +kernel)
theorem wd_682 : (Jvm.Cond.methodLink "Mergeparlour$Text" (79 : Nat) ({ cls := "Mergeparlour$Text", name := "putAllAnew", desc := "()V" } : Jvm.MethodName)) ∈ wsAll := wdA (List.mem_of_getElem? (i := 682) (by decide +kernel)) (by decide +kernel)
theorem wd_684 : (Jvm.Cond.instanceMethod ({ cls := "Mergeparlour$Text", name := "putAllAnew", desc := "()V" } : Jvm.MethodName)) ∈ wsAll := wdA (List.mem_of_getElem? (i := 684) (by decide +kernel)) (by decide +kernel)
theorem wd_685 : (Jvm.Cond.code ({ cls := "Mergeparlour$Text", name := "putAllAnew", desc := "()V" } : Jvm.MethodName) prog_7_method_12_code (3 : Nat) (Option.none : Option Jvm.ClassFile.FieldType)) ∈ wsAll := wdA (List.mem_of_getElem? (i := 685) (by decide +kernel)) (by decide +kernel)
theorem wd_686 : (Jvm.Cond.methodLink "Mergeparlour$Text" (91 : Nat) ({ cls := "Mergeparlour$Text", name := "sortByStamps", desc := "()V" } : Jvm.MethodName)) ∈ wsAll := wdA (List.mem_of_getElem? (i := 686) (by decide +kernel)) (by decide +kernel)
theorem wd_688 : (Jvm.Cond.instanceMethod ({ cls := "Mergeparlour$Text", name := "sortByStamps", desc := "()V" } : Jvm.MethodName)) ∈ wsAll := wdA (List.mem_of_getElem? (i := 688) (by decide +kernel)) (by decide +kernel)
theorem wd_689 : (Jvm.Cond.code ({ cls := "Mergeparlour$Text", name := "sortByStamps", desc := "()V" } : Jvm.MethodName) prog_7_method_13_code (2 : Nat) (Option.none : Option Jvm.ClassFile.FieldType)) ∈ wsAll := wdA (List.mem_of_getElem? (i := 689) (by decide +kernel)) (by decide +kernel)
theorem wd_690 : (Jvm.Cond.methodLink "Mergeparlour$Text" (94 : Nat) ({ cls := "Mergeparlour$Numbers", name := "clear", desc := "()V" } : Jvm.MethodName)) ∈ wsAll := wdA (List.mem_of_getElem? (i := 690) (by decide +kernel)) (by decide +kernel)
theorem wd_691 : (Jvm.Cond.methodLink "Mergeparlour$Text" (97 : Nat) ({ cls := "Mergeparlour$Ledger", name := "lineCount", desc := "()I" } : Jvm.MethodName)) ∈ wsAll := wdA (List.mem_of_getElem? (i := 691) (by decide +kernel)) (by decide +kernel)
theorem wd_692 : (Jvm.Cond.instanceMethod ({ cls := "Mergeparlour$Ledger", name := "lineCount", desc := "()I" } : Jvm.MethodName)) ∈ wsAll := wdA (List.mem_of_getElem? (i := 692) (by decide +kernel)) (by decide +kernel)
theorem wd_693 : (Jvm.Cond.selects "Mergeparlour$Ledger" ({ cls := "Mergeparlour$Ledger", name := "lineCount", desc := "()I" } : Jvm.MethodName) ({ cls := "Mergeparlour$Ledger", name := "lineCount", desc := "()I" } : Jvm.MethodName)) ∈ wsAll := wdA (List.mem_of_getElem? (i := 693) (by decide +kernel)) (by decide +kernel)
theorem wd_694 : (Jvm.Cond.code ({ cls := "Mergeparlour$Ledger", name := "lineCount", desc := "()I" } : Jvm.MethodName) prog_3_method_6_code (1 : Nat) (Option.some Jvm.ClassFile.FieldType.int)) ∈ wsAll := wdA (List.mem_of_getElem? (i := 694) (by decide +kernel)) (by decide +kernel)
theorem wd_695 : (Jvm.Cond.methodLink "Mergeparlour$Text" (100 : Nat) ({ cls := "Mergeparlour$Text", name := "knowsLine", desc := "(I)Z" } : Jvm.MethodName)) ∈ wsAll := wdA (List.mem_of_getElem? (i := 695) (by decide +kernel)) (by decide +kernel)
theorem wd_696 : (Jvm.Cond.methodLink "Mergeparlour$Text" (103 : Nat) ({ cls := "Mergeparlour$Text", name := "placeByStamp", desc := "(I)I" } : Jvm.MethodName)) ∈ wsAll := wdA (List.mem_of_getElem? (i := 696) (by decide +kernel)) (by decide +kernel)
theorem wd_698 : (Jvm.Cond.instanceMethod ({ cls := "Mergeparlour$Text", name := "placeByStamp", desc := "(I)I" } : Jvm.MethodName)) ∈ wsAll := wdA (List.mem_of_getElem? (i := 698) (by decide +kernel)) (by decide +kernel)
theorem wd_699 : (Jvm.Cond.code ({ cls := "Mergeparlour$Text", name := "placeByStamp", desc := "(I)I" } : Jvm.MethodName) prog_7_method_14_code (3 : Nat) (Option.some Jvm.ClassFile.FieldType.int)) ∈ wsAll := wdA (List.mem_of_getElem? (i := 699) (by decide +kernel)) (by decide +kernel)
theorem wd_700 : (Jvm.Cond.methodLink "MergeparlourLaw" (118 : Nat) ({ cls := "MergeparlourLaw", name := "noteAt", desc := "(LMergeparlour;II[J)I" } : Jvm.MethodName)) ∈ wsAll := wdA (List.mem_of_getElem? (i := 700) (by decide +kernel)) (by decide +kernel)
theorem wd_701 : (Jvm.Cond.static ({ cls := "MergeparlourLaw", name := "noteAt", desc := "(LMergeparlour;II[J)I" } : Jvm.MethodName)) ∈ wsAll := wdA (List.mem_of_getElem? (i := 701) (by decide +kernel)) (by decide +kernel)
theorem wd_702 : (Jvm.Cond.codeWith ({ cls := "MergeparlourLaw", name := "noteAt", desc := "(LMergeparlour;II[J)I" } : Jvm.MethodName) method_13_code (5 : Nat) (Option.some Jvm.ClassFile.FieldType.int) [((0 : Nat), (10 : Nat), (13 : Nat), (13 : Nat))]) ∈ wsAll := wdA (List.mem_of_getElem? (i := 702) (by decide +kernel)) (by decide +kernel)
theorem wd_703 : (Jvm.Cond.methodLink "MergeparlourLaw" (53 : Nat) ({ cls := "Mergeparlour", name := "noteAt", desc := "(II)I" } : Jvm.MethodName)) ∈ wsAll := wdA (List.mem_of_getElem? (i := 703) (by decide +kernel)) (by decide +kernel)
theorem wd_704 : (Jvm.Cond.instanceMethod ({ cls := "Mergeparlour", name := "noteAt", desc := "(II)I" } : Jvm.MethodName)) ∈ wsAll := wdA (List.mem_of_getElem? (i := 704) (by decide +kernel)) (by decide +kernel)
theorem wd_705 : (Jvm.Cond.selects "Mergeparlour" ({ cls := "Mergeparlour", name := "noteAt", desc := "(II)I" } : Jvm.MethodName) ({ cls := "Mergeparlour", name := "noteAt", desc := "(II)I" } : Jvm.MethodName)) ∈ wsAll := wdA (List.mem_of_getElem? (i := 705) (by decide +kernel)) (by decide +kernel)
theorem wd_706 : (Jvm.Cond.code ({ cls := "Mergeparlour", name := "noteAt", desc := "(II)I" } : Jvm.MethodName) prog_1_method_14_code (4 : Nat) (Option.some Jvm.ClassFile.FieldType.int)) ∈ wsAll := wdA (List.mem_of_getElem? (i := 706) (by decide +kernel)) (by decide +kernel)
theorem wd_707 : (Jvm.Cond.methodLink "Mergeparlour" (152 : Nat) ({ cls := "Mergeparlour$Text", name := "lineOfNote", desc := "(I)I" } : Jvm.MethodName)) ∈ wsAll := wdA (List.mem_of_getElem? (i := 707) (by decide +kernel)) (by decide +kernel)
theorem wd_708 : (Jvm.Cond.methodLink "MergeparlourLaw" (121 : Nat) ({ cls := "MergeparlourLaw", name := "pages", desc := "(LMergeparlour;I[J)I" } : Jvm.MethodName)) ∈ wsAll := wdA (List.mem_of_getElem? (i := 708) (by decide +kernel)) (by decide +kernel)
theorem wd_709 : (Jvm.Cond.static ({ cls := "MergeparlourLaw", name := "pages", desc := "(LMergeparlour;I[J)I" } : Jvm.MethodName)) ∈ wsAll := wdA (List.mem_of_getElem? (i := 709) (by decide +kernel)) (by decide +kernel)
theorem wd_710 : (Jvm.Cond.codeWith ({ cls := "MergeparlourLaw", name := "pages", desc := "(LMergeparlour;I[J)I" } : Jvm.MethodName) method_14_code (4 : Nat) (Option.some Jvm.ClassFile.FieldType.int) [((0 : Nat), (9 : Nat), (12 : Nat), (13 : Nat))]) ∈ wsAll := wdA (List.mem_of_getElem? (i := 710) (by decide +kernel)) (by decide +kernel)
theorem wd_711 : (Jvm.Cond.methodLink "MergeparlourLaw" (56 : Nat) ({ cls := "Mergeparlour", name := "pages", desc := "(I)I" } : Jvm.MethodName)) ∈ wsAll := wdA (List.mem_of_getElem? (i := 711) (by decide +kernel)) (by decide +kernel)
theorem wd_712 : (Jvm.Cond.instanceMethod ({ cls := "Mergeparlour", name := "pages", desc := "(I)I" } : Jvm.MethodName)) ∈ wsAll := wdA (List.mem_of_getElem? (i := 712) (by decide +kernel)) (by decide +kernel)
theorem wd_713 : (Jvm.Cond.selects "Mergeparlour" ({ cls := "Mergeparlour", name := "pages", desc := "(I)I" } : Jvm.MethodName) ({ cls := "Mergeparlour", name := "pages", desc := "(I)I" } : Jvm.MethodName)) ∈ wsAll := wdA (List.mem_of_getElem? (i := 713) (by decide +kernel)) (by decide +kernel)
theorem wd_714 : (Jvm.Cond.code ({ cls := "Mergeparlour", name := "pages", desc := "(I)I" } : Jvm.MethodName) prog_1_method_15_code (2 : Nat) (Option.some Jvm.ClassFile.FieldType.int)) ∈ wsAll := wdA (List.mem_of_getElem? (i := 714) (by decide +kernel)) (by decide +kernel)
theorem wd_715 : (Jvm.Cond.methodLink "Mergeparlour" (155 : Nat) ({ cls := "Mergeparlour$Layout", name := "pageCount", desc := "()I" } : Jvm.MethodName)) ∈ wsAll := wdA (List.mem_of_getElem? (i := 715) (by decide +kernel)) (by decide +kernel)
theorem wd_716 : (Jvm.Cond.methodLink "MergeparlourLaw" (124 : Nat) ({ cls := "MergeparlourLaw", name := "aheadAnew", desc := "(LMergeparlour;II[J)I" } : Jvm.MethodName)) ∈ wsAll := wdA (List.mem_of_getElem? (i := 716) (by decide +kernel)) (by decide +kernel)
theorem wd_717 : (Jvm.Cond.static ({ cls := "MergeparlourLaw", name := "aheadAnew", desc := "(LMergeparlour;II[J)I" } : Jvm.MethodName)) ∈ wsAll := wdA (List.mem_of_getElem? (i := 717) (by decide +kernel)) (by decide +kernel)
theorem wd_718 : (Jvm.Cond.codeWith ({ cls := "MergeparlourLaw", name := "aheadAnew", desc := "(LMergeparlour;II[J)I" } : Jvm.MethodName) method_15_code (5 : Nat) (Option.some Jvm.ClassFile.FieldType.int) [((0 : Nat), (10 : Nat), (13 : Nat), (13 : Nat))]) ∈ wsAll := wdA (List.mem_of_getElem? (i := 718) (by decide +kernel)) (by decide +kernel)
theorem wd_719 : (Jvm.Cond.methodLink "MergeparlourLaw" (59 : Nat) ({ cls := "Mergeparlour", name := "aheadAnew", desc := "(II)I" } : Jvm.MethodName)) ∈ wsAll := wdA (List.mem_of_getElem? (i := 719) (by decide +kernel)) (by decide +kernel)
theorem wd_720 : (Jvm.Cond.instanceMethod ({ cls := "Mergeparlour", name := "aheadAnew", desc := "(II)I" } : Jvm.MethodName)) ∈ wsAll := wdA (List.mem_of_getElem? (i := 720) (by decide +kernel)) (by decide +kernel)
theorem wd_721 : (Jvm.Cond.selects "Mergeparlour" ({ cls := "Mergeparlour", name := "aheadAnew", desc := "(II)I" } : Jvm.MethodName) ({ cls := "Mergeparlour", name := "aheadAnew", desc := "(II)I" } : Jvm.MethodName)) ∈ wsAll := wdA (List.mem_of_getElem? (i := 721) (by decide +kernel)) (by decide +kernel)
theorem wd_722 : (Jvm.Cond.code ({ cls := "Mergeparlour", name := "aheadAnew", desc := "(II)I" } : Jvm.MethodName) prog_1_method_16_code (4 : Nat) (Option.some Jvm.ClassFile.FieldType.int)) ∈ wsAll := wdA (List.mem_of_getElem? (i := 722) (by decide +kernel)) (by decide +kernel)
theorem wd_723 : (Jvm.Cond.methodLink "Mergeparlour" (156 : Nat) ({ cls := "Mergeparlour$Layout", name := "countAheadAnew", desc := "(I)I" } : Jvm.MethodName)) ∈ wsAll := wdA (List.mem_of_getElem? (i := 723) (by decide +kernel)) (by decide +kernel)
theorem wd_724 : (Jvm.Cond.instanceMethod ({ cls := "Mergeparlour$Layout", name := "countAheadAnew", desc := "(I)I" } : Jvm.MethodName)) ∈ wsAll := wdA (List.mem_of_getElem? (i := 724) (by decide +kernel)) (by decide +kernel)
theorem wd_725 : (Jvm.Cond.selects "Mergeparlour$Layout" ({ cls := "Mergeparlour$Layout", name := "countAheadAnew", desc := "(I)I" } : Jvm.MethodName) ({ cls := "Mergeparlour$Layout", name := "countAheadAnew", desc := "(I)I" } : Jvm.MethodName)) ∈ wsAll := wdA (List.mem_of_getElem? (i := 725) (by decide +kernel)) (by decide +kernel)
theorem wd_726 : (Jvm.Cond.code ({ cls := "Mergeparlour$Layout", name := "countAheadAnew", desc := "(I)I" } : Jvm.MethodName) prog_2_method_10_code (4 : Nat) (Option.some Jvm.ClassFile.FieldType.int)) ∈ wsAll := wdA (List.mem_of_getElem? (i := 726) (by decide +kernel)) (by decide +kernel)
theorem wd_727 : (Jvm.Cond.methodLink "Mergeparlour$Layout" (54 : Nat) ({ cls := "Mergeparlour$Layout", name := "endByTrying", desc := "(I)I" } : Jvm.MethodName)) ∈ wsAll := wdA (List.mem_of_getElem? (i := 727) (by decide +kernel)) (by decide +kernel)
theorem wd_729 : (Jvm.Cond.instanceMethod ({ cls := "Mergeparlour$Layout", name := "endByTrying", desc := "(I)I" } : Jvm.MethodName)) ∈ wsAll := wdA (List.mem_of_getElem? (i := 729) (by decide +kernel)) (by decide +kernel)
theorem wd_730 : (Jvm.Cond.code ({ cls := "Mergeparlour$Layout", name := "endByTrying", desc := "(I)I" } : Jvm.MethodName) prog_2_method_15_code (4 : Nat) (Option.some Jvm.ClassFile.FieldType.int)) ∈ wsAll := wdA (List.mem_of_getElem? (i := 730) (by decide +kernel)) (by decide +kernel)
theorem wd_731 : (Jvm.Cond.methodLink "Mergeparlour$Layout" (111 : Nat) ({ cls := "Mergeparlour$Layout", name := "endWithRoom", desc := "(I)I" } : Jvm.MethodName)) ∈ wsAll := wdA (List.mem_of_getElem? (i := 731) (by decide +kernel)) (by decide +kernel)
theorem wd_733 : (Jvm.Cond.instanceMethod ({ cls := "Mergeparlour$Layout", name := "endWithRoom", desc := "(I)I" } : Jvm.MethodName)) ∈ wsAll := wdA (List.mem_of_getElem? (i := 733) (by decide +kernel)) (by decide +kernel)
theorem wd_734 : (Jvm.Cond.code ({ cls := "Mergeparlour$Layout", name := "endWithRoom", desc := "(I)I" } : Jvm.MethodName) prog_2_method_16_code (4 : Nat) (Option.some Jvm.ClassFile.FieldType.int)) ∈ wsAll := wdA (List.mem_of_getElem? (i := 734) (by decide +kernel)) (by decide +kernel)
theorem wd_735 : (Jvm.Cond.methodLink "MergeparlourLaw" (127 : Nat) ({ cls := "MergeparlourLaw", name := "known", desc := "(LMergeparlour;I[J)I" } : Jvm.MethodName)) ∈ wsAll := wdA (List.mem_of_getElem? (i := 735) (by decide +kernel)) (by decide +kernel)
theorem wd_736 : (Jvm.Cond.static ({ cls := "MergeparlourLaw", name := "known", desc := "(LMergeparlour;I[J)I" } : Jvm.MethodName)) ∈ wsAll := wdA (List.mem_of_getElem? (i := 736) (by decide +kernel)) (by decide +kernel)
theorem wd_737 : (Jvm.Cond.codeWith ({ cls := "MergeparlourLaw", name := "known", desc := "(LMergeparlour;I[J)I" } : Jvm.MethodName) method_16_code (4 : Nat) (Option.some Jvm.ClassFile.FieldType.int) [((0 : Nat), (9 : Nat), (12 : Nat), (13 : Nat))]) ∈ wsAll := wdA (List.mem_of_getElem? (i := 737) (by decide +kernel)) (by decide +kernel)
theorem wd_738 : (Jvm.Cond.methodLink "MergeparlourLaw" (62 : Nat) ({ cls := "Mergeparlour", name := "known", desc := "(I)I" } : Jvm.MethodName)) ∈ wsAll := wdA (List.mem_of_getElem? (i := 738) (by decide +kernel)) (by decide +kernel)
theorem wd_739 : (Jvm.Cond.instanceMethod ({ cls := "Mergeparlour", name := "known", desc := "(I)I" } : Jvm.MethodName)) ∈ wsAll := wdA (List.mem_of_getElem? (i := 739) (by decide +kernel)) (by decide +kernel)
theorem wd_740 : (Jvm.Cond.selects "Mergeparlour" ({ cls := "Mergeparlour", name := "known", desc := "(I)I" } : Jvm.MethodName) ({ cls := "Mergeparlour", name := "known", desc := "(I)I" } : Jvm.MethodName)) ∈ wsAll := wdA (List.mem_of_getElem? (i := 740) (by decide +kernel)) (by decide +kernel)
theorem wd_741 : (Jvm.Cond.code ({ cls := "Mergeparlour", name := "known", desc := "(I)I" } : Jvm.MethodName) prog_1_method_17_code (2 : Nat) (Option.some Jvm.ClassFile.FieldType.int)) ∈ wsAll := wdA (List.mem_of_getElem? (i := 741) (by decide +kernel)) (by decide +kernel)
theorem wd_742 : (Jvm.Cond.methodLink "Mergeparlour" (159 : Nat) ({ cls := "Mergeparlour$Site", name := "deedCount", desc := "()I" } : Jvm.MethodName)) ∈ wsAll := wdA (List.mem_of_getElem? (i := 742) (by decide +kernel)) (by decide +kernel)
theorem wd_743 : (Jvm.Cond.instanceMethod ({ cls := "Mergeparlour$Site", name := "deedCount", desc := "()I" } : Jvm.MethodName)) ∈ wsAll := wdA (List.mem_of_getElem? (i := 743) (by decide +kernel)) (by decide +kernel)
theorem wd_744 : (Jvm.Cond.selects "Mergeparlour$Site" ({ cls := "Mergeparlour$Site", name := "deedCount", desc := "()I" } : Jvm.MethodName) ({ cls := "Mergeparlour$Site", name := "deedCount", desc := "()I" } : Jvm.MethodName)) ∈ wsAll := wdA (List.mem_of_getElem? (i := 744) (by decide +kernel)) (by decide +kernel)
theorem wd_745 : (Jvm.Cond.code ({ cls := "Mergeparlour$Site", name := "deedCount", desc := "()I" } : Jvm.MethodName) prog_6_method_5_code (1 : Nat) (Option.some Jvm.ClassFile.FieldType.int)) ∈ wsAll := wdA (List.mem_of_getElem? (i := 745) (by decide +kernel)) (by decide +kernel)
theorem wd_746 : (Jvm.Cond.classLink "MergeparlourLaw" (66 : Nat) "MergeparlourModel") ∈ wsAll := wdA (List.mem_of_getElem? (i := 746) (by decide +kernel)) (by decide +kernel)
theorem wd_747 : (Jvm.Cond.instantiable "MergeparlourModel" (31 : Nat)) ∈ wsAll := wdA (List.mem_of_getElem? (i := 747) (by decide +kernel)) (by decide +kernel)
theorem wd_748 : (Jvm.Cond.methodLink "MergeparlourLaw" (68 : Nat) ({ cls := "MergeparlourModel", name := "<init>", desc := "()V" } : Jvm.MethodName)) ∈ wsAll := wdA (List.mem_of_getElem? (i := 748) (by decide +kernel)) (by decide +kernel)
theorem wd_749 : (Jvm.Cond.instanceMethod ({ cls := "MergeparlourModel", name := "<init>", desc := "()V" } : Jvm.MethodName)) ∈ wsAll := wdA (List.mem_of_getElem? (i := 749) (by decide +kernel)) (by decide +kernel)
theorem wd_750 : (Jvm.Cond.code ({ cls := "MergeparlourModel", name := "<init>", desc := "()V" } : Jvm.MethodName) prog_9_method_1_code (1 : Nat) (Option.none : Option Jvm.ClassFile.FieldType)) ∈ wsAll := wdA (List.mem_of_getElem? (i := 750) (by decide +kernel)) (by decide +kernel)
theorem wd_751 : (Jvm.Cond.methodLink "MergeparlourModel" (1 : Nat) ({ cls := "java/lang/Object", name := "<init>", desc := "()V" } : Jvm.MethodName)) ∈ wsAll := wdA (List.mem_of_getElem? (i := 751) (by decide +kernel)) (by decide +kernel)
theorem wd_752 : (Jvm.Cond.fieldLink "MergeparlourModel" (80 : Nat) "MergeparlourModel" "thrown" "I") ∈ wsAll := wdA (List.mem_of_getElem? (i := 752) (by decide +kernel)) (by decide +kernel)
theorem wd_753 : (Jvm.Cond.fieldLink "MergeparlourModel" (94 : Nat) "MergeparlourModel" "deeds" "I") ∈ wsAll := wdA (List.mem_of_getElem? (i := 753) (by decide +kernel)) (by decide +kernel)
theorem wd_754 : (Jvm.Cond.fieldLink "MergeparlourModel" (7 : Nat) "MergeparlourModel" "kind" "[I") ∈ wsAll := wdA (List.mem_of_getElem? (i := 754) (by decide +kernel)) (by decide +kernel)
theorem wd_755 : (Jvm.Cond.fieldLink "MergeparlourModel" (13 : Nat) "MergeparlourModel" "clockOf" "[I") ∈ wsAll := wdA (List.mem_of_getElem? (i := 755) (by decide +kernel)) (by decide +kernel)
theorem wd_756 : (Jvm.Cond.fieldLink "MergeparlourModel" (16 : Nat) "MergeparlourModel" "siteOf" "[I") ∈ wsAll := wdA (List.mem_of_getElem? (i := 756) (by decide +kernel)) (by decide +kernel)
theorem wd_757 : (Jvm.Cond.fieldLink "MergeparlourModel" (19 : Nat) "MergeparlourModel" "lineOf" "[I") ∈ wsAll := wdA (List.mem_of_getElem? (i := 757) (by decide +kernel)) (by decide +kernel)
theorem wd_758 : (Jvm.Cond.fieldLink "MergeparlourModel" (22 : Nat) "MergeparlourModel" "noteOf" "[I") ∈ wsAll := wdA (List.mem_of_getElem? (i := 758) (by decide +kernel)) (by decide +kernel)
theorem wd_759 : (Jvm.Cond.fieldLink "MergeparlourModel" (88 : Nat) "MergeparlourModel" "lines" "I") ∈ wsAll := wdA (List.mem_of_getElem? (i := 759) (by decide +kernel)) (by decide +kernel)
theorem wd_760 : (Jvm.Cond.fieldLink "MergeparlourModel" (25 : Nat) "MergeparlourModel" "madeBy" "[I") ∈ wsAll := wdA (List.mem_of_getElem? (i := 760) (by decide +kernel)) (by decide +kernel)
theorem wd_761 : (Jvm.Cond.fieldLink "MergeparlourModel" (28 : Nat) "MergeparlourModel" "behind" "[I") ∈ wsAll := wdA (List.mem_of_getElem? (i := 761) (by decide +kernel)) (by decide +kernel)
theorem wd_762 : (Jvm.Cond.fieldLink "MergeparlourModel" (31 : Nat) "MergeparlourModel" "value" "[I") ∈ wsAll := wdA (List.mem_of_getElem? (i := 762) (by decide +kernel)) (by decide +kernel)
theorem wd_763 : (Jvm.Cond.fieldLink "MergeparlourModel" (34 : Nat) "MergeparlourModel" "begins" "[Z") ∈ wsAll := wdA (List.mem_of_getElem? (i := 763) (by decide +kernel)) (by decide +kernel)
theorem wd_764 : (Jvm.Cond.fieldLink "MergeparlourModel" (91 : Nat) "MergeparlourModel" "notes" "I") ∈ wsAll := wdA (List.mem_of_getElem? (i := 764) (by decide +kernel)) (by decide +kernel)
theorem wd_765 : (Jvm.Cond.fieldLink "MergeparlourModel" (38 : Nat) "MergeparlourModel" "noteBy" "[I") ∈ wsAll := wdA (List.mem_of_getElem? (i := 765) (by decide +kernel)) (by decide +kernel)
theorem wd_766 : (Jvm.Cond.fieldLink "MergeparlourModel" (41 : Nat) "MergeparlourModel" "noteRows" "[I") ∈ wsAll := wdA (List.mem_of_getElem? (i := 766) (by decide +kernel)) (by decide +kernel)
theorem wd_767 : (Jvm.Cond.fieldLink "MergeparlourModel" (44 : Nat) "MergeparlourModel" "clock" "[I") ∈ wsAll := wdA (List.mem_of_getElem? (i := 767) (by decide +kernel)) (by decide +kernel)
theorem wd_768 : (Jvm.Cond.fieldLink "MergeparlourModel" (47 : Nat) "MergeparlourModel" "many" "[I") ∈ wsAll := wdA (List.mem_of_getElem? (i := 768) (by decide +kernel)) (by decide +kernel)
theorem wd_769 : (Jvm.Cond.fieldLink "MergeparlourModel" (50 : Nat) "MergeparlourModel" "knows" "[I") ∈ wsAll := wdA (List.mem_of_getElem? (i := 769) (by decide +kernel)) (by decide +kernel)
theorem wd_770 : (Jvm.Cond.fieldLink "MergeparlourModel" (53 : Nat) "MergeparlourModel" "has" "[Z") ∈ wsAll := wdA (List.mem_of_getElem? (i := 770) (by decide +kernel)) (by decide +kernel)
theorem wd_771 : (Jvm.Cond.fieldLink "MergeparlourModel" (162 : Nat) "MergeparlourModel" "sheets" "I") ∈ wsAll := wdA (List.mem_of_getElem? (i := 771) (by decide +kernel)) (by decide +kernel)
theorem wd_772 : (Jvm.Cond.fieldLink "MergeparlourModel" (56 : Nat) "MergeparlourModel" "printed" "[I") ∈ wsAll := wdA (List.mem_of_getElem? (i := 772) (by decide +kernel)) (by decide +kernel)
theorem wd_773 : (Jvm.Cond.fieldLink "MergeparlourModel" (59 : Nat) "MergeparlourModel" "printedLine" "[I") ∈ wsAll := wdA (List.mem_of_getElem? (i := 773) (by decide +kernel)) (by decide +kernel)
theorem wd_774 : (Jvm.Cond.fieldLink "MergeparlourModel" (62 : Nat) "MergeparlourModel" "printedRows" "[I") ∈ wsAll := wdA (List.mem_of_getElem? (i := 774) (by decide +kernel)) (by decide +kernel)
theorem wd_775 : (Jvm.Cond.fieldLink "MergeparlourModel" (132 : Nat) "MergeparlourModel" "all" "I") ∈ wsAll := wdA (List.mem_of_getElem? (i := 775) (by decide +kernel)) (by decide +kernel)
theorem wd_776 : (Jvm.Cond.fieldLink "MergeparlourModel" (65 : Nat) "MergeparlourModel" "order" "[I") ∈ wsAll := wdA (List.mem_of_getElem? (i := 776) (by decide +kernel)) (by decide +kernel)
theorem wd_777 : (Jvm.Cond.fieldLink "MergeparlourModel" (68 : Nat) "MergeparlourModel" "pile" "[I") ∈ wsAll := wdA (List.mem_of_getElem? (i := 777) (by decide +kernel)) (by decide +kernel)
theorem wd_778 : (Jvm.Cond.fieldLink "MergeparlourModel" (123 : Nat) "MergeparlourModel" "rowsThere" "I") ∈ wsAll := wdA (List.mem_of_getElem? (i := 778) (by decide +kernel)) (by decide +kernel)
theorem wd_779 : (Jvm.Cond.fieldLink "MergeparlourModel" (71 : Nat) "MergeparlourModel" "there" "[I") ∈ wsAll := wdA (List.mem_of_getElem? (i := 779) (by decide +kernel)) (by decide +kernel)
theorem wd_780 : (Jvm.Cond.fieldLink "MergeparlourModel" (74 : Nat) "MergeparlourModel" "rowsOf" "[I") ∈ wsAll := wdA (List.mem_of_getElem? (i := 780) (by decide +kernel)) (by decide +kernel)
theorem wd_781 : (Jvm.Cond.fieldLink "MergeparlourModel" (77 : Nat) "MergeparlourModel" "pageOf" "[I") ∈ wsAll := wdA (List.mem_of_getElem? (i := 781) (by decide +kernel)) (by decide +kernel)
theorem wd_782 : (Jvm.Cond.fieldLink "MergeparlourModel" (155 : Nat) "MergeparlourModel" "pages" "I") ∈ wsAll := wdA (List.mem_of_getElem? (i := 782) (by decide +kernel)) (by decide +kernel)
theorem wd_783 : (Jvm.Cond.lays "MergeparlourModel" "MergeparlourModel" "thrown" "I") ∈ wsAll := wdA (List.mem_of_getElem? (i := 783) (by decide +kernel)) (by decide +kernel)
theorem wd_785 : (Jvm.Cond.lays "MergeparlourModel" "MergeparlourModel" "deeds" "I") ∈ wsAll := wdA (List.mem_of_getElem? (i := 785) (by decide +kernel)) (by decide +kernel)
theorem wd_787 : (Jvm.Cond.laysFinal "MergeparlourModel" "MergeparlourModel" "kind" "[I") ∈ wsAll := wdA (List.mem_of_getElem? (i := 787) (by decide +kernel)) (by decide +kernel)
theorem wd_789 : (Jvm.Cond.laysFinal "MergeparlourModel" "MergeparlourModel" "clockOf" "[I") ∈ wsAll := wdA (List.mem_of_getElem? (i := 789) (by decide +kernel)) (by decide +kernel)
theorem wd_791 : (Jvm.Cond.laysFinal "MergeparlourModel" "MergeparlourModel" "siteOf" "[I") ∈ wsAll := wdA (List.mem_of_getElem? (i := 791) (by decide +kernel)) (by decide +kernel)
theorem wd_793 : (Jvm.Cond.laysFinal "MergeparlourModel" "MergeparlourModel" "lineOf" "[I") ∈ wsAll := wdA (List.mem_of_getElem? (i := 793) (by decide +kernel)) (by decide +kernel)
theorem wd_795 : (Jvm.Cond.laysFinal "MergeparlourModel" "MergeparlourModel" "noteOf" "[I") ∈ wsAll := wdA (List.mem_of_getElem? (i := 795) (by decide +kernel)) (by decide +kernel)
theorem wd_797 : (Jvm.Cond.lays "MergeparlourModel" "MergeparlourModel" "lines" "I") ∈ wsAll := wdA (List.mem_of_getElem? (i := 797) (by decide +kernel)) (by decide +kernel)
theorem wd_799 : (Jvm.Cond.laysFinal "MergeparlourModel" "MergeparlourModel" "madeBy" "[I") ∈ wsAll := wdA (List.mem_of_getElem? (i := 799) (by decide +kernel)) (by decide +kernel)
theorem wd_801 : (Jvm.Cond.laysFinal "MergeparlourModel" "MergeparlourModel" "behind" "[I") ∈ wsAll := wdA (List.mem_of_getElem? (i := 801) (by decide +kernel)) (by decide +kernel)
theorem wd_803 : (Jvm.Cond.laysFinal "MergeparlourModel" "MergeparlourModel" "value" "[I") ∈ wsAll := wdA (List.mem_of_getElem? (i := 803) (by decide +kernel)) (by decide +kernel)
theorem wd_805 : (Jvm.Cond.laysFinal "MergeparlourModel" "MergeparlourModel" "begins" "[Z") ∈ wsAll := wdA (List.mem_of_getElem? (i := 805) (by decide +kernel)) (by decide +kernel)
theorem wd_807 : (Jvm.Cond.lays "MergeparlourModel" "MergeparlourModel" "notes" "I") ∈ wsAll := wdA (List.mem_of_getElem? (i := 807) (by decide +kernel)) (by decide +kernel)
theorem wd_809 : (Jvm.Cond.laysFinal "MergeparlourModel" "MergeparlourModel" "noteBy" "[I") ∈ wsAll := wdA (List.mem_of_getElem? (i := 809) (by decide +kernel)) (by decide +kernel)
theorem wd_811 : (Jvm.Cond.laysFinal "MergeparlourModel" "MergeparlourModel" "noteRows" "[I") ∈ wsAll := wdA (List.mem_of_getElem? (i := 811) (by decide +kernel)) (by decide +kernel)
theorem wd_813 : (Jvm.Cond.laysFinal "MergeparlourModel" "MergeparlourModel" "clock" "[I") ∈ wsAll := wdA (List.mem_of_getElem? (i := 813) (by decide +kernel)) (by decide +kernel)
theorem wd_815 : (Jvm.Cond.laysFinal "MergeparlourModel" "MergeparlourModel" "many" "[I") ∈ wsAll := wdA (List.mem_of_getElem? (i := 815) (by decide +kernel)) (by decide +kernel)
theorem wd_817 : (Jvm.Cond.laysFinal "MergeparlourModel" "MergeparlourModel" "knows" "[I") ∈ wsAll := wdA (List.mem_of_getElem? (i := 817) (by decide +kernel)) (by decide +kernel)
theorem wd_819 : (Jvm.Cond.laysFinal "MergeparlourModel" "MergeparlourModel" "has" "[Z") ∈ wsAll := wdA (List.mem_of_getElem? (i := 819) (by decide +kernel)) (by decide +kernel)
theorem wd_821 : (Jvm.Cond.lays "MergeparlourModel" "MergeparlourModel" "sheets" "I") ∈ wsAll := wdA (List.mem_of_getElem? (i := 821) (by decide +kernel)) (by decide +kernel)
theorem wd_823 : (Jvm.Cond.laysFinal "MergeparlourModel" "MergeparlourModel" "printed" "[I") ∈ wsAll := wdA (List.mem_of_getElem? (i := 823) (by decide +kernel)) (by decide +kernel)
theorem wd_825 : (Jvm.Cond.laysFinal "MergeparlourModel" "MergeparlourModel" "printedLine" "[I") ∈ wsAll := wdA (List.mem_of_getElem? (i := 825) (by decide +kernel)) (by decide +kernel)
theorem wd_827 : (Jvm.Cond.laysFinal "MergeparlourModel" "MergeparlourModel" "printedRows" "[I") ∈ wsAll := wdA (List.mem_of_getElem? (i := 827) (by decide +kernel)) (by decide +kernel)
theorem wd_829 : (Jvm.Cond.lays "MergeparlourModel" "MergeparlourModel" "all" "I") ∈ wsAll := wdA (List.mem_of_getElem? (i := 829) (by decide +kernel)) (by decide +kernel)
theorem wd_831 : (Jvm.Cond.laysFinal "MergeparlourModel" "MergeparlourModel" "order" "[I") ∈ wsAll := wdA (List.mem_of_getElem? (i := 831) (by decide +kernel)) (by decide +kernel)
theorem wd_833 : (Jvm.Cond.laysFinal "MergeparlourModel" "MergeparlourModel" "pile" "[I") ∈ wsAll := wdA (List.mem_of_getElem? (i := 833) (by decide +kernel)) (by decide +kernel)
theorem wd_835 : (Jvm.Cond.lays "MergeparlourModel" "MergeparlourModel" "rowsThere" "I") ∈ wsAll := wdA (List.mem_of_getElem? (i := 835) (by decide +kernel)) (by decide +kernel)
theorem wd_837 : (Jvm.Cond.laysFinal "MergeparlourModel" "MergeparlourModel" "there" "[I") ∈ wsAll := wdA (List.mem_of_getElem? (i := 837) (by decide +kernel)) (by decide +kernel)
theorem wd_839 : (Jvm.Cond.laysFinal "MergeparlourModel" "MergeparlourModel" "rowsOf" "[I") ∈ wsAll := wdA (List.mem_of_getElem? (i := 839) (by decide +kernel)) (by decide +kernel)
theorem wd_841 : (Jvm.Cond.laysFinal "MergeparlourModel" "MergeparlourModel" "pageOf" "[I") ∈ wsAll := wdA (List.mem_of_getElem? (i := 841) (by decide +kernel)) (by decide +kernel)
theorem wd_843 : (Jvm.Cond.lays "MergeparlourModel" "MergeparlourModel" "pages" "I") ∈ wsAll := wdA (List.mem_of_getElem? (i := 843) (by decide +kernel)) (by decide +kernel)
theorem wd_845 : (Jvm.Cond.superclass "MergeparlourModel" "java/lang/Object") ∈ wsAll := wdA (List.mem_of_getElem? (i := 845) (by decide +kernel)) (by decide +kernel)
theorem wd_846 : (Jvm.Cond.arrayClass Jvm.ClassFile.FieldType.boolean) ∈ wsAll := wdA (List.mem_of_getElem? (i := 846) (by decide +kernel)) (by decide +kernel)
theorem wd_847 : (Jvm.Cond.methodLink "MergeparlourLaw" (75 : Nat) ({ cls := "MergeparlourModel", name := "thrown", desc := "()I" } : Jvm.MethodName)) ∈ wsAll := wdA (List.mem_of_getElem? (i := 847) (by decide +kernel)) (by decide +kernel)
theorem wd_848 : (Jvm.Cond.instanceMethod ({ cls := "MergeparlourModel", name := "thrown", desc := "()I" } : Jvm.MethodName)) ∈ wsAll := wdA (List.mem_of_getElem? (i := 848) (by decide +kernel)) (by decide +kernel)
theorem wd_849 : (Jvm.Cond.selects "MergeparlourModel" ({ cls := "MergeparlourModel", name := "thrown", desc := "()I" } : Jvm.MethodName) ({ cls := "MergeparlourModel", name := "thrown", desc := "()I" } : Jvm.MethodName)) ∈ wsAll := wdA (List.mem_of_getElem? (i := 849) (by decide +kernel)) (by decide +kernel)
theorem wd_850 : (Jvm.Cond.code ({ cls := "MergeparlourModel", name := "thrown", desc := "()I" } : Jvm.MethodName) prog_9_method_2_code (1 : Nat) (Option.some Jvm.ClassFile.FieldType.int)) ∈ wsAll := wdA (List.mem_of_getElem? (i := 850) (by decide +kernel)) (by decide +kernel)
theorem wd_851 : (Jvm.Cond.methodLink "MergeparlourLaw" (74 : Nat) ({ cls := "MergeparlourModel", name := "insert", desc := "(IIIZ)I" } : Jvm.MethodName)) ∈ wsAll := wdA (List.mem_of_getElem? (i := 851) (by decide +kernel)) (by decide +kernel)
theorem wd_852 : (Jvm.Cond.instanceMethod ({ cls := "MergeparlourModel", name := "insert", desc := "(IIIZ)I" } : Jvm.MethodName)) ∈ wsAll := wdA (List.mem_of_getElem? (i := 852) (by decide +kernel)) (by decide +kernel)
theorem wd_853 : (Jvm.Cond.selects "MergeparlourModel" ({ cls := "MergeparlourModel", name := "insert", desc := "(IIIZ)I" } : Jvm.MethodName) ({ cls := "MergeparlourModel", name := "insert", desc := "(IIIZ)I" } : Jvm.MethodName)) ∈ wsAll := wdA (List.mem_of_getElem? (i := 853) (by decide +kernel)) (by decide +kernel)
theorem wd_854 : (Jvm.Cond.code ({ cls := "MergeparlourModel", name := "insert", desc := "(IIIZ)I" } : Jvm.MethodName) prog_9_method_11_code (7 : Nat) (Option.some Jvm.ClassFile.FieldType.int)) ∈ wsAll := wdA (List.mem_of_getElem? (i := 854) (by decide +kernel)) (by decide +kernel)
theorem wd_855 : (Jvm.Cond.methodLink "MergeparlourModel" (101 : Nat) ({ cls := "MergeparlourModel", name := "isSite", desc := "(I)Z" } : Jvm.MethodName)) ∈ wsAll := wdA (List.mem_of_getElem? (i := 855) (by decide +kernel)) (by decide +kernel)
theorem wd_856 : (Jvm.Cond.static ({ cls := "MergeparlourModel", name := "isSite", desc := "(I)Z" } : Jvm.MethodName)) ∈ wsAll := wdA (List.mem_of_getElem? (i := 856) (by decide +kernel)) (by decide +kernel)
theorem wd_857 : (Jvm.Cond.code ({ cls := "MergeparlourModel", name := "isSite", desc := "(I)Z" } : Jvm.MethodName) prog_9_method_5_code (1 : Nat) (Option.some Jvm.ClassFile.FieldType.boolean)) ∈ wsAll := wdA (List.mem_of_getElem? (i := 857) (by decide +kernel)) (by decide +kernel)
theorem wd_858 : (Jvm.Cond.methodLink "MergeparlourModel" (84 : Nat) ({ cls := "MergeparlourModel", name := "in", desc := "(III)Z" } : Jvm.MethodName)) ∈ wsAll := wdA (List.mem_of_getElem? (i := 858) (by decide +kernel)) (by decide +kernel)
theorem wd_859 : (Jvm.Cond.static ({ cls := "MergeparlourModel", name := "in", desc := "(III)Z" } : Jvm.MethodName)) ∈ wsAll := wdA (List.mem_of_getElem? (i := 859) (by decide +kernel)) (by decide +kernel)
theorem wd_860 : (Jvm.Cond.code ({ cls := "MergeparlourModel", name := "in", desc := "(III)Z" } : Jvm.MethodName) prog_9_method_4_code (3 : Nat) (Option.some Jvm.ClassFile.FieldType.boolean)) ∈ wsAll := wdA (List.mem_of_getElem? (i := 860) (by decide +kernel)) (by decide +kernel)
theorem wd_861 : (Jvm.Cond.methodLink "MergeparlourModel" (105 : Nat) ({ cls := "MergeparlourModel", name := "knowsLine", desc := "(II)Z" } : Jvm.MethodName)) ∈ wsAll := wdA (List.mem_of_getElem? (i := 861) (by decide +kernel)) (by decide +kernel)
theorem wd_863 : (Jvm.Cond.instanceMethod ({ cls := "MergeparlourModel", name := "knowsLine", desc := "(II)Z" } : Jvm.MethodName)) ∈ wsAll := wdA (List.mem_of_getElem? (i := 863) (by decide +kernel)) (by decide +kernel)
theorem wd_864 : (Jvm.Cond.code ({ cls := "MergeparlourModel", name := "knowsLine", desc := "(II)Z" } : Jvm.MethodName) prog_9_method_6_code (3 : Nat) (Option.some Jvm.ClassFile.FieldType.boolean)) ∈ wsAll := wdA (List.mem_of_getElem? (i := 864) (by decide +kernel)) (by decide +kernel)
theorem wd_865 : (Jvm.Cond.methodLink "MergeparlourModel" (109 : Nat) ({ cls := "MergeparlourModel", name := "goesWell", desc := "(I)Z" } : Jvm.MethodName)) ∈ wsAll := wdA (List.mem_of_getElem? (i := 865) (by decide +kernel)) (by decide +kernel)
theorem wd_867 : (Jvm.Cond.instanceMethod ({ cls := "MergeparlourModel", name := "goesWell", desc := "(I)Z" } : Jvm.MethodName)) ∈ wsAll := wdA (List.mem_of_getElem? (i := 867) (by decide +kernel)) (by decide +kernel)
theorem wd_868 : (Jvm.Cond.code ({ cls := "MergeparlourModel", name := "goesWell", desc := "(I)Z" } : Jvm.MethodName) prog_9_method_3_code (2 : Nat) (Option.some Jvm.ClassFile.FieldType.boolean)) ∈ wsAll := wdA (List.mem_of_getElem? (i := 868) (by decide +kernel)) (by decide +kernel)
theorem wd_869 : (Jvm.Cond.methodLink "MergeparlourModel" (112 : Nat) ({ cls := "MergeparlourModel", name := "deed", desc := "(IIII)I" } : Jvm.MethodName)) ∈ wsAll := wdA (List.mem_of_getElem? (i := 869) (by decide +kernel)) (by decide +kernel)
theorem wd_871 : (Jvm.Cond.instanceMethod ({ cls := "MergeparlourModel", name := "deed", desc := "(IIII)I" } : Jvm.MethodName)) ∈ wsAll := wdA (List.mem_of_getElem? (i := 871) (by decide +kernel)) (by decide +kernel)
theorem wd_872 : (Jvm.Cond.code ({ cls := "MergeparlourModel", name := "deed", desc := "(IIII)I" } : Jvm.MethodName) prog_9_method_10_code (5 : Nat) (Option.some Jvm.ClassFile.FieldType.int)) ∈ wsAll := wdA (List.mem_of_getElem? (i := 872) (by decide +kernel)) (by decide +kernel)
theorem wd_873 : (Jvm.Cond.methodLink "MergeparlourModel" (97 : Nat) ({ cls := "MergeparlourModel", name := "learn", desc := "(II)V" } : Jvm.MethodName)) ∈ wsAll := wdA (List.mem_of_getElem? (i := 873) (by decide +kernel)) (by decide +kernel)
theorem wd_875 : (Jvm.Cond.instanceMethod ({ cls := "MergeparlourModel", name := "learn", desc := "(II)V" } : Jvm.MethodName)) ∈ wsAll := wdA (List.mem_of_getElem? (i := 875) (by decide +kernel)) (by decide +kernel)
theorem wd_876 : (Jvm.Cond.code ({ cls := "MergeparlourModel", name := "learn", desc := "(II)V" } : Jvm.MethodName) prog_9_method_9_code (3 : Nat) (Option.none : Option Jvm.ClassFile.FieldType)) ∈ wsAll := wdA (List.mem_of_getElem? (i := 876) (by decide +kernel)) (by decide +kernel)
theorem wd_877 : (Jvm.Cond.methodLink "MergeparlourLaw" (81 : Nat) ({ cls := "MergeparlourModel", name := "remove", desc := "(II)I" } : Jvm.MethodName)) ∈ wsAll := wdA (List.mem_of_getElem? (i := 877) (by decide +kernel)) (by decide +kernel)
theorem wd_878 : (Jvm.Cond.instanceMethod ({ cls := "MergeparlourModel", name := "remove", desc := "(II)I" } : Jvm.MethodName)) ∈ wsAll := wdA (List.mem_of_getElem? (i := 878) (by decide +kernel)) (by decide +kernel)
theorem wd_879 : (Jvm.Cond.selects "MergeparlourModel" ({ cls := "MergeparlourModel", name := "remove", desc := "(II)I" } : Jvm.MethodName) ({ cls := "MergeparlourModel", name := "remove", desc := "(II)I" } : Jvm.MethodName)) ∈ wsAll := wdA (List.mem_of_getElem? (i := 879) (by decide +kernel)) (by decide +kernel)
theorem wd_880 : (Jvm.Cond.code ({ cls := "MergeparlourModel", name := "remove", desc := "(II)I" } : Jvm.MethodName) prog_9_method_12_code (5 : Nat) (Option.some Jvm.ClassFile.FieldType.int)) ∈ wsAll := wdA (List.mem_of_getElem? (i := 880) (by decide +kernel)) (by decide +kernel)
theorem wd_881 : (Jvm.Cond.methodLink "MergeparlourModel" (116 : Nat) ({ cls := "MergeparlourModel", name := "isThere", desc := "(II)Z" } : Jvm.MethodName)) ∈ wsAll := wdA (List.mem_of_getElem? (i := 881) (by decide +kernel)) (by decide +kernel)
theorem wd_883 : (Jvm.Cond.instanceMethod ({ cls := "MergeparlourModel", name := "isThere", desc := "(II)Z" } : Jvm.MethodName)) ∈ wsAll := wdA (List.mem_of_getElem? (i := 883) (by decide +kernel)) (by decide +kernel)
theorem wd_884 : (Jvm.Cond.code ({ cls := "MergeparlourModel", name := "isThere", desc := "(II)Z" } : Jvm.MethodName) prog_9_method_8_code (5 : Nat) (Option.some Jvm.ClassFile.FieldType.boolean)) ∈ wsAll := wdA (List.mem_of_getElem? (i := 884) (by decide +kernel)) (by decide +kernel)
theorem wd_885 : (Jvm.Cond.methodLink "MergeparlourModel" (119 : Nat) ({ cls := "MergeparlourModel", name := "lay", desc := "(I)V" } : Jvm.MethodName)) ∈ wsAll := wdA (List.mem_of_getElem? (i := 885) (by decide +kernel)) (by decide +kernel)
theorem wd_887 : (Jvm.Cond.instanceMethod ({ cls := "MergeparlourModel", name := "lay", desc := "(I)V" } : Jvm.MethodName)) ∈ wsAll := wdA (List.mem_of_getElem? (i := 887) (by decide +kernel)) (by decide +kernel)
theorem wd_888 : (Jvm.Cond.code ({ cls := "MergeparlourModel", name := "lay", desc := "(I)V" } : Jvm.MethodName) prog_9_method_24_code (5 : Nat) (Option.none : Option Jvm.ClassFile.FieldType)) ∈ wsAll := wdA (List.mem_of_getElem? (i := 888) (by decide +kernel)) (by decide +kernel)
theorem wd_889 : (Jvm.Cond.methodLink "MergeparlourModel" (149 : Nat) ({ cls := "MergeparlourModel", name := "arrange", desc := "(I)V" } : Jvm.MethodName)) ∈ wsAll := wdA (List.mem_of_getElem? (i := 889) (by decide +kernel)) (by decide +kernel)
theorem wd_891 : (Jvm.Cond.instanceMethod ({ cls := "MergeparlourModel", name := "arrange", desc := "(I)V" } : Jvm.MethodName)) ∈ wsAll := wdA (List.mem_of_getElem? (i := 891) (by decide +kernel)) (by decide +kernel)
theorem wd_892 : (Jvm.Cond.code ({ cls := "MergeparlourModel", name := "arrange", desc := "(I)V" } : Jvm.MethodName) prog_9_method_18_code (4 : Nat) (Option.none : Option Jvm.ClassFile.FieldType)) ∈ wsAll := wdA (List.mem_of_getElem? (i := 892) (by decide +kernel)) (by decide +kernel)
theorem wd_893 : (Jvm.Cond.methodLink "MergeparlourModel" (135 : Nat) ({ cls := "MergeparlourModel", name := "pileUp", desc := "(III)I" } : Jvm.MethodName)) ∈ wsAll := wdA (List.mem_of_getElem? (i := 893) (by decide +kernel)) (by decide +kernel)
theorem wd_895 : (Jvm.Cond.instanceMethod ({ cls := "MergeparlourModel", name := "pileUp", desc := "(III)I" } : Jvm.MethodName)) ∈ wsAll := wdA (List.mem_of_getElem? (i := 895) (by decide +kernel)) (by decide +kernel)
theorem wd_896 : (Jvm.Cond.code ({ cls := "MergeparlourModel", name := "pileUp", desc := "(III)I" } : Jvm.MethodName) prog_9_method_17_code (7 : Nat) (Option.some Jvm.ClassFile.FieldType.int)) ∈ wsAll := wdA (List.mem_of_getElem? (i := 896) (by decide +kernel)) (by decide +kernel)
theorem wd_897 : (Jvm.Cond.methodLink "MergeparlourModel" (129 : Nat) ({ cls := "MergeparlourModel", name := "isGreater", desc := "(II)Z" } : Jvm.MethodName)) ∈ wsAll := wdA (List.mem_of_getElem? (i := 897) (by decide +kernel)) (by decide +kernel)
theorem wd_899 : (Jvm.Cond.instanceMethod ({ cls := "MergeparlourModel", name := "isGreater", desc := "(II)Z" } : Jvm.MethodName)) ∈ wsAll := wdA (List.mem_of_getElem? (i := 899) (by decide +kernel)) (by decide +kernel)
theorem wd_900 : (Jvm.Cond.code ({ cls := "MergeparlourModel", name := "isGreater", desc := "(II)Z" } : Jvm.MethodName) prog_9_method_16_code (3 : Nat) (Option.some Jvm.ClassFile.FieldType.boolean)) ∈ wsAll := wdA (List.mem_of_getElem? (i := 900) (by decide +kernel)) (by decide +kernel)
theorem wd_901 : (Jvm.Cond.methodLink "MergeparlourModel" (152 : Nat) ({ cls := "MergeparlourModel", name := "layRows", desc := "(I)V" } : Jvm.MethodName)) ∈ wsAll := wdA (List.mem_of_getElem? (i := 901) (by decide +kernel)) (by decide +kernel)
theorem wd_903 : (Jvm.Cond.instanceMethod ({ cls := "MergeparlourModel", name := "layRows", desc := "(I)V" } : Jvm.MethodName)) ∈ wsAll := wdA (List.mem_of_getElem? (i := 903) (by decide +kernel)) (by decide +kernel)
theorem wd_904 : (Jvm.Cond.code ({ cls := "MergeparlourModel", name := "layRows", desc := "(I)V" } : Jvm.MethodName) prog_9_method_20_code (5 : Nat) (Option.none : Option Jvm.ClassFile.FieldType)) ∈ wsAll := wdA (List.mem_of_getElem? (i := 904) (by decide +kernel)) (by decide +kernel)
theorem wd_905 : (Jvm.Cond.methodLink "MergeparlourModel" (126 : Nat) ({ cls := "MergeparlourModel", name := "knowsNote", desc := "(II)Z" } : Jvm.MethodName)) ∈ wsAll := wdA (List.mem_of_getElem? (i := 905) (by decide +kernel)) (by decide +kernel)
theorem wd_907 : (Jvm.Cond.instanceMethod ({ cls := "MergeparlourModel", name := "knowsNote", desc := "(II)Z" } : Jvm.MethodName)) ∈ wsAll := wdA (List.mem_of_getElem? (i := 907) (by decide +kernel)) (by decide +kernel)
theorem wd_908 : (Jvm.Cond.code ({ cls := "MergeparlourModel", name := "knowsNote", desc := "(II)Z" } : Jvm.MethodName) prog_9_method_7_code (3 : Nat) (Option.some Jvm.ClassFile.FieldType.boolean)) ∈ wsAll := wdA (List.mem_of_getElem? (i := 908) (by decide +kernel)) (by decide +kernel)
theorem wd_909 : (Jvm.Cond.methodLink "MergeparlourModel" (139 : Nat) ({ cls := "MergeparlourModel", name := "placeOf", desc := "(II)I" } : Jvm.MethodName)) ∈ wsAll := wdA (List.mem_of_getElem? (i := 909) (by decide +kernel)) (by decide +kernel)
theorem wd_911 : (Jvm.Cond.instanceMethod ({ cls := "MergeparlourModel", name := "placeOf", desc := "(II)I" } : Jvm.MethodName)) ∈ wsAll := wdA (List.mem_of_getElem? (i := 911) (by decide +kernel)) (by decide +kernel)
theorem wd_912 : (Jvm.Cond.code ({ cls := "MergeparlourModel", name := "placeOf", desc := "(II)I" } : Jvm.MethodName) prog_9_method_19_code (6 : Nat) (Option.some Jvm.ClassFile.FieldType.int)) ∈ wsAll := wdA (List.mem_of_getElem? (i := 912) (by decide +kernel)) (by decide +kernel)
theorem wd_913 : (Jvm.Cond.methodLink "MergeparlourModel" (158 : Nat) ({ cls := "MergeparlourModel", name := "endOf", desc := "(I)I" } : Jvm.MethodName)) ∈ wsAll := wdA (List.mem_of_getElem? (i := 913) (by decide +kernel)) (by decide +kernel)
theorem wd_915 : (Jvm.Cond.instanceMethod ({ cls := "MergeparlourModel", name := "endOf", desc := "(I)I" } : Jvm.MethodName)) ∈ wsAll := wdA (List.mem_of_getElem? (i := 915) (by decide +kernel)) (by decide +kernel)
theorem wd_916 : (Jvm.Cond.code ({ cls := "MergeparlourModel", name := "endOf", desc := "(I)I" } : Jvm.MethodName) prog_9_method_23_code (5 : Nat) (Option.some Jvm.ClassFile.FieldType.int)) ∈ wsAll := wdA (List.mem_of_getElem? (i := 916) (by decide +kernel)) (by decide +kernel)
theorem wd_917 : (Jvm.Cond.methodLink "MergeparlourModel" (146 : Nat) ({ cls := "MergeparlourModel", name := "isBad", desc := "(I)Z" } : Jvm.MethodName)) ∈ wsAll := wdA (List.mem_of_getElem? (i := 917) (by decide +kernel)) (by decide +kernel)
theorem wd_919 : (Jvm.Cond.instanceMethod ({ cls := "MergeparlourModel", name := "isBad", desc := "(I)Z" } : Jvm.MethodName)) ∈ wsAll := wdA (List.mem_of_getElem? (i := 919) (by decide +kernel)) (by decide +kernel)
theorem wd_920 : (Jvm.Cond.code ({ cls := "MergeparlourModel", name := "isBad", desc := "(I)Z" } : Jvm.MethodName) prog_9_method_22_code (3 : Nat) (Option.some Jvm.ClassFile.FieldType.boolean)) ∈ wsAll := wdA (List.mem_of_getElem? (i := 920) (by decide +kernel)) (by decide +kernel)
theorem wd_921 : (Jvm.Cond.methodLink "MergeparlourModel" (143 : Nat) ({ cls := "MergeparlourModel", name := "isBegun", desc := "(I)Z" } : Jvm.MethodName)) ∈ wsAll := wdA (List.mem_of_getElem? (i := 921) (by decide +kernel)) (by decide +kernel)
theorem wd_923 : (Jvm.Cond.instanceMethod ({ cls := "MergeparlourModel", name := "isBegun", desc := "(I)Z" } : Jvm.MethodName)) ∈ wsAll := wdA (List.mem_of_getElem? (i := 923) (by decide +kernel)) (by decide +kernel)
theorem wd_924 : (Jvm.Cond.code ({ cls := "MergeparlourModel", name := "isBegun", desc := "(I)Z" } : Jvm.MethodName) prog_9_method_21_code (2 : Nat) (Option.some Jvm.ClassFile.FieldType.boolean)) ∈ wsAll := wdA (List.mem_of_getElem? (i := 924) (by decide +kernel)) (by decide +kernel)
theorem wd_925 : (Jvm.Cond.methodLink "MergeparlourLaw" (85 : Nat) ({ cls := "MergeparlourModel", name := "note", desc := "(III)I" } : Jvm.MethodName)) ∈ wsAll := wdA (List.mem_of_getElem? (i := 925) (by decide +kernel)) (by decide +kernel)
theorem wd_926 : (Jvm.Cond.instanceMethod ({ cls := "MergeparlourModel", name := "note", desc := "(III)I" } : Jvm.MethodName)) ∈ wsAll := wdA (List.mem_of_getElem? (i := 926) (by decide +kernel)) (by decide +kernel)
theorem wd_927 : (Jvm.Cond.selects "MergeparlourModel" ({ cls := "MergeparlourModel", name := "note", desc := "(III)I" } : Jvm.MethodName) ({ cls := "MergeparlourModel", name := "note", desc := "(III)I" } : Jvm.MethodName)) ∈ wsAll := wdA (List.mem_of_getElem? (i := 927) (by decide +kernel)) (by decide +kernel)
theorem wd_928 : (Jvm.Cond.code ({ cls := "MergeparlourModel", name := "note", desc := "(III)I" } : Jvm.MethodName) prog_9_method_13_code (6 : Nat) (Option.some Jvm.ClassFile.FieldType.int)) ∈ wsAll := wdA (List.mem_of_getElem? (i := 928) (by decide +kernel)) (by decide +kernel)
theorem wd_929 : (Jvm.Cond.methodLink "MergeparlourLaw" (89 : Nat) ({ cls := "MergeparlourModel", name := "move", desc := "(III)V" } : Jvm.MethodName)) ∈ wsAll := wdA (List.mem_of_getElem? (i := 929) (by decide +kernel)) (by decide +kernel)
theorem wd_930 : (Jvm.Cond.instanceMethod ({ cls := "MergeparlourModel", name := "move", desc := "(III)V" } : Jvm.MethodName)) ∈ wsAll := wdA (List.mem_of_getElem? (i := 930) (by decide +kernel)) (by decide +kernel)
theorem wd_931 : (Jvm.Cond.selects "MergeparlourModel" ({ cls := "MergeparlourModel", name := "move", desc := "(III)V" } : Jvm.MethodName) ({ cls := "MergeparlourModel", name := "move", desc := "(III)V" } : Jvm.MethodName)) ∈ wsAll := wdA (List.mem_of_getElem? (i := 931) (by decide +kernel)) (by decide +kernel)
theorem wd_932 : (Jvm.Cond.code ({ cls := "MergeparlourModel", name := "move", desc := "(III)V" } : Jvm.MethodName) prog_9_method_14_code (6 : Nat) (Option.none : Option Jvm.ClassFile.FieldType)) ∈ wsAll := wdA (List.mem_of_getElem? (i := 932) (by decide +kernel)) (by decide +kernel)
theorem wd_933 : (Jvm.Cond.methodLink "MergeparlourLaw" (92 : Nat) ({ cls := "MergeparlourModel", name := "sync", desc := "(II)I" } : Jvm.MethodName)) ∈ wsAll := wdA (List.mem_of_getElem? (i := 933) (by decide +kernel)) (by decide +kernel)
theorem wd_934 : (Jvm.Cond.instanceMethod ({ cls := "MergeparlourModel", name := "sync", desc := "(II)I" } : Jvm.MethodName)) ∈ wsAll := wdA (List.mem_of_getElem? (i := 934) (by decide +kernel)) (by decide +kernel)
theorem wd_935 : (Jvm.Cond.selects "MergeparlourModel" ({ cls := "MergeparlourModel", name := "sync", desc := "(II)I" } : Jvm.MethodName) ({ cls := "MergeparlourModel", name := "sync", desc := "(II)I" } : Jvm.MethodName)) ∈ wsAll := wdA (List.mem_of_getElem? (i := 935) (by decide +kernel)) (by decide +kernel)
theorem wd_936 : (Jvm.Cond.code ({ cls := "MergeparlourModel", name := "sync", desc := "(II)I" } : Jvm.MethodName) prog_9_method_15_code (6 : Nat) (Option.some Jvm.ClassFile.FieldType.int)) ∈ wsAll := wdA (List.mem_of_getElem? (i := 936) (by decide +kernel)) (by decide +kernel)
theorem wd_937 : (Jvm.Cond.methodLink "MergeparlourLaw" (96 : Nat) ({ cls := "MergeparlourModel", name := "print", desc := "()I" } : Jvm.MethodName)) ∈ wsAll := wdA (List.mem_of_getElem? (i := 937) (by decide +kernel)) (by decide +kernel)
theorem wd_938 : (Jvm.Cond.instanceMethod ({ cls := "MergeparlourModel", name := "print", desc := "()I" } : Jvm.MethodName)) ∈ wsAll := wdA (List.mem_of_getElem? (i := 938) (by decide +kernel)) (by decide +kernel)
theorem wd_939 : (Jvm.Cond.selects "MergeparlourModel" ({ cls := "MergeparlourModel", name := "print", desc := "()I" } : Jvm.MethodName) ({ cls := "MergeparlourModel", name := "print", desc := "()I" } : Jvm.MethodName)) ∈ wsAll := wdA (List.mem_of_getElem? (i := 939) (by decide +kernel)) (by decide +kernel)
theorem wd_940 : (Jvm.Cond.code ({ cls := "MergeparlourModel", name := "print", desc := "()I" } : Jvm.MethodName) prog_9_method_25_code (4 : Nat) (Option.some Jvm.ClassFile.FieldType.int)) ∈ wsAll := wdA (List.mem_of_getElem? (i := 940) (by decide +kernel)) (by decide +kernel)
theorem wd_941 : (Jvm.Cond.methodLink "MergeparlourLaw" (100 : Nat) ({ cls := "MergeparlourModel", name := "sheets", desc := "()I" } : Jvm.MethodName)) ∈ wsAll := wdA (List.mem_of_getElem? (i := 941) (by decide +kernel)) (by decide +kernel)
theorem wd_942 : (Jvm.Cond.instanceMethod ({ cls := "MergeparlourModel", name := "sheets", desc := "()I" } : Jvm.MethodName)) ∈ wsAll := wdA (List.mem_of_getElem? (i := 942) (by decide +kernel)) (by decide +kernel)
theorem wd_943 : (Jvm.Cond.selects "MergeparlourModel" ({ cls := "MergeparlourModel", name := "sheets", desc := "()I" } : Jvm.MethodName) ({ cls := "MergeparlourModel", name := "sheets", desc := "()I" } : Jvm.MethodName)) ∈ wsAll := wdA (List.mem_of_getElem? (i := 943) (by decide +kernel)) (by decide +kernel)
theorem wd_944 : (Jvm.Cond.code ({ cls := "MergeparlourModel", name := "sheets", desc := "()I" } : Jvm.MethodName) prog_9_method_26_code (1 : Nat) (Option.some Jvm.ClassFile.FieldType.int)) ∈ wsAll := wdA (List.mem_of_getElem? (i := 944) (by decide +kernel)) (by decide +kernel)
theorem wd_945 : (Jvm.Cond.methodLink "MergeparlourLaw" (104 : Nat) ({ cls := "MergeparlourModel", name := "differs", desc := "(I)I" } : Jvm.MethodName)) ∈ wsAll := wdA (List.mem_of_getElem? (i := 945) (by decide +kernel)) (by decide +kernel)
theorem wd_946 : (Jvm.Cond.instanceMethod ({ cls := "MergeparlourModel", name := "differs", desc := "(I)I" } : Jvm.MethodName)) ∈ wsAll := wdA (List.mem_of_getElem? (i := 946) (by decide +kernel)) (by decide +kernel)
theorem wd_947 : (Jvm.Cond.selects "MergeparlourModel" ({ cls := "MergeparlourModel", name := "differs", desc := "(I)I" } : Jvm.MethodName) ({ cls := "MergeparlourModel", name := "differs", desc := "(I)I" } : Jvm.MethodName)) ∈ wsAll := wdA (List.mem_of_getElem? (i := 947) (by decide +kernel)) (by decide +kernel)
theorem wd_948 : (Jvm.Cond.code ({ cls := "MergeparlourModel", name := "differs", desc := "(I)I" } : Jvm.MethodName) prog_9_method_28_code (2 : Nat) (Option.some Jvm.ClassFile.FieldType.int)) ∈ wsAll := wdA (List.mem_of_getElem? (i := 948) (by decide +kernel)) (by decide +kernel)
theorem wd_949 : (Jvm.Cond.methodLink "MergeparlourModel" (165 : Nat) ({ cls := "MergeparlourModel", name := "unlike", desc := "(I)I" } : Jvm.MethodName)) ∈ wsAll := wdA (List.mem_of_getElem? (i := 949) (by decide +kernel)) (by decide +kernel)
theorem wd_951 : (Jvm.Cond.instanceMethod ({ cls := "MergeparlourModel", name := "unlike", desc := "(I)I" } : Jvm.MethodName)) ∈ wsAll := wdA (List.mem_of_getElem? (i := 951) (by decide +kernel)) (by decide +kernel)
theorem wd_952 : (Jvm.Cond.code ({ cls := "MergeparlourModel", name := "unlike", desc := "(I)I" } : Jvm.MethodName) prog_9_method_27_code (8 : Nat) (Option.some Jvm.ClassFile.FieldType.int)) ∈ wsAll := wdA (List.mem_of_getElem? (i := 952) (by decide +kernel)) (by decide +kernel)
theorem wd_953 : (Jvm.Cond.methodLink "MergeparlourLaw" (108 : Nat) ({ cls := "MergeparlourModel", name := "cost", desc := "()I" } : Jvm.MethodName)) ∈ wsAll := wdA (List.mem_of_getElem? (i := 953) (by decide +kernel)) (by decide +kernel)
theorem wd_954 : (Jvm.Cond.instanceMethod ({ cls := "MergeparlourModel", name := "cost", desc := "()I" } : Jvm.MethodName)) ∈ wsAll := wdA (List.mem_of_getElem? (i := 954) (by decide +kernel)) (by decide +kernel)
theorem wd_955 : (Jvm.Cond.selects "MergeparlourModel" ({ cls := "MergeparlourModel", name := "cost", desc := "()I" } : Jvm.MethodName) ({ cls := "MergeparlourModel", name := "cost", desc := "()I" } : Jvm.MethodName)) ∈ wsAll := wdA (List.mem_of_getElem? (i := 955) (by decide +kernel)) (by decide +kernel)
theorem wd_956 : (Jvm.Cond.code ({ cls := "MergeparlourModel", name := "cost", desc := "()I" } : Jvm.MethodName) prog_9_method_29_code (6 : Nat) (Option.some Jvm.ClassFile.FieldType.int)) ∈ wsAll := wdA (List.mem_of_getElem? (i := 956) (by decide +kernel)) (by decide +kernel)
theorem wd_957 : (Jvm.Cond.methodLink "MergeparlourLaw" (111 : Nat) ({ cls := "MergeparlourModel", name := "lines", desc := "(I)I" } : Jvm.MethodName)) ∈ wsAll := wdA (List.mem_of_getElem? (i := 957) (by decide +kernel)) (by decide +kernel)
theorem wd_958 : (Jvm.Cond.instanceMethod ({ cls := "MergeparlourModel", name := "lines", desc := "(I)I" } : Jvm.MethodName)) ∈ wsAll := wdA (List.mem_of_getElem? (i := 958) (by decide +kernel)) (by decide +kernel)
theorem wd_959 : (Jvm.Cond.selects "MergeparlourModel" ({ cls := "MergeparlourModel", name := "lines", desc := "(I)I" } : Jvm.MethodName) ({ cls := "MergeparlourModel", name := "lines", desc := "(I)I" } : Jvm.MethodName)) ∈ wsAll := wdA (List.mem_of_getElem? (i := 959) (by decide +kernel)) (by decide +kernel)
theorem wd_960 : (Jvm.Cond.code ({ cls := "MergeparlourModel", name := "lines", desc := "(I)I" } : Jvm.MethodName) prog_9_method_30_code (2 : Nat) (Option.some Jvm.ClassFile.FieldType.int)) ∈ wsAll := wdA (List.mem_of_getElem? (i := 960) (by decide +kernel)) (by decide +kernel)
theorem wd_961 : (Jvm.Cond.methodLink "MergeparlourLaw" (114 : Nat) ({ cls := "MergeparlourModel", name := "lineAt", desc := "(III)I" } : Jvm.MethodName)) ∈ wsAll := wdA (List.mem_of_getElem? (i := 961) (by decide +kernel)) (by decide +kernel)
theorem wd_962 : (Jvm.Cond.instanceMethod ({ cls := "MergeparlourModel", name := "lineAt", desc := "(III)I" } : Jvm.MethodName)) ∈ wsAll := wdA (List.mem_of_getElem? (i := 962) (by decide +kernel)) (by decide +kernel)
theorem wd_963 : (Jvm.Cond.selects "MergeparlourModel" ({ cls := "MergeparlourModel", name := "lineAt", desc := "(III)I" } : Jvm.MethodName) ({ cls := "MergeparlourModel", name := "lineAt", desc := "(III)I" } : Jvm.MethodName)) ∈ wsAll := wdA (List.mem_of_getElem? (i := 963) (by decide +kernel)) (by decide +kernel)
theorem wd_964 : (Jvm.Cond.code ({ cls := "MergeparlourModel", name := "lineAt", desc := "(III)I" } : Jvm.MethodName) prog_9_method_31_code (5 : Nat) (Option.some Jvm.ClassFile.FieldType.int)) ∈ wsAll := wdA (List.mem_of_getElem? (i := 964) (by decide +kernel)) (by decide +kernel)
theorem wd_965 : (Jvm.Cond.methodLink "MergeparlourLaw" (117 : Nat) ({ cls := "MergeparlourModel", name := "lineAnew", desc := "(II)I" } : Jvm.MethodName)) ∈ wsAll := wdA (List.mem_of_getElem? (i := 965) (by decide +kernel)) (by decide +kernel)
theorem wd_966 : (Jvm.Cond.instanceMethod ({ cls := "MergeparlourModel", name := "lineAnew", desc := "(II)I" } : Jvm.MethodName)) ∈ wsAll := wdA (List.mem_of_getElem? (i := 966) (by decide +kernel)) (by decide +kernel)
theorem wd_967 : (Jvm.Cond.selects "MergeparlourModel" ({ cls := "MergeparlourModel", name := "lineAnew", desc := "(II)I" } : Jvm.MethodName) ({ cls := "MergeparlourModel", name := "lineAnew", desc := "(II)I" } : Jvm.MethodName)) ∈ wsAll := wdA (List.mem_of_getElem? (i := 967) (by decide +kernel)) (by decide +kernel)
theorem wd_968 : (Jvm.Cond.code ({ cls := "MergeparlourModel", name := "lineAnew", desc := "(II)I" } : Jvm.MethodName) prog_9_method_32_code (3 : Nat) (Option.some Jvm.ClassFile.FieldType.int)) ∈ wsAll := wdA (List.mem_of_getElem? (i := 968) (by decide +kernel)) (by decide +kernel)
theorem wd_969 : (Jvm.Cond.methodLink "MergeparlourLaw" (120 : Nat) ({ cls := "MergeparlourModel", name := "noteAt", desc := "(II)I" } : Jvm.MethodName)) ∈ wsAll := wdA (List.mem_of_getElem? (i := 969) (by decide +kernel)) (by decide +kernel)
theorem wd_970 : (Jvm.Cond.instanceMethod ({ cls := "MergeparlourModel", name := "noteAt", desc := "(II)I" } : Jvm.MethodName)) ∈ wsAll := wdA (List.mem_of_getElem? (i := 970) (by decide +kernel)) (by decide +kernel)
theorem wd_971 : (Jvm.Cond.selects "MergeparlourModel" ({ cls := "MergeparlourModel", name := "noteAt", desc := "(II)I" } : Jvm.MethodName) ({ cls := "MergeparlourModel", name := "noteAt", desc := "(II)I" } : Jvm.MethodName)) ∈ wsAll := wdA (List.mem_of_getElem? (i := 971) (by decide +kernel)) (by decide +kernel)
theorem wd_972 : (Jvm.Cond.code ({ cls := "MergeparlourModel", name := "noteAt", desc := "(II)I" } : Jvm.MethodName) prog_9_method_33_code (3 : Nat) (Option.some Jvm.ClassFile.FieldType.int)) ∈ wsAll := wdA (List.mem_of_getElem? (i := 972) (by decide +kernel)) (by decide +kernel)
theorem wd_973 : (Jvm.Cond.methodLink "MergeparlourLaw" (123 : Nat) ({ cls := "MergeparlourModel", name := "pages", desc := "(I)I" } : Jvm.MethodName)) ∈ wsAll := wdA (List.mem_of_getElem? (i := 973) (by decide +kernel)) (by decide +kernel)
theorem wd_974 : (Jvm.Cond.instanceMethod ({ cls := "MergeparlourModel", name := "pages", desc := "(I)I" } : Jvm.MethodName)) ∈ wsAll := wdA (List.mem_of_getElem? (i := 974) (by decide +kernel)) (by decide +kernel)
theorem wd_975 : (Jvm.Cond.selects "MergeparlourModel" ({ cls := "MergeparlourModel", name := "pages", desc := "(I)I" } : Jvm.MethodName) ({ cls := "MergeparlourModel", name := "pages", desc := "(I)I" } : Jvm.MethodName)) ∈ wsAll := wdA (List.mem_of_getElem? (i := 975) (by decide +kernel)) (by decide +kernel)
theorem wd_976 : (Jvm.Cond.code ({ cls := "MergeparlourModel", name := "pages", desc := "(I)I" } : Jvm.MethodName) prog_9_method_34_code (2 : Nat) (Option.some Jvm.ClassFile.FieldType.int)) ∈ wsAll := wdA (List.mem_of_getElem? (i := 976) (by decide +kernel)) (by decide +kernel)
theorem wd_977 : (Jvm.Cond.methodLink "MergeparlourLaw" (126 : Nat) ({ cls := "MergeparlourModel", name := "aheadAnew", desc := "(II)I" } : Jvm.MethodName)) ∈ wsAll := wdA (List.mem_of_getElem? (i := 977) (by decide +kernel)) (by decide +kernel)
theorem wd_978 : (Jvm.Cond.instanceMethod ({ cls := "MergeparlourModel", name := "aheadAnew", desc := "(II)I" } : Jvm.MethodName)) ∈ wsAll := wdA (List.mem_of_getElem? (i := 978) (by decide +kernel)) (by decide +kernel)
theorem wd_979 : (Jvm.Cond.selects "MergeparlourModel" ({ cls := "MergeparlourModel", name := "aheadAnew", desc := "(II)I" } : Jvm.MethodName) ({ cls := "MergeparlourModel", name := "aheadAnew", desc := "(II)I" } : Jvm.MethodName)) ∈ wsAll := wdA (List.mem_of_getElem? (i := 979) (by decide +kernel)) (by decide +kernel)
theorem wd_980 : (Jvm.Cond.code ({ cls := "MergeparlourModel", name := "aheadAnew", desc := "(II)I" } : Jvm.MethodName) prog_9_method_35_code (5 : Nat) (Option.some Jvm.ClassFile.FieldType.int)) ∈ wsAll := wdA (List.mem_of_getElem? (i := 980) (by decide +kernel)) (by decide +kernel)
theorem wd_981 : (Jvm.Cond.methodLink "MergeparlourLaw" (129 : Nat) ({ cls := "MergeparlourModel", name := "known", desc := "(I)I" } : Jvm.MethodName)) ∈ wsAll := wdA (List.mem_of_getElem? (i := 981) (by decide +kernel)) (by decide +kernel)
theorem wd_982 : (Jvm.Cond.instanceMethod ({ cls := "MergeparlourModel", name := "known", desc := "(I)I" } : Jvm.MethodName)) ∈ wsAll := wdA (List.mem_of_getElem? (i := 982) (by decide +kernel)) (by decide +kernel)
theorem wd_983 : (Jvm.Cond.selects "MergeparlourModel" ({ cls := "MergeparlourModel", name := "known", desc := "(I)I" } : Jvm.MethodName) ({ cls := "MergeparlourModel", name := "known", desc := "(I)I" } : Jvm.MethodName)) ∈ wsAll := wdA (List.mem_of_getElem? (i := 983) (by decide +kernel)) (by decide +kernel)
theorem wd_984 : (Jvm.Cond.code ({ cls := "MergeparlourModel", name := "known", desc := "(I)I" } : Jvm.MethodName) prog_9_method_36_code (2 : Nat) (Option.some Jvm.ClassFile.FieldType.int)) ∈ wsAll := wdA (List.mem_of_getElem? (i := 984) (by decide +kernel)) (by decide +kernel)
theorem wd_985 : (Jvm.Cond.arrayClass Jvm.ClassFile.FieldType.long) ∈ wsAll := wdA (List.mem_of_getElem? (i := 985) (by decide +kernel)) (by decide +kernel)
theorem wd_986 : (Jvm.Cond.sameMethod "java/lang/Throwable" "java/lang/Throwable" "fillInStackTrace" "(I)Ljava/lang/Throwable;") ∈ wsAll := wdA (List.mem_of_getElem? (i := 986) (by decide +kernel)) (by decide +kernel)
theorem wp_0 : Cond.selects (⟨"Mergeparlour$Press", "slips", "(I)I"⟩ : MethodName).cls ⟨"Mergeparlour$Press", "slips", "(I)I"⟩ ⟨"Mergeparlour$Press", "slips", "(I)I"⟩ ∈ wsAll := wdS (q := (⟨"Mergeparlour$Press", "slips", "(I)I"⟩, 4)) (List.mem_of_getElem? (i := 0) (by decide +kernel)) (by decide +kernel)
theorem wp_1 : Cond.selects (⟨"Mergeparlour$Press", "isPrinted", "(III)Z"⟩ : MethodName).cls ⟨"Mergeparlour$Press", "isPrinted", "(III)Z"⟩ ⟨"Mergeparlour$Press", "isPrinted", "(III)Z"⟩ ∈ wsAll := wdS (q := (⟨"Mergeparlour$Press", "isPrinted", "(III)Z"⟩, 4)) (List.mem_of_getElem? (i := 1) (by decide +kernel)) (by decide +kernel)
theorem wp_2 : Cond.selects (⟨"Mergeparlour", "siteOf", "(I)LMergeparlour$Site;"⟩ : MethodName).cls ⟨"Mergeparlour", "siteOf", "(I)LMergeparlour$Site;"⟩ ⟨"Mergeparlour", "siteOf", "(I)LMergeparlour$Site;"⟩ ∈ wsAll := wdS (q := (⟨"Mergeparlour", "siteOf", "(I)LMergeparlour$Site;"⟩, 3)) (List.mem_of_getElem? (i := 2) (by decide +kernel)) (by decide +kernel)
theorem wp_3 : Cond.selects (⟨"java/lang/Throwable", "fillInStackTrace", "(I)Ljava/lang/Throwable;"⟩ : MethodName).cls ⟨"java/lang/Throwable", "fillInStackTrace", "(I)Ljava/lang/Throwable;"⟩ ⟨"java/lang/Throwable", "fillInStackTrace", "(I)Ljava/lang/Throwable;"⟩ ∈ wsAll := wdS (q := (⟨"java/lang/Throwable", "fillInStackTrace", "(I)Ljava/lang/Throwable;"⟩, 6)) (List.mem_of_getElem? (i := 3) (by decide +kernel)) (by decide +kernel)
theorem wp_4 : Cond.selects (⟨"Mergeparlour", "checkLineIsKnown", "(LMergeparlour$Site;I)V"⟩ : MethodName).cls ⟨"Mergeparlour", "checkLineIsKnown", "(LMergeparlour$Site;I)V"⟩ ⟨"Mergeparlour", "checkLineIsKnown", "(LMergeparlour$Site;I)V"⟩ ∈ wsAll := wdS (q := (⟨"Mergeparlour", "checkLineIsKnown", "(LMergeparlour$Site;I)V"⟩, 3)) (List.mem_of_getElem? (i := 4) (by decide +kernel)) (by decide +kernel)
theorem wp_5 : Cond.selects (⟨"Mergeparlour", "checkRoomForDeed", "()V"⟩ : MethodName).cls ⟨"Mergeparlour", "checkRoomForDeed", "()V"⟩ ⟨"Mergeparlour", "checkRoomForDeed", "()V"⟩ ∈ wsAll := wdS (q := (⟨"Mergeparlour", "checkRoomForDeed", "()V"⟩, 3)) (List.mem_of_getElem? (i := 5) (by decide +kernel)) (by decide +kernel)
theorem wp_6 : Cond.selects (⟨"Mergeparlour$Site", "learn", "(I)V"⟩ : MethodName).cls ⟨"Mergeparlour$Site", "learn", "(I)V"⟩ ⟨"Mergeparlour$Site", "learn", "(I)V"⟩ ∈ wsAll := wdS (q := (⟨"Mergeparlour$Site", "learn", "(I)V"⟩, 6)) (List.mem_of_getElem? (i := 6) (by decide +kernel)) (by decide +kernel)
theorem wp_7 : Cond.selects (⟨"Mergeparlour$Text", "putIn", "(I)V"⟩ : MethodName).cls ⟨"Mergeparlour$Text", "putIn", "(I)V"⟩ ⟨"Mergeparlour$Text", "putIn", "(I)V"⟩ ∈ wsAll := wdS (q := (⟨"Mergeparlour$Text", "putIn", "(I)V"⟩, 7)) (List.mem_of_getElem? (i := 7) (by decide +kernel)) (by decide +kernel)
theorem wp_8 : Cond.selects (⟨"Mergeparlour$Text", "bringNote", "(III)V"⟩ : MethodName).cls ⟨"Mergeparlour$Text", "bringNote", "(III)V"⟩ ⟨"Mergeparlour$Text", "bringNote", "(III)V"⟩ ∈ wsAll := wdS (q := (⟨"Mergeparlour$Text", "bringNote", "(III)V"⟩, 7)) (List.mem_of_getElem? (i := 8) (by decide +kernel)) (by decide +kernel)
theorem wp_9 : Cond.selects (⟨"Mergeparlour$Layout", "gatherLines", "()V"⟩ : MethodName).cls ⟨"Mergeparlour$Layout", "gatherLines", "()V"⟩ ⟨"Mergeparlour$Layout", "gatherLines", "()V"⟩ ∈ wsAll := wdS (q := (⟨"Mergeparlour$Layout", "gatherLines", "()V"⟩, 6)) (List.mem_of_getElem? (i := 9) (by decide +kernel)) (by decide +kernel)
theorem wp_10 : Cond.selects (⟨"Mergeparlour$Layout", "addNotes", "()V"⟩ : MethodName).cls ⟨"Mergeparlour$Layout", "addNotes", "()V"⟩ ⟨"Mergeparlour$Layout", "addNotes", "()V"⟩ ∈ wsAll := wdS (q := (⟨"Mergeparlour$Layout", "addNotes", "()V"⟩, 6)) (List.mem_of_getElem? (i := 10) (by decide +kernel)) (by decide +kernel)
theorem wp_11 : Cond.selects (⟨"Mergeparlour$Layout", "cutPages", "()V"⟩ : MethodName).cls ⟨"Mergeparlour$Layout", "cutPages", "()V"⟩ ⟨"Mergeparlour$Layout", "cutPages", "()V"⟩ ∈ wsAll := wdS (q := (⟨"Mergeparlour$Layout", "cutPages", "()V"⟩, 6)) (List.mem_of_getElem? (i := 11) (by decide +kernel)) (by decide +kernel)
theorem wp_12 : Cond.selects (⟨"Mergeparlour$Layout", "endOfPage", "(I)I"⟩ : MethodName).cls ⟨"Mergeparlour$Layout", "endOfPage", "(I)I"⟩ ⟨"Mergeparlour$Layout", "endOfPage", "(I)I"⟩ ∈ wsAll := wdS (q := (⟨"Mergeparlour$Layout", "endOfPage", "(I)I"⟩, 6)) (List.mem_of_getElem? (i := 12) (by decide +kernel)) (by decide +kernel)
theorem wp_13 : Cond.selects (⟨"Mergeparlour$Layout", "isBadCut", "(I)Z"⟩ : MethodName).cls ⟨"Mergeparlour$Layout", "isBadCut", "(I)Z"⟩ ⟨"Mergeparlour$Layout", "isBadCut", "(I)Z"⟩ ∈ wsAll := wdS (q := (⟨"Mergeparlour$Layout", "isBadCut", "(I)Z"⟩, 6)) (List.mem_of_getElem? (i := 13) (by decide +kernel)) (by decide +kernel)
theorem wp_14 : Cond.selects (⟨"Mergeparlour", "checkLineIsThere", "(LMergeparlour$Site;I)V"⟩ : MethodName).cls ⟨"Mergeparlour", "checkLineIsThere", "(LMergeparlour$Site;I)V"⟩ ⟨"Mergeparlour", "checkLineIsThere", "(LMergeparlour$Site;I)V"⟩ ∈ wsAll := wdS (q := (⟨"Mergeparlour", "checkLineIsThere", "(LMergeparlour$Site;I)V"⟩, 3)) (List.mem_of_getElem? (i := 14) (by decide +kernel)) (by decide +kernel)
theorem wp_15 : Cond.selects (⟨"Mergeparlour", "checkNoteIsKnown", "(LMergeparlour$Site;I)V"⟩ : MethodName).cls ⟨"Mergeparlour", "checkNoteIsKnown", "(LMergeparlour$Site;I)V"⟩ ⟨"Mergeparlour", "checkNoteIsKnown", "(LMergeparlour$Site;I)V"⟩ ∈ wsAll := wdS (q := (⟨"Mergeparlour", "checkNoteIsKnown", "(LMergeparlour$Site;I)V"⟩, 3)) (List.mem_of_getElem? (i := 15) (by decide +kernel)) (by decide +kernel)
theorem wp_16 : Cond.selects (⟨"Mergeparlour$Press", "printPage", "()I"⟩ : MethodName).cls ⟨"Mergeparlour$Press", "printPage", "()I"⟩ ⟨"Mergeparlour$Press", "printPage", "()I"⟩ ∈ wsAll := wdS (q := (⟨"Mergeparlour$Press", "printPage", "()I"⟩, 4)) (List.mem_of_getElem? (i := 16) (by decide +kernel)) (by decide +kernel)
theorem wp_17 : Cond.selects (⟨"Mergeparlour", "checkFromNought", "(I)V"⟩ : MethodName).cls ⟨"Mergeparlour", "checkFromNought", "(I)V"⟩ ⟨"Mergeparlour", "checkFromNought", "(I)V"⟩ ∈ wsAll := wdS (q := (⟨"Mergeparlour", "checkFromNought", "(I)V"⟩, 3)) (List.mem_of_getElem? (i := 17) (by decide +kernel)) (by decide +kernel)
theorem wp_18 : Cond.selects (⟨"Mergeparlour$Text", "putAllAnew", "()V"⟩ : MethodName).cls ⟨"Mergeparlour$Text", "putAllAnew", "()V"⟩ ⟨"Mergeparlour$Text", "putAllAnew", "()V"⟩ ∈ wsAll := wdS (q := (⟨"Mergeparlour$Text", "putAllAnew", "()V"⟩, 7)) (List.mem_of_getElem? (i := 18) (by decide +kernel)) (by decide +kernel)
theorem wp_19 : Cond.selects (⟨"Mergeparlour$Text", "sortByStamps", "()V"⟩ : MethodName).cls ⟨"Mergeparlour$Text", "sortByStamps", "()V"⟩ ⟨"Mergeparlour$Text", "sortByStamps", "()V"⟩ ∈ wsAll := wdS (q := (⟨"Mergeparlour$Text", "sortByStamps", "()V"⟩, 7)) (List.mem_of_getElem? (i := 19) (by decide +kernel)) (by decide +kernel)
theorem wp_20 : Cond.selects (⟨"Mergeparlour$Text", "placeByStamp", "(I)I"⟩ : MethodName).cls ⟨"Mergeparlour$Text", "placeByStamp", "(I)I"⟩ ⟨"Mergeparlour$Text", "placeByStamp", "(I)I"⟩ ∈ wsAll := wdS (q := (⟨"Mergeparlour$Text", "placeByStamp", "(I)I"⟩, 7)) (List.mem_of_getElem? (i := 20) (by decide +kernel)) (by decide +kernel)
theorem wp_21 : Cond.selects (⟨"Mergeparlour$Layout", "endByTrying", "(I)I"⟩ : MethodName).cls ⟨"Mergeparlour$Layout", "endByTrying", "(I)I"⟩ ⟨"Mergeparlour$Layout", "endByTrying", "(I)I"⟩ ∈ wsAll := wdS (q := (⟨"Mergeparlour$Layout", "endByTrying", "(I)I"⟩, 6)) (List.mem_of_getElem? (i := 21) (by decide +kernel)) (by decide +kernel)
theorem wp_22 : Cond.selects (⟨"Mergeparlour$Layout", "endWithRoom", "(I)I"⟩ : MethodName).cls ⟨"Mergeparlour$Layout", "endWithRoom", "(I)I"⟩ ⟨"Mergeparlour$Layout", "endWithRoom", "(I)I"⟩ ∈ wsAll := wdS (q := (⟨"Mergeparlour$Layout", "endWithRoom", "(I)I"⟩, 6)) (List.mem_of_getElem? (i := 22) (by decide +kernel)) (by decide +kernel)
theorem wp_23 : Cond.selects (⟨"MergeparlourModel", "knowsLine", "(II)Z"⟩ : MethodName).cls ⟨"MergeparlourModel", "knowsLine", "(II)Z"⟩ ⟨"MergeparlourModel", "knowsLine", "(II)Z"⟩ ∈ wsAll := wdS (q := (⟨"MergeparlourModel", "knowsLine", "(II)Z"⟩, 31)) (List.mem_of_getElem? (i := 23) (by decide +kernel)) (by decide +kernel)
theorem wp_24 : Cond.selects (⟨"MergeparlourModel", "goesWell", "(I)Z"⟩ : MethodName).cls ⟨"MergeparlourModel", "goesWell", "(I)Z"⟩ ⟨"MergeparlourModel", "goesWell", "(I)Z"⟩ ∈ wsAll := wdS (q := (⟨"MergeparlourModel", "goesWell", "(I)Z"⟩, 31)) (List.mem_of_getElem? (i := 24) (by decide +kernel)) (by decide +kernel)
theorem wp_25 : Cond.selects (⟨"MergeparlourModel", "deed", "(IIII)I"⟩ : MethodName).cls ⟨"MergeparlourModel", "deed", "(IIII)I"⟩ ⟨"MergeparlourModel", "deed", "(IIII)I"⟩ ∈ wsAll := wdS (q := (⟨"MergeparlourModel", "deed", "(IIII)I"⟩, 31)) (List.mem_of_getElem? (i := 25) (by decide +kernel)) (by decide +kernel)
theorem wp_26 : Cond.selects (⟨"MergeparlourModel", "learn", "(II)V"⟩ : MethodName).cls ⟨"MergeparlourModel", "learn", "(II)V"⟩ ⟨"MergeparlourModel", "learn", "(II)V"⟩ ∈ wsAll := wdS (q := (⟨"MergeparlourModel", "learn", "(II)V"⟩, 31)) (List.mem_of_getElem? (i := 26) (by decide +kernel)) (by decide +kernel)
theorem wp_27 : Cond.selects (⟨"MergeparlourModel", "isThere", "(II)Z"⟩ : MethodName).cls ⟨"MergeparlourModel", "isThere", "(II)Z"⟩ ⟨"MergeparlourModel", "isThere", "(II)Z"⟩ ∈ wsAll := wdS (q := (⟨"MergeparlourModel", "isThere", "(II)Z"⟩, 31)) (List.mem_of_getElem? (i := 27) (by decide +kernel)) (by decide +kernel)
theorem wp_28 : Cond.selects (⟨"MergeparlourModel", "lay", "(I)V"⟩ : MethodName).cls ⟨"MergeparlourModel", "lay", "(I)V"⟩ ⟨"MergeparlourModel", "lay", "(I)V"⟩ ∈ wsAll := wdS (q := (⟨"MergeparlourModel", "lay", "(I)V"⟩, 31)) (List.mem_of_getElem? (i := 28) (by decide +kernel)) (by decide +kernel)
theorem wp_29 : Cond.selects (⟨"MergeparlourModel", "arrange", "(I)V"⟩ : MethodName).cls ⟨"MergeparlourModel", "arrange", "(I)V"⟩ ⟨"MergeparlourModel", "arrange", "(I)V"⟩ ∈ wsAll := wdS (q := (⟨"MergeparlourModel", "arrange", "(I)V"⟩, 31)) (List.mem_of_getElem? (i := 29) (by decide +kernel)) (by decide +kernel)
theorem wp_30 : Cond.selects (⟨"MergeparlourModel", "pileUp", "(III)I"⟩ : MethodName).cls ⟨"MergeparlourModel", "pileUp", "(III)I"⟩ ⟨"MergeparlourModel", "pileUp", "(III)I"⟩ ∈ wsAll := wdS (q := (⟨"MergeparlourModel", "pileUp", "(III)I"⟩, 31)) (List.mem_of_getElem? (i := 30) (by decide +kernel)) (by decide +kernel)
theorem wp_31 : Cond.selects (⟨"MergeparlourModel", "isGreater", "(II)Z"⟩ : MethodName).cls ⟨"MergeparlourModel", "isGreater", "(II)Z"⟩ ⟨"MergeparlourModel", "isGreater", "(II)Z"⟩ ∈ wsAll := wdS (q := (⟨"MergeparlourModel", "isGreater", "(II)Z"⟩, 31)) (List.mem_of_getElem? (i := 31) (by decide +kernel)) (by decide +kernel)
theorem wp_32 : Cond.selects (⟨"MergeparlourModel", "layRows", "(I)V"⟩ : MethodName).cls ⟨"MergeparlourModel", "layRows", "(I)V"⟩ ⟨"MergeparlourModel", "layRows", "(I)V"⟩ ∈ wsAll := wdS (q := (⟨"MergeparlourModel", "layRows", "(I)V"⟩, 31)) (List.mem_of_getElem? (i := 32) (by decide +kernel)) (by decide +kernel)
theorem wp_33 : Cond.selects (⟨"MergeparlourModel", "knowsNote", "(II)Z"⟩ : MethodName).cls ⟨"MergeparlourModel", "knowsNote", "(II)Z"⟩ ⟨"MergeparlourModel", "knowsNote", "(II)Z"⟩ ∈ wsAll := wdS (q := (⟨"MergeparlourModel", "knowsNote", "(II)Z"⟩, 31)) (List.mem_of_getElem? (i := 33) (by decide +kernel)) (by decide +kernel)
theorem wp_34 : Cond.selects (⟨"MergeparlourModel", "placeOf", "(II)I"⟩ : MethodName).cls ⟨"MergeparlourModel", "placeOf", "(II)I"⟩ ⟨"MergeparlourModel", "placeOf", "(II)I"⟩ ∈ wsAll := wdS (q := (⟨"MergeparlourModel", "placeOf", "(II)I"⟩, 31)) (List.mem_of_getElem? (i := 34) (by decide +kernel)) (by decide +kernel)
theorem wp_35 : Cond.selects (⟨"MergeparlourModel", "endOf", "(I)I"⟩ : MethodName).cls ⟨"MergeparlourModel", "endOf", "(I)I"⟩ ⟨"MergeparlourModel", "endOf", "(I)I"⟩ ∈ wsAll := wdS (q := (⟨"MergeparlourModel", "endOf", "(I)I"⟩, 31)) (List.mem_of_getElem? (i := 35) (by decide +kernel)) (by decide +kernel)
theorem wp_36 : Cond.selects (⟨"MergeparlourModel", "isBad", "(I)Z"⟩ : MethodName).cls ⟨"MergeparlourModel", "isBad", "(I)Z"⟩ ⟨"MergeparlourModel", "isBad", "(I)Z"⟩ ∈ wsAll := wdS (q := (⟨"MergeparlourModel", "isBad", "(I)Z"⟩, 31)) (List.mem_of_getElem? (i := 36) (by decide +kernel)) (by decide +kernel)
theorem wp_37 : Cond.selects (⟨"MergeparlourModel", "isBegun", "(I)Z"⟩ : MethodName).cls ⟨"MergeparlourModel", "isBegun", "(I)Z"⟩ ⟨"MergeparlourModel", "isBegun", "(I)Z"⟩ ∈ wsAll := wdS (q := (⟨"MergeparlourModel", "isBegun", "(I)Z"⟩, 31)) (List.mem_of_getElem? (i := 37) (by decide +kernel)) (by decide +kernel)
theorem wp_38 : Cond.selects (⟨"MergeparlourModel", "unlike", "(I)I"⟩ : MethodName).cls ⟨"MergeparlourModel", "unlike", "(I)I"⟩ ⟨"MergeparlourModel", "unlike", "(I)I"⟩ ∈ wsAll := wdS (q := (⟨"MergeparlourModel", "unlike", "(I)I"⟩, 31)) (List.mem_of_getElem? (i := 38) (by decide +kernel)) (by decide +kernel)
theorem inA0 : ∀ w ∈ wsX00, w ∈ wsAll := (List.forall_mem_cons.mpr ⟨wd_129, List.forall_mem_cons.mpr ⟨wd_131, List.forall_mem_cons.mpr ⟨wd_133, List.forall_mem_cons.mpr ⟨wd_135, List.forall_mem_cons.mpr ⟨wd_137, List.forall_mem_cons.mpr ⟨wd_139, fun _ h => absurd h List.not_mem_nil⟩⟩⟩⟩⟩⟩ : ∀ w ∈ ([u_lay RX0 TX0 0, u_lay RX0 TX0 1, u_lay RX0 TX0 2, u_lay RX0 TX0 3, u_lay RX0 TX0 4, u_lay RX0 TX0 5] : List Cond), w ∈ wsAll)
theorem inA1 : ∀ w ∈ wsX10, w ∈ wsAll := (List.forall_mem_cons.mpr ⟨wd_57, List.forall_mem_cons.mpr ⟨wd_59, List.forall_mem_cons.mpr ⟨wd_61, List.forall_mem_cons.mpr ⟨wd_63, List.forall_mem_cons.mpr ⟨wd_65, List.forall_mem_cons.mpr ⟨wd_67, List.forall_mem_cons.mpr ⟨wd_69, List.forall_mem_cons.mpr ⟨wd_71, List.forall_mem_cons.mpr ⟨wd_73, fun _ h => absurd h List.not_mem_nil⟩⟩⟩⟩⟩⟩⟩⟩⟩ : ∀ w ∈ ([u_lay RX1 TX1 0, u_lay RX1 TX1 1, u_lay RX1 TX1 2, u_lay RX1 TX1 3, u_lay RX1 TX1 4, u_lay RX1 TX1 5, u_lay RX1 TX1 6, u_lay RX1 TX1 7, u_lay RX1 TX1 8] : List Cond), w ∈ wsAll)
theorem inA2 : ∀ w ∈ wsX20, w ∈ wsAll := (List.forall_mem_cons.mpr ⟨wd_42, List.forall_mem_cons.mpr ⟨wd_44, fun _ h => absurd h List.not_mem_nil⟩⟩ : ∀ w ∈ ([u_lay RX2 TX2 0, u_lay RX2 TX2 1] : List Cond), w ∈ wsAll)
theorem inA3 : ∀ w ∈ wsX30, w ∈ wsAll := (List.forall_mem_cons.mpr ⟨wd_175, List.forall_mem_cons.mpr ⟨wd_177, List.forall_mem_cons.mpr ⟨wd_179, List.forall_mem_cons.mpr ⟨wd_181, fun _ h => absurd h List.not_mem_nil⟩⟩⟩⟩ : ∀ w ∈ ([u_lay RX3 TX3 0, u_lay RX3 TX3 1, u_lay RX3 TX3 2, u_lay RX3 TX3 3] : List Cond), w ∈ wsAll)
theorem inA4 : ∀ w ∈ wsX40, w ∈ wsAll := (List.forall_mem_cons.mpr ⟨wd_150, List.forall_mem_cons.mpr ⟨wd_152, List.forall_mem_cons.mpr ⟨wd_154, List.forall_mem_cons.mpr ⟨wd_156, List.forall_mem_cons.mpr ⟨wd_158, List.forall_mem_cons.mpr ⟨wd_160, fun _ h => absurd h List.not_mem_nil⟩⟩⟩⟩⟩⟩ : ∀ w ∈ ([u_lay RX4 TX4 0, u_lay RX4 TX4 1, u_lay RX4 TX4 2, u_lay RX4 TX4 3, u_lay RX4 TX4 4, u_lay RX4 TX4 5] : List Cond), w ∈ wsAll)
theorem inA5 : ∀ w ∈ wsX50, w ∈ wsAll := (List.forall_mem_cons.mpr ⟨wd_100, List.forall_mem_cons.mpr ⟨wd_102, List.forall_mem_cons.mpr ⟨wd_104, List.forall_mem_cons.mpr ⟨wd_106, List.forall_mem_cons.mpr ⟨wd_108, List.forall_mem_cons.mpr ⟨wd_110, List.forall_mem_cons.mpr ⟨wd_112, fun _ h => absurd h List.not_mem_nil⟩⟩⟩⟩⟩⟩⟩ : ∀ w ∈ ([u_lay RX5 TX5 0, u_lay RX5 TX5 1, u_lay RX5 TX5 2, u_lay RX5 TX5 3, u_lay RX5 TX5 4, u_lay RX5 TX5 5, u_lay RX5 TX5 6] : List Cond), w ∈ wsAll)
theorem inA6 : ∀ w ∈ wsX60, w ∈ wsAll := (List.forall_mem_cons.mpr ⟨wd_187, List.forall_mem_cons.mpr ⟨wd_189, List.forall_mem_cons.mpr ⟨wd_191, fun _ h => absurd h List.not_mem_nil⟩⟩⟩ : ∀ w ∈ ([u_lay RX6 TX6 0, u_lay RX6 TX6 1, u_lay RX6 TX6 2] : List Cond), w ∈ wsAll)
theorem inA7 : ∀ w ∈ wsX70, w ∈ wsAll := (List.forall_mem_cons.mpr ⟨wd_783, List.forall_mem_cons.mpr ⟨wd_785, List.forall_mem_cons.mpr ⟨wd_787, List.forall_mem_cons.mpr ⟨wd_789, List.forall_mem_cons.mpr ⟨wd_791, List.forall_mem_cons.mpr ⟨wd_793, List.forall_mem_cons.mpr ⟨wd_795, List.forall_mem_cons.mpr ⟨wd_797, List.forall_mem_cons.mpr ⟨wd_799, List.forall_mem_cons.mpr ⟨wd_801, List.forall_mem_cons.mpr ⟨wd_803, List.forall_mem_cons.mpr ⟨wd_805, List.forall_mem_cons.mpr ⟨wd_807, List.forall_mem_cons.mpr ⟨wd_809, List.forall_mem_cons.mpr ⟨wd_811, List.forall_mem_cons.mpr ⟨wd_813, List.forall_mem_cons.mpr ⟨wd_815, List.forall_mem_cons.mpr ⟨wd_817, List.forall_mem_cons.mpr ⟨wd_819, List.forall_mem_cons.mpr ⟨wd_821, List.forall_mem_cons.mpr ⟨wd_823, List.forall_mem_cons.mpr ⟨wd_825, List.forall_mem_cons.mpr ⟨wd_827, List.forall_mem_cons.mpr ⟨wd_829, List.forall_mem_cons.mpr ⟨wd_831, List.forall_mem_cons.mpr ⟨wd_833, List.forall_mem_cons.mpr ⟨wd_835, List.forall_mem_cons.mpr ⟨wd_837, List.forall_mem_cons.mpr ⟨wd_839, List.forall_mem_cons.mpr ⟨wd_841, List.forall_mem_cons.mpr ⟨wd_843, fun _ h => absurd h List.not_mem_nil⟩⟩⟩⟩⟩⟩⟩⟩⟩⟩⟩⟩⟩⟩⟩⟩⟩⟩⟩⟩⟩⟩⟩⟩⟩⟩⟩⟩⟩⟩⟩ : ∀ w ∈ ([u_lay RX7 TX7 0, u_lay RX7 TX7 1, u_lay RX7 TX7 2, u_lay RX7 TX7 3, u_lay RX7 TX7 4, u_lay RX7 TX7 5, u_lay RX7 TX7 6, u_lay RX7 TX7 7, u_lay RX7 TX7 8, u_lay RX7 TX7 9, u_lay RX7 TX7 10, u_lay RX7 TX7 11, u_lay RX7 TX7 12, u_lay RX7 TX7 13, u_lay RX7 TX7 14, u_lay RX7 TX7 15, u_lay RX7 TX7 16, u_lay RX7 TX7 17, u_lay RX7 TX7 18, u_lay RX7 TX7 19, u_lay RX7 TX7 20, u_lay RX7 TX7 21, u_lay RX7 TX7 22, u_lay RX7 TX7 23, u_lay RX7 TX7 24, u_lay RX7 TX7 25, u_lay RX7 TX7 26, u_lay RX7 TX7 27, u_lay RX7 TX7 28, u_lay RX7 TX7 29, u_lay RX7 TX7 30] : List Cond), w ∈ wsAll)
end
section
theorem dX0_init_0 : decode cX0_init 0 = .ok (.aload_n 0, 1) := by decide +kernel
theorem dX0_init_1 : decode cX0_init 1 = .ok (.invokespecial 3, 3) := by decide +kernel
theorem dX0_init_4 : decode cX0_init 4 = .ok (.aload_n 0, 1) := by decide +kernel
theorem dX0_init_5 : decode cX0_init 5 = .ok (.new 9, 3) := by decide +kernel
theorem dX0_init_8 : decode cX0_init 8 = .ok (.dup, 1) := by decide +kernel
theorem dX0_init_9 : decode cX0_init 9 = .ok (.bipush 90, 2) := by decide +kernel
theorem dX0_init_11 : decode cX0_init 11 = .ok (.invokespecial 11, 3) := by decide +kernel
theorem dX0_init_14 : decode cX0_init 14 = .ok (.putfield 14, 3) := by decide +kernel
theorem dX0_init_17 : decode cX0_init 17 = .ok (.aload_n 0, 1) := by decide +kernel
theorem dX0_init_18 : decode cX0_init 18 = .ok (.new 9, 3) := by decide +kernel
theorem dX0_init_21 : decode cX0_init 21 = .ok (.dup, 1) := by decide +kernel
theorem dX0_init_22 : decode cX0_init 22 = .ok (.bipush 90, 2) := by decide +kernel
theorem dX0_init_24 : decode cX0_init 24 = .ok (.invokespecial 11, 3) := by decide +kernel
theorem dX0_init_27 : decode cX0_init 27 = .ok (.putfield 20, 3) := by decide +kernel
theorem dX0_init_30 : decode cX0_init 30 = .ok (.aload_n 0, 1) := by decide +kernel
theorem dX0_init_31 : decode cX0_init 31 = .ok (.new 9, 3) := by decide +kernel
theorem dX0_init_34 : decode cX0_init 34 = .ok (.dup, 1) := by decide +kernel
theorem dX0_init_35 : decode cX0_init 35 = .ok (.bipush 90, 2) := by decide +kernel
theorem dX0_init_37 : decode cX0_init 37 = .ok (.invokespecial 11, 3) := by decide +kernel
theorem dX0_init_40 : decode cX0_init 40 = .ok (.putfield 23, 3) := by decide +kernel
theorem dX0_init_43 : decode cX0_init 43 = .ok (.aload_n 0, 1) := by decide +kernel
theorem dX0_init_44 : decode cX0_init 44 = .ok (.new 9, 3) := by decide +kernel
theorem dX0_init_47 : decode cX0_init 47 = .ok (.dup, 1) := by decide +kernel
theorem dX0_init_48 : decode cX0_init 48 = .ok (.bipush 90, 2) := by decide +kernel
theorem dX0_init_50 : decode cX0_init 50 = .ok (.invokespecial 11, 3) := by decide +kernel
theorem dX0_init_53 : decode cX0_init 53 = .ok (.putfield 26, 3) := by decide +kernel
theorem dX0_init_56 : decode cX0_init 56 = .ok (.aload_n 0, 1) := by decide +kernel
theorem dX0_init_57 : decode cX0_init 57 = .ok (.aload_n 1, 1) := by decide +kernel
theorem dX0_init_58 : decode cX0_init 58 = .ok (.putfield 29, 3) := by decide +kernel
theorem dX0_init_61 : decode cX0_init 61 = .ok (.aload_n 0, 1) := by decide +kernel
theorem dX0_init_62 : decode cX0_init 62 = .ok (.aload_n 2, 1) := by decide +kernel
theorem dX0_init_63 : decode cX0_init 63 = .ok (.putfield 33, 3) := by decide +kernel
theorem dX0_init_66 : decode cX0_init 66 = .ok (.return_, 1) := by decide +kernel
theorem dX0_layAnew_0 : decode cX0_layAnew 0 = .ok (.aload_n 0, 1) := by decide +kernel
theorem dX0_layAnew_1 : decode cX0_layAnew 1 = .ok (.invokevirtual 37, 3) := by decide +kernel
theorem dX0_layAnew_4 : decode cX0_layAnew 4 = .ok (.aload_n 0, 1) := by decide +kernel
theorem dX0_layAnew_5 : decode cX0_layAnew 5 = .ok (.invokevirtual 40, 3) := by decide +kernel
theorem dX0_layAnew_8 : decode cX0_layAnew 8 = .ok (.aload_n 0, 1) := by decide +kernel
theorem dX0_layAnew_9 : decode cX0_layAnew 9 = .ok (.invokevirtual 43, 3) := by decide +kernel
theorem dX0_layAnew_12 : decode cX0_layAnew 12 = .ok (.return_, 1) := by decide +kernel
theorem dX0_lineCount_0 : decode cX0_lineCount 0 = .ok (.aload_n 0, 1) := by decide +kernel
theorem dX0_lineCount_1 : decode cX0_lineCount 1 = .ok (.getfield 14, 3) := by decide +kernel
theorem dX0_lineCount_4 : decode cX0_lineCount 4 = .ok (.invokevirtual 46, 3) := by decide +kernel
theorem dX0_lineCount_7 : decode cX0_lineCount 7 = .ok (.ireturn, 1) := by decide +kernel
theorem dX0_line_0 : decode cX0_line 0 = .ok (.aload_n 0, 1) := by decide +kernel
theorem dX0_line_1 : decode cX0_line 1 = .ok (.getfield 14, 3) := by decide +kernel
theorem dX0_line_4 : decode cX0_line 4 = .ok (.iload_n 1, 1) := by decide +kernel
theorem dX0_line_5 : decode cX0_line 5 = .ok (.invokevirtual 50, 3) := by decide +kernel
theorem dX0_line_8 : decode cX0_line 8 = .ok (.ireturn, 1) := by decide +kernel
theorem dX0_rows_0 : decode cX0_rows 0 = .ok (.aload_n 0, 1) := by decide +kernel
theorem dX0_rows_1 : decode cX0_rows 1 = .ok (.getfield 23, 3) := by decide +kernel
theorem dX0_rows_4 : decode cX0_rows 4 = .ok (.aload_n 0, 1) := by decide +kernel
theorem dX0_rows_5 : decode cX0_rows 5 = .ok (.getfield 14, 3) := by decide +kernel
theorem dX0_rows_8 : decode cX0_rows 8 = .ok (.iload_n 1, 1) := by decide +kernel
theorem dX0_rows_9 : decode cX0_rows 9 = .ok (.invokevirtual 50, 3) := by decide +kernel
theorem dX0_rows_12 : decode cX0_rows 12 = .ok (.invokevirtual 50, 3) := by decide +kernel
theorem dX0_rows_15 : decode cX0_rows 15 = .ok (.ireturn, 1) := by decide +kernel
theorem dX0_beginsParagraph_0 : decode cX0_beginsParagraph 0 = .ok (.aload_n 0, 1) := by decide +kernel
theorem dX0_beginsParagraph_1 : decode cX0_beginsParagraph 1 = .ok (.getfield 20, 3) := by decide +kernel
theorem dX0_beginsParagraph_4 : decode cX0_beginsParagraph 4 = .ok (.iload_n 1, 1) := by decide +kernel
theorem dX0_beginsParagraph_5 : decode cX0_beginsParagraph 5 = .ok (.invokevirtual 50, 3) := by decide +kernel
theorem dX0_beginsParagraph_8 : decode cX0_beginsParagraph 8 = .ok (.iconst 1, 1) := by decide +kernel
theorem dX0_beginsParagraph_9 : decode cX0_beginsParagraph 9 = .ok (.if_icmp .ne 7, 3) := by decide +kernel
theorem dX0_beginsParagraph_12 : decode cX0_beginsParagraph 12 = .ok (.iconst 1, 1) := by decide +kernel
theorem dX0_beginsParagraph_13 : decode cX0_beginsParagraph 13 = .ok (.goto 4, 3) := by decide +kernel
theorem dX0_beginsParagraph_16 : decode cX0_beginsParagraph 16 = .ok (.iconst 0, 1) := by decide +kernel
theorem dX0_beginsParagraph_17 : decode cX0_beginsParagraph 17 = .ok (.ireturn, 1) := by decide +kernel
theorem dX0_pageCount_0 : decode cX0_pageCount 0 = .ok (.aload_n 0, 1) := by decide +kernel
theorem dX0_pageCount_1 : decode cX0_pageCount 1 = .ok (.getfield 26, 3) := by decide +kernel
theorem dX0_pageCount_4 : decode cX0_pageCount 4 = .ok (.invokevirtual 46, 3) := by decide +kernel
theorem dX0_pageCount_7 : decode cX0_pageCount 7 = .ok (.ireturn, 1) := by decide +kernel
theorem dX0_pageOf_0 : decode cX0_pageOf 0 = .ok (.iconst (-1), 1) := by decide +kernel
theorem dX0_pageOf_1 : decode cX0_pageOf 1 = .ok (.istore_n 2, 1) := by decide +kernel
theorem dX0_pageOf_2 : decode cX0_pageOf 2 = .ok (.iconst 0, 1) := by decide +kernel
theorem dX0_pageOf_3 : decode cX0_pageOf 3 = .ok (.istore_n 3, 1) := by decide +kernel
theorem dX0_pageOf_4 : decode cX0_pageOf 4 = .ok (.iload_n 3, 1) := by decide +kernel
theorem dX0_pageOf_5 : decode cX0_pageOf 5 = .ok (.aload_n 0, 1) := by decide +kernel
theorem dX0_pageOf_6 : decode cX0_pageOf 6 = .ok (.getfield 26, 3) := by decide +kernel
theorem dX0_pageOf_9 : decode cX0_pageOf 9 = .ok (.invokevirtual 46, 3) := by decide +kernel
theorem dX0_pageOf_12 : decode cX0_pageOf 12 = .ok (.if_icmp .ge 23, 3) := by decide +kernel
theorem dX0_pageOf_15 : decode cX0_pageOf 15 = .ok (.aload_n 0, 1) := by decide +kernel
theorem dX0_pageOf_16 : decode cX0_pageOf 16 = .ok (.getfield 26, 3) := by decide +kernel
theorem dX0_pageOf_19 : decode cX0_pageOf 19 = .ok (.iload_n 3, 1) := by decide +kernel
theorem dX0_pageOf_20 : decode cX0_pageOf 20 = .ok (.invokevirtual 50, 3) := by decide +kernel
theorem dX0_pageOf_23 : decode cX0_pageOf 23 = .ok (.iload_n 1, 1) := by decide +kernel
theorem dX0_pageOf_24 : decode cX0_pageOf 24 = .ok (.if_icmp .gt 11, 3) := by decide +kernel
theorem dX0_pageOf_27 : decode cX0_pageOf 27 = .ok (.iload_n 3, 1) := by decide +kernel
theorem dX0_pageOf_28 : decode cX0_pageOf 28 = .ok (.istore_n 2, 1) := by decide +kernel
theorem dX0_pageOf_29 : decode cX0_pageOf 29 = .ok (.iinc 3 1, 3) := by decide +kernel
theorem dX0_pageOf_32 : decode cX0_pageOf 32 = .ok (.goto (-28), 3) := by decide +kernel
theorem dX0_pageOf_35 : decode cX0_pageOf 35 = .ok (.iload_n 2, 1) := by decide +kernel
theorem dX0_pageOf_36 : decode cX0_pageOf 36 = .ok (.ireturn, 1) := by decide +kernel
theorem dX0_startOf_0 : decode cX0_startOf 0 = .ok (.iload_n 1, 1) := by decide +kernel
theorem dX0_startOf_1 : decode cX0_startOf 1 = .ok (.ifCond .lt 25, 3) := by decide +kernel
theorem dX0_startOf_4 : decode cX0_startOf 4 = .ok (.iload_n 1, 1) := by decide +kernel
theorem dX0_startOf_5 : decode cX0_startOf 5 = .ok (.aload_n 0, 1) := by decide +kernel
theorem dX0_startOf_6 : decode cX0_startOf 6 = .ok (.getfield 26, 3) := by decide +kernel
theorem dX0_startOf_9 : decode cX0_startOf 9 = .ok (.invokevirtual 46, 3) := by decide +kernel
theorem dX0_startOf_12 : decode cX0_startOf 12 = .ok (.if_icmp .ge 14, 3) := by decide +kernel
theorem dX0_startOf_15 : decode cX0_startOf 15 = .ok (.aload_n 0, 1) := by decide +kernel
theorem dX0_startOf_16 : decode cX0_startOf 16 = .ok (.getfield 26, 3) := by decide +kernel
theorem dX0_startOf_19 : decode cX0_startOf 19 = .ok (.iload_n 1, 1) := by decide +kernel
theorem dX0_startOf_20 : decode cX0_startOf 20 = .ok (.invokevirtual 50, 3) := by decide +kernel
theorem dX0_startOf_23 : decode cX0_startOf 23 = .ok (.goto 10, 3) := by decide +kernel
theorem dX0_startOf_26 : decode cX0_startOf 26 = .ok (.aload_n 0, 1) := by decide +kernel
theorem dX0_startOf_27 : decode cX0_startOf 27 = .ok (.getfield 14, 3) := by decide +kernel
theorem dX0_startOf_30 : decode cX0_startOf 30 = .ok (.invokevirtual 46, 3) := by decide +kernel
theorem dX0_startOf_33 : decode cX0_startOf 33 = .ok (.ireturn, 1) := by decide +kernel
theorem dX0_countAheadAnew_0 : decode cX0_countAheadAnew 0 = .ok (.iconst 0, 1) := by decide +kernel
theorem dX0_countAheadAnew_1 : decode cX0_countAheadAnew 1 = .ok (.istore_n 2, 1) := by decide +kernel
theorem dX0_countAheadAnew_2 : decode cX0_countAheadAnew 2 = .ok (.iconst 0, 1) := by decide +kernel
theorem dX0_countAheadAnew_3 : decode cX0_countAheadAnew 3 = .ok (.istore_n 3, 1) := by decide +kernel
theorem dX0_countAheadAnew_4 : decode cX0_countAheadAnew 4 = .ok (.iload_n 3, 1) := by decide +kernel
theorem dX0_countAheadAnew_5 : decode cX0_countAheadAnew 5 = .ok (.iload_n 1, 1) := by decide +kernel
theorem dX0_countAheadAnew_6 : decode cX0_countAheadAnew 6 = .ok (.if_icmp .ge 26, 3) := by decide +kernel
theorem dX0_countAheadAnew_9 : decode cX0_countAheadAnew 9 = .ok (.iload_n 3, 1) := by decide +kernel
theorem dX0_countAheadAnew_10 : decode cX0_countAheadAnew 10 = .ok (.aload_n 0, 1) := by decide +kernel
theorem dX0_countAheadAnew_11 : decode cX0_countAheadAnew 11 = .ok (.getfield 14, 3) := by decide +kernel
theorem dX0_countAheadAnew_14 : decode cX0_countAheadAnew 14 = .ok (.invokevirtual 46, 3) := by decide +kernel
theorem dX0_countAheadAnew_17 : decode cX0_countAheadAnew 17 = .ok (.if_icmp .ge 15, 3) := by decide +kernel
theorem dX0_countAheadAnew_20 : decode cX0_countAheadAnew 20 = .ok (.aload_n 0, 1) := by decide +kernel
theorem dX0_countAheadAnew_21 : decode cX0_countAheadAnew 21 = .ok (.iload_n 2, 1) := by decide +kernel
theorem dX0_countAheadAnew_22 : decode cX0_countAheadAnew 22 = .ok (.invokevirtual 54, 3) := by decide +kernel
theorem dX0_countAheadAnew_25 : decode cX0_countAheadAnew 25 = .ok (.istore_n 2, 1) := by decide +kernel
theorem dX0_countAheadAnew_26 : decode cX0_countAheadAnew 26 = .ok (.iinc 3 1, 3) := by decide +kernel
theorem dX0_countAheadAnew_29 : decode cX0_countAheadAnew 29 = .ok (.goto (-25), 3) := by decide +kernel
theorem dX0_countAheadAnew_32 : decode cX0_countAheadAnew 32 = .ok (.iload_n 2, 1) := by decide +kernel
theorem dX0_countAheadAnew_33 : decode cX0_countAheadAnew 33 = .ok (.ireturn, 1) := by decide +kernel
theorem dX0_gatherLines_0 : decode cX0_gatherLines 0 = .ok (.aload_n 0, 1) := by decide +kernel
theorem dX0_gatherLines_1 : decode cX0_gatherLines 1 = .ok (.getfield 14, 3) := by decide +kernel
theorem dX0_gatherLines_4 : decode cX0_gatherLines 4 = .ok (.invokevirtual 57, 3) := by decide +kernel
theorem dX0_gatherLines_7 : decode cX0_gatherLines 7 = .ok (.aload_n 0, 1) := by decide +kernel
theorem dX0_gatherLines_8 : decode cX0_gatherLines 8 = .ok (.getfield 20, 3) := by decide +kernel
theorem dX0_gatherLines_11 : decode cX0_gatherLines 11 = .ok (.invokevirtual 57, 3) := by decide +kernel
theorem dX0_gatherLines_14 : decode cX0_gatherLines 14 = .ok (.iconst 0, 1) := by decide +kernel
theorem dX0_gatherLines_15 : decode cX0_gatherLines 15 = .ok (.istore_n 1, 1) := by decide +kernel
theorem dX0_gatherLines_16 : decode cX0_gatherLines 16 = .ok (.iload_n 1, 1) := by decide +kernel
theorem dX0_gatherLines_17 : decode cX0_gatherLines 17 = .ok (.aload_n 0, 1) := by decide +kernel
theorem dX0_gatherLines_18 : decode cX0_gatherLines 18 = .ok (.getfield 33, 3) := by decide +kernel
theorem dX0_gatherLines_21 : decode cX0_gatherLines 21 = .ok (.invokevirtual 60, 3) := by decide +kernel
theorem dX0_gatherLines_24 : decode cX0_gatherLines 24 = .ok (.if_icmp .ge 89, 3) := by decide +kernel
theorem dX0_gatherLines_27 : decode cX0_gatherLines 27 = .ok (.aload_n 0, 1) := by decide +kernel
theorem dX0_gatherLines_28 : decode cX0_gatherLines 28 = .ok (.getfield 33, 3) := by decide +kernel
theorem dX0_gatherLines_31 : decode cX0_gatherLines 31 = .ok (.iload_n 1, 1) := by decide +kernel
theorem dX0_gatherLines_32 : decode cX0_gatherLines 32 = .ok (.invokevirtual 65, 3) := by decide +kernel
theorem dX0_gatherLines_35 : decode cX0_gatherLines 35 = .ok (.istore_n 2, 1) := by decide +kernel
theorem dX0_gatherLines_36 : decode cX0_gatherLines 36 = .ok (.aload_n 0, 1) := by decide +kernel
theorem dX0_gatherLines_37 : decode cX0_gatherLines 37 = .ok (.getfield 33, 3) := by decide +kernel
theorem dX0_gatherLines_40 : decode cX0_gatherLines 40 = .ok (.iload_n 2, 1) := by decide +kernel
theorem dX0_gatherLines_41 : decode cX0_gatherLines 41 = .ok (.invokevirtual 68, 3) := by decide +kernel
theorem dX0_gatherLines_44 : decode cX0_gatherLines 44 = .ok (.ifCond .eq 63, 3) := by decide +kernel
theorem dX0_gatherLines_47 : decode cX0_gatherLines 47 = .ok (.aload_n 0, 1) := by decide +kernel
theorem dX0_gatherLines_48 : decode cX0_gatherLines 48 = .ok (.getfield 14, 3) := by decide +kernel
theorem dX0_gatherLines_51 : decode cX0_gatherLines 51 = .ok (.invokevirtual 46, 3) := by decide +kernel
theorem dX0_gatherLines_54 : decode cX0_gatherLines 54 = .ok (.ifCond .eq 14, 3) := by decide +kernel
theorem dX0_gatherLines_57 : decode cX0_gatherLines 57 = .ok (.aload_n 0, 1) := by decide +kernel
theorem dX0_gatherLines_58 : decode cX0_gatherLines 58 = .ok (.getfield 29, 3) := by decide +kernel
theorem dX0_gatherLines_61 : decode cX0_gatherLines 61 = .ok (.iload_n 2, 1) := by decide +kernel
theorem dX0_gatherLines_62 : decode cX0_gatherLines 62 = .ok (.invokevirtual 72, 3) := by decide +kernel
theorem dX0_gatherLines_65 : decode cX0_gatherLines 65 = .ok (.ifCond .eq 7, 3) := by decide +kernel
theorem dX0_gatherLines_68 : decode cX0_gatherLines 68 = .ok (.iconst 1, 1) := by decide +kernel
theorem dX0_gatherLines_69 : decode cX0_gatherLines 69 = .ok (.goto 4, 3) := by decide +kernel
theorem dX0_gatherLines_72 : decode cX0_gatherLines 72 = .ok (.iconst 0, 1) := by decide +kernel
theorem dX0_gatherLines_73 : decode cX0_gatherLines 73 = .ok (.istore_n 3, 1) := by decide +kernel
theorem dX0_gatherLines_74 : decode cX0_gatherLines 74 = .ok (.aload_n 0, 1) := by decide +kernel
theorem dX0_gatherLines_75 : decode cX0_gatherLines 75 = .ok (.getfield 14, 3) := by decide +kernel
theorem dX0_gatherLines_78 : decode cX0_gatherLines 78 = .ok (.iload_n 2, 1) := by decide +kernel
theorem dX0_gatherLines_79 : decode cX0_gatherLines 79 = .ok (.invokevirtual 77, 3) := by decide +kernel
theorem dX0_gatherLines_82 : decode cX0_gatherLines 82 = .ok (.aload_n 0, 1) := by decide +kernel
theorem dX0_gatherLines_83 : decode cX0_gatherLines 83 = .ok (.getfield 20, 3) := by decide +kernel
theorem dX0_gatherLines_86 : decode cX0_gatherLines 86 = .ok (.iload_n 3, 1) := by decide +kernel
theorem dX0_gatherLines_87 : decode cX0_gatherLines 87 = .ok (.ifCond .eq 7, 3) := by decide +kernel
theorem dX0_gatherLines_90 : decode cX0_gatherLines 90 = .ok (.iconst 1, 1) := by decide +kernel
theorem dX0_gatherLines_91 : decode cX0_gatherLines 91 = .ok (.goto 4, 3) := by decide +kernel
theorem dX0_gatherLines_94 : decode cX0_gatherLines 94 = .ok (.iconst 0, 1) := by decide +kernel
theorem dX0_gatherLines_95 : decode cX0_gatherLines 95 = .ok (.invokevirtual 77, 3) := by decide +kernel
theorem dX0_gatherLines_98 : decode cX0_gatherLines 98 = .ok (.aload_n 0, 1) := by decide +kernel
theorem dX0_gatherLines_99 : decode cX0_gatherLines 99 = .ok (.getfield 23, 3) := by decide +kernel
theorem dX0_gatherLines_102 : decode cX0_gatherLines 102 = .ok (.iload_n 2, 1) := by decide +kernel
theorem dX0_gatherLines_103 : decode cX0_gatherLines 103 = .ok (.iconst 1, 1) := by decide +kernel
theorem dX0_gatherLines_104 : decode cX0_gatherLines 104 = .ok (.invokevirtual 80, 3) := by decide +kernel
theorem dX0_gatherLines_107 : decode cX0_gatherLines 107 = .ok (.iinc 1 1, 3) := by decide +kernel
theorem dX0_gatherLines_110 : decode cX0_gatherLines 110 = .ok (.goto (-94), 3) := by decide +kernel
theorem dX0_gatherLines_113 : decode cX0_gatherLines 113 = .ok (.return_, 1) := by decide +kernel
theorem dX0_addNotes_0 : decode cX0_addNotes 0 = .ok (.iconst 0, 1) := by decide +kernel
theorem dX0_addNotes_1 : decode cX0_addNotes 1 = .ok (.istore_n 1, 1) := by decide +kernel
theorem dX0_addNotes_2 : decode cX0_addNotes 2 = .ok (.iload_n 1, 1) := by decide +kernel
theorem dX0_addNotes_3 : decode cX0_addNotes 3 = .ok (.aload_n 0, 1) := by decide +kernel
theorem dX0_addNotes_4 : decode cX0_addNotes 4 = .ok (.getfield 29, 3) := by decide +kernel
theorem dX0_addNotes_7 : decode cX0_addNotes 7 = .ok (.invokevirtual 84, 3) := by decide +kernel
theorem dX0_addNotes_10 : decode cX0_addNotes 10 = .ok (.if_icmp .ge 61, 3) := by decide +kernel
theorem dX0_addNotes_13 : decode cX0_addNotes 13 = .ok (.aload_n 0, 1) := by decide +kernel
theorem dX0_addNotes_14 : decode cX0_addNotes 14 = .ok (.getfield 33, 3) := by decide +kernel
theorem dX0_addNotes_17 : decode cX0_addNotes 17 = .ok (.iload_n 1, 1) := by decide +kernel
theorem dX0_addNotes_18 : decode cX0_addNotes 18 = .ok (.invokevirtual 87, 3) := by decide +kernel
theorem dX0_addNotes_21 : decode cX0_addNotes 21 = .ok (.ifCond .eq 44, 3) := by decide +kernel
theorem dX0_addNotes_24 : decode cX0_addNotes 24 = .ok (.aload_n 0, 1) := by decide +kernel
theorem dX0_addNotes_25 : decode cX0_addNotes 25 = .ok (.getfield 33, 3) := by decide +kernel
theorem dX0_addNotes_28 : decode cX0_addNotes 28 = .ok (.iload_n 1, 1) := by decide +kernel
theorem dX0_addNotes_29 : decode cX0_addNotes 29 = .ok (.invokevirtual 90, 3) := by decide +kernel
theorem dX0_addNotes_32 : decode cX0_addNotes 32 = .ok (.istore_n 2, 1) := by decide +kernel
theorem dX0_addNotes_33 : decode cX0_addNotes 33 = .ok (.aload_n 0, 1) := by decide +kernel
theorem dX0_addNotes_34 : decode cX0_addNotes 34 = .ok (.getfield 23, 3) := by decide +kernel
theorem dX0_addNotes_37 : decode cX0_addNotes 37 = .ok (.iload_n 2, 1) := by decide +kernel
theorem dX0_addNotes_38 : decode cX0_addNotes 38 = .ok (.invokevirtual 50, 3) := by decide +kernel
theorem dX0_addNotes_41 : decode cX0_addNotes 41 = .ok (.aload_n 0, 1) := by decide +kernel
theorem dX0_addNotes_42 : decode cX0_addNotes 42 = .ok (.getfield 29, 3) := by decide +kernel
theorem dX0_addNotes_45 : decode cX0_addNotes 45 = .ok (.iload_n 1, 1) := by decide +kernel
theorem dX0_addNotes_46 : decode cX0_addNotes 46 = .ok (.invokevirtual 93, 3) := by decide +kernel
theorem dX0_addNotes_49 : decode cX0_addNotes 49 = .ok (.iadd, 1) := by decide +kernel
theorem dX0_addNotes_50 : decode cX0_addNotes 50 = .ok (.istore_n 3, 1) := by decide +kernel
theorem dX0_addNotes_51 : decode cX0_addNotes 51 = .ok (.aload_n 0, 1) := by decide +kernel
theorem dX0_addNotes_52 : decode cX0_addNotes 52 = .ok (.getfield 23, 3) := by decide +kernel
theorem dX0_addNotes_55 : decode cX0_addNotes 55 = .ok (.iload_n 2, 1) := by decide +kernel
theorem dX0_addNotes_56 : decode cX0_addNotes 56 = .ok (.iload_n 3, 1) := by decide +kernel
theorem dX0_addNotes_57 : decode cX0_addNotes 57 = .ok (.bipush 6, 2) := by decide +kernel
theorem dX0_addNotes_59 : decode cX0_addNotes 59 = .ok (.invokestatic 96, 3) := by decide +kernel
theorem dX0_addNotes_62 : decode cX0_addNotes 62 = .ok (.invokevirtual 80, 3) := by decide +kernel
theorem dX0_addNotes_65 : decode cX0_addNotes 65 = .ok (.iinc 1 1, 3) := by decide +kernel
theorem dX0_addNotes_68 : decode cX0_addNotes 68 = .ok (.goto (-66), 3) := by decide +kernel
theorem dX0_addNotes_71 : decode cX0_addNotes 71 = .ok (.return_, 1) := by decide +kernel
theorem dX0_cutPages_0 : decode cX0_cutPages 0 = .ok (.aload_n 0, 1) := by decide +kernel
theorem dX0_cutPages_1 : decode cX0_cutPages 1 = .ok (.getfield 26, 3) := by decide +kernel
theorem dX0_cutPages_4 : decode cX0_cutPages 4 = .ok (.invokevirtual 57, 3) := by decide +kernel
theorem dX0_cutPages_7 : decode cX0_cutPages 7 = .ok (.iconst 0, 1) := by decide +kernel
theorem dX0_cutPages_8 : decode cX0_cutPages 8 = .ok (.istore_n 1, 1) := by decide +kernel
theorem dX0_cutPages_9 : decode cX0_cutPages 9 = .ok (.iconst 0, 1) := by decide +kernel
theorem dX0_cutPages_10 : decode cX0_cutPages 10 = .ok (.istore_n 2, 1) := by decide +kernel
theorem dX0_cutPages_11 : decode cX0_cutPages 11 = .ok (.iload_n 2, 1) := by decide +kernel
theorem dX0_cutPages_12 : decode cX0_cutPages 12 = .ok (.aload_n 0, 1) := by decide +kernel
theorem dX0_cutPages_13 : decode cX0_cutPages 13 = .ok (.getfield 14, 3) := by decide +kernel
theorem dX0_cutPages_16 : decode cX0_cutPages 16 = .ok (.invokevirtual 46, 3) := by decide +kernel
theorem dX0_cutPages_19 : decode cX0_cutPages 19 = .ok (.if_icmp .ge 34, 3) := by decide +kernel
theorem dX0_cutPages_22 : decode cX0_cutPages 22 = .ok (.iload_n 1, 1) := by decide +kernel
theorem dX0_cutPages_23 : decode cX0_cutPages 23 = .ok (.aload_n 0, 1) := by decide +kernel
theorem dX0_cutPages_24 : decode cX0_cutPages 24 = .ok (.getfield 14, 3) := by decide +kernel
theorem dX0_cutPages_27 : decode cX0_cutPages 27 = .ok (.invokevirtual 46, 3) := by decide +kernel
theorem dX0_cutPages_30 : decode cX0_cutPages 30 = .ok (.if_icmp .ge 23, 3) := by decide +kernel
theorem dX0_cutPages_33 : decode cX0_cutPages 33 = .ok (.aload_n 0, 1) := by decide +kernel
theorem dX0_cutPages_34 : decode cX0_cutPages 34 = .ok (.getfield 26, 3) := by decide +kernel
theorem dX0_cutPages_37 : decode cX0_cutPages 37 = .ok (.iload_n 1, 1) := by decide +kernel
theorem dX0_cutPages_38 : decode cX0_cutPages 38 = .ok (.invokevirtual 77, 3) := by decide +kernel
theorem dX0_cutPages_41 : decode cX0_cutPages 41 = .ok (.aload_n 0, 1) := by decide +kernel
theorem dX0_cutPages_42 : decode cX0_cutPages 42 = .ok (.iload_n 1, 1) := by decide +kernel
theorem dX0_cutPages_43 : decode cX0_cutPages 43 = .ok (.invokevirtual 102, 3) := by decide +kernel
theorem dX0_cutPages_46 : decode cX0_cutPages 46 = .ok (.istore_n 1, 1) := by decide +kernel
theorem dX0_cutPages_47 : decode cX0_cutPages 47 = .ok (.iinc 2 1, 3) := by decide +kernel
theorem dX0_cutPages_50 : decode cX0_cutPages 50 = .ok (.goto (-39), 3) := by decide +kernel
theorem dX0_cutPages_53 : decode cX0_cutPages 53 = .ok (.return_, 1) := by decide +kernel
theorem dX0_endOfPage_0 : decode cX0_endOfPage 0 = .ok (.bipush 6, 2) := by decide +kernel
theorem dX0_endOfPage_2 : decode cX0_endOfPage 2 = .ok (.istore_n 2, 1) := by decide +kernel
theorem dX0_endOfPage_3 : decode cX0_endOfPage 3 = .ok (.iload_n 1, 1) := by decide +kernel
theorem dX0_endOfPage_4 : decode cX0_endOfPage 4 = .ok (.istore_n 3, 1) := by decide +kernel
theorem dX0_endOfPage_5 : decode cX0_endOfPage 5 = .ok (.iconst (-1), 1) := by decide +kernel
theorem dX0_endOfPage_6 : decode cX0_endOfPage 6 = .ok (.istore 4, 2) := by decide +kernel
theorem dX0_endOfPage_8 : decode cX0_endOfPage 8 = .ok (.iload_n 3, 1) := by decide +kernel
theorem dX0_endOfPage_9 : decode cX0_endOfPage 9 = .ok (.aload_n 0, 1) := by decide +kernel
theorem dX0_endOfPage_10 : decode cX0_endOfPage 10 = .ok (.getfield 14, 3) := by decide +kernel
theorem dX0_endOfPage_13 : decode cX0_endOfPage 13 = .ok (.invokevirtual 46, 3) := by decide +kernel
theorem dX0_endOfPage_16 : decode cX0_endOfPage 16 = .ok (.if_icmp .ge 37, 3) := by decide +kernel
theorem dX0_endOfPage_19 : decode cX0_endOfPage 19 = .ok (.aload_n 0, 1) := by decide +kernel
theorem dX0_endOfPage_20 : decode cX0_endOfPage 20 = .ok (.iload_n 3, 1) := by decide +kernel
theorem dX0_endOfPage_21 : decode cX0_endOfPage 21 = .ok (.invokevirtual 105, 3) := by decide +kernel
theorem dX0_endOfPage_24 : decode cX0_endOfPage 24 = .ok (.iload_n 2, 1) := by decide +kernel
theorem dX0_endOfPage_25 : decode cX0_endOfPage 25 = .ok (.if_icmp .gt 28, 3) := by decide +kernel
theorem dX0_endOfPage_28 : decode cX0_endOfPage 28 = .ok (.iload_n 2, 1) := by decide +kernel
theorem dX0_endOfPage_29 : decode cX0_endOfPage 29 = .ok (.aload_n 0, 1) := by decide +kernel
theorem dX0_endOfPage_30 : decode cX0_endOfPage 30 = .ok (.iload_n 3, 1) := by decide +kernel
theorem dX0_endOfPage_31 : decode cX0_endOfPage 31 = .ok (.invokevirtual 105, 3) := by decide +kernel
theorem dX0_endOfPage_34 : decode cX0_endOfPage 34 = .ok (.isub, 1) := by decide +kernel
theorem dX0_endOfPage_35 : decode cX0_endOfPage 35 = .ok (.istore_n 2, 1) := by decide +kernel
theorem dX0_endOfPage_36 : decode cX0_endOfPage 36 = .ok (.iinc 3 1, 3) := by decide +kernel
theorem dX0_endOfPage_39 : decode cX0_endOfPage 39 = .ok (.aload_n 0, 1) := by decide +kernel
theorem dX0_endOfPage_40 : decode cX0_endOfPage 40 = .ok (.iload_n 3, 1) := by decide +kernel
theorem dX0_endOfPage_41 : decode cX0_endOfPage 41 = .ok (.invokevirtual 108, 3) := by decide +kernel
theorem dX0_endOfPage_44 : decode cX0_endOfPage 44 = .ok (.ifCond .ne (-36), 3) := by decide +kernel
theorem dX0_endOfPage_47 : decode cX0_endOfPage 47 = .ok (.iload_n 3, 1) := by decide +kernel
theorem dX0_endOfPage_48 : decode cX0_endOfPage 48 = .ok (.istore 4, 2) := by decide +kernel
theorem dX0_endOfPage_50 : decode cX0_endOfPage 50 = .ok (.goto (-42), 3) := by decide +kernel
theorem dX0_endOfPage_53 : decode cX0_endOfPage 53 = .ok (.iload 4, 2) := by decide +kernel
theorem dX0_endOfPage_55 : decode cX0_endOfPage 55 = .ok (.iconst (-1), 1) := by decide +kernel
theorem dX0_endOfPage_56 : decode cX0_endOfPage 56 = .ok (.if_icmp .ne 7, 3) := by decide +kernel
theorem dX0_endOfPage_59 : decode cX0_endOfPage 59 = .ok (.iload_n 3, 1) := by decide +kernel
theorem dX0_endOfPage_60 : decode cX0_endOfPage 60 = .ok (.goto 5, 3) := by decide +kernel
theorem dX0_endOfPage_63 : decode cX0_endOfPage 63 = .ok (.iload 4, 2) := by decide +kernel
theorem dX0_endOfPage_65 : decode cX0_endOfPage 65 = .ok (.ireturn, 1) := by decide +kernel
theorem dX0_endByTrying_0 : decode cX0_endByTrying 0 = .ok (.aload_n 0, 1) := by decide +kernel
theorem dX0_endByTrying_1 : decode cX0_endByTrying 1 = .ok (.iload_n 1, 1) := by decide +kernel
theorem dX0_endByTrying_2 : decode cX0_endByTrying 2 = .ok (.invokevirtual 111, 3) := by decide +kernel
theorem dX0_endByTrying_5 : decode cX0_endByTrying 5 = .ok (.istore_n 2, 1) := by decide +kernel
theorem dX0_endByTrying_6 : decode cX0_endByTrying 6 = .ok (.iload_n 2, 1) := by decide +kernel
theorem dX0_endByTrying_7 : decode cX0_endByTrying 7 = .ok (.istore_n 3, 1) := by decide +kernel
theorem dX0_endByTrying_8 : decode cX0_endByTrying 8 = .ok (.iload_n 3, 1) := by decide +kernel
theorem dX0_endByTrying_9 : decode cX0_endByTrying 9 = .ok (.iload_n 1, 1) := by decide +kernel
theorem dX0_endByTrying_10 : decode cX0_endByTrying 10 = .ok (.if_icmp .le 19, 3) := by decide +kernel
theorem dX0_endByTrying_13 : decode cX0_endByTrying 13 = .ok (.aload_n 0, 1) := by decide +kernel
theorem dX0_endByTrying_14 : decode cX0_endByTrying 14 = .ok (.iload_n 3, 1) := by decide +kernel
theorem dX0_endByTrying_15 : decode cX0_endByTrying 15 = .ok (.invokevirtual 108, 3) := by decide +kernel
theorem dX0_endByTrying_18 : decode cX0_endByTrying 18 = .ok (.ifCond .ne 5, 3) := by decide +kernel
theorem dX0_endByTrying_21 : decode cX0_endByTrying 21 = .ok (.iload_n 3, 1) := by decide +kernel
theorem dX0_endByTrying_22 : decode cX0_endByTrying 22 = .ok (.ireturn, 1) := by decide +kernel
theorem dX0_endByTrying_23 : decode cX0_endByTrying 23 = .ok (.iinc 3 (-1), 3) := by decide +kernel
theorem dX0_endByTrying_26 : decode cX0_endByTrying 26 = .ok (.goto (-18), 3) := by decide +kernel
theorem dX0_endByTrying_29 : decode cX0_endByTrying 29 = .ok (.iload_n 2, 1) := by decide +kernel
theorem dX0_endByTrying_30 : decode cX0_endByTrying 30 = .ok (.ireturn, 1) := by decide +kernel
theorem dX0_endWithRoom_0 : decode cX0_endWithRoom 0 = .ok (.iconst 0, 1) := by decide +kernel
theorem dX0_endWithRoom_1 : decode cX0_endWithRoom 1 = .ok (.istore_n 2, 1) := by decide +kernel
theorem dX0_endWithRoom_2 : decode cX0_endWithRoom 2 = .ok (.iload_n 1, 1) := by decide +kernel
theorem dX0_endWithRoom_3 : decode cX0_endWithRoom 3 = .ok (.istore_n 3, 1) := by decide +kernel
theorem dX0_endWithRoom_4 : decode cX0_endWithRoom 4 = .ok (.iload_n 3, 1) := by decide +kernel
theorem dX0_endWithRoom_5 : decode cX0_endWithRoom 5 = .ok (.aload_n 0, 1) := by decide +kernel
theorem dX0_endWithRoom_6 : decode cX0_endWithRoom 6 = .ok (.getfield 14, 3) := by decide +kernel
theorem dX0_endWithRoom_9 : decode cX0_endWithRoom 9 = .ok (.invokevirtual 46, 3) := by decide +kernel
theorem dX0_endWithRoom_12 : decode cX0_endWithRoom 12 = .ok (.if_icmp .ge 25, 3) := by decide +kernel
theorem dX0_endWithRoom_15 : decode cX0_endWithRoom 15 = .ok (.iload_n 2, 1) := by decide +kernel
theorem dX0_endWithRoom_16 : decode cX0_endWithRoom 16 = .ok (.aload_n 0, 1) := by decide +kernel
theorem dX0_endWithRoom_17 : decode cX0_endWithRoom 17 = .ok (.iload_n 3, 1) := by decide +kernel
theorem dX0_endWithRoom_18 : decode cX0_endWithRoom 18 = .ok (.invokevirtual 105, 3) := by decide +kernel
theorem dX0_endWithRoom_21 : decode cX0_endWithRoom 21 = .ok (.iadd, 1) := by decide +kernel
theorem dX0_endWithRoom_22 : decode cX0_endWithRoom 22 = .ok (.istore_n 2, 1) := by decide +kernel
theorem dX0_endWithRoom_23 : decode cX0_endWithRoom 23 = .ok (.iload_n 2, 1) := by decide +kernel
theorem dX0_endWithRoom_24 : decode cX0_endWithRoom 24 = .ok (.bipush 6, 2) := by decide +kernel
theorem dX0_endWithRoom_26 : decode cX0_endWithRoom 26 = .ok (.if_icmp .le 5, 3) := by decide +kernel
theorem dX0_endWithRoom_29 : decode cX0_endWithRoom 29 = .ok (.iload_n 3, 1) := by decide +kernel
theorem dX0_endWithRoom_30 : decode cX0_endWithRoom 30 = .ok (.ireturn, 1) := by decide +kernel
theorem dX0_endWithRoom_31 : decode cX0_endWithRoom 31 = .ok (.iinc 3 1, 3) := by decide +kernel
theorem dX0_endWithRoom_34 : decode cX0_endWithRoom 34 = .ok (.goto (-30), 3) := by decide +kernel
theorem dX0_endWithRoom_37 : decode cX0_endWithRoom 37 = .ok (.aload_n 0, 1) := by decide +kernel
theorem dX0_endWithRoom_38 : decode cX0_endWithRoom 38 = .ok (.getfield 14, 3) := by decide +kernel
theorem dX0_endWithRoom_41 : decode cX0_endWithRoom 41 = .ok (.invokevirtual 46, 3) := by decide +kernel
theorem dX0_endWithRoom_44 : decode cX0_endWithRoom 44 = .ok (.ireturn, 1) := by decide +kernel
theorem dX0_isBadCut_0 : decode cX0_isBadCut 0 = .ok (.iload_n 1, 1) := by decide +kernel
theorem dX0_isBadCut_1 : decode cX0_isBadCut 1 = .ok (.aload_n 0, 1) := by decide +kernel
theorem dX0_isBadCut_2 : decode cX0_isBadCut 2 = .ok (.getfield 14, 3) := by decide +kernel
theorem dX0_isBadCut_5 : decode cX0_isBadCut 5 = .ok (.invokevirtual 46, 3) := by decide +kernel
theorem dX0_isBadCut_8 : decode cX0_isBadCut 8 = .ok (.if_icmp .ge 15, 3) := by decide +kernel
theorem dX0_isBadCut_11 : decode cX0_isBadCut 11 = .ok (.aload_n 0, 1) := by decide +kernel
theorem dX0_isBadCut_12 : decode cX0_isBadCut 12 = .ok (.getfield 20, 3) := by decide +kernel
theorem dX0_isBadCut_15 : decode cX0_isBadCut 15 = .ok (.iload_n 1, 1) := by decide +kernel
theorem dX0_isBadCut_16 : decode cX0_isBadCut 16 = .ok (.invokevirtual 50, 3) := by decide +kernel
theorem dX0_isBadCut_19 : decode cX0_isBadCut 19 = .ok (.iconst 1, 1) := by decide +kernel
theorem dX0_isBadCut_20 : decode cX0_isBadCut 20 = .ok (.if_icmp .ne 5, 3) := by decide +kernel
theorem dX0_isBadCut_23 : decode cX0_isBadCut 23 = .ok (.iconst 0, 1) := by decide +kernel
theorem dX0_isBadCut_24 : decode cX0_isBadCut 24 = .ok (.ireturn, 1) := by decide +kernel
theorem dX0_isBadCut_25 : decode cX0_isBadCut 25 = .ok (.aload_n 0, 1) := by decide +kernel
theorem dX0_isBadCut_26 : decode cX0_isBadCut 26 = .ok (.getfield 20, 3) := by decide +kernel
theorem dX0_isBadCut_29 : decode cX0_isBadCut 29 = .ok (.iload_n 1, 1) := by decide +kernel
theorem dX0_isBadCut_30 : decode cX0_isBadCut 30 = .ok (.iconst 1, 1) := by decide +kernel
theorem dX0_isBadCut_31 : decode cX0_isBadCut 31 = .ok (.isub, 1) := by decide +kernel
theorem dX0_isBadCut_32 : decode cX0_isBadCut 32 = .ok (.invokevirtual 50, 3) := by decide +kernel
theorem dX0_isBadCut_35 : decode cX0_isBadCut 35 = .ok (.iconst 1, 1) := by decide +kernel
theorem dX0_isBadCut_36 : decode cX0_isBadCut 36 = .ok (.if_icmp .ne 7, 3) := by decide +kernel
theorem dX0_isBadCut_39 : decode cX0_isBadCut 39 = .ok (.iconst 1, 1) := by decide +kernel
theorem dX0_isBadCut_40 : decode cX0_isBadCut 40 = .ok (.goto 4, 3) := by decide +kernel
theorem dX0_isBadCut_43 : decode cX0_isBadCut 43 = .ok (.iconst 0, 1) := by decide +kernel
theorem dX0_isBadCut_44 : decode cX0_isBadCut 44 = .ok (.istore_n 2, 1) := by decide +kernel
theorem dX0_isBadCut_45 : decode cX0_isBadCut 45 = .ok (.iload_n 1, 1) := by decide +kernel
theorem dX0_isBadCut_46 : decode cX0_isBadCut 46 = .ok (.iconst 1, 1) := by decide +kernel
theorem dX0_isBadCut_47 : decode cX0_isBadCut 47 = .ok (.iadd, 1) := by decide +kernel
theorem dX0_isBadCut_48 : decode cX0_isBadCut 48 = .ok (.aload_n 0, 1) := by decide +kernel
theorem dX0_isBadCut_49 : decode cX0_isBadCut 49 = .ok (.getfield 14, 3) := by decide +kernel
theorem dX0_isBadCut_52 : decode cX0_isBadCut 52 = .ok (.invokevirtual 46, 3) := by decide +kernel
theorem dX0_isBadCut_55 : decode cX0_isBadCut 55 = .ok (.if_icmp .eq 17, 3) := by decide +kernel
theorem dX0_isBadCut_58 : decode cX0_isBadCut 58 = .ok (.aload_n 0, 1) := by decide +kernel
theorem dX0_isBadCut_59 : decode cX0_isBadCut 59 = .ok (.getfield 20, 3) := by decide +kernel
theorem dX0_isBadCut_62 : decode cX0_isBadCut 62 = .ok (.iload_n 1, 1) := by decide +kernel
theorem dX0_isBadCut_63 : decode cX0_isBadCut 63 = .ok (.iconst 1, 1) := by decide +kernel
theorem dX0_isBadCut_64 : decode cX0_isBadCut 64 = .ok (.iadd, 1) := by decide +kernel
theorem dX0_isBadCut_65 : decode cX0_isBadCut 65 = .ok (.invokevirtual 50, 3) := by decide +kernel
theorem dX0_isBadCut_68 : decode cX0_isBadCut 68 = .ok (.iconst 1, 1) := by decide +kernel
theorem dX0_isBadCut_69 : decode cX0_isBadCut 69 = .ok (.if_icmp .ne 7, 3) := by decide +kernel
theorem dX0_isBadCut_72 : decode cX0_isBadCut 72 = .ok (.iconst 1, 1) := by decide +kernel
theorem dX0_isBadCut_73 : decode cX0_isBadCut 73 = .ok (.goto 4, 3) := by decide +kernel
theorem dX0_isBadCut_76 : decode cX0_isBadCut 76 = .ok (.iconst 0, 1) := by decide +kernel
theorem dX0_isBadCut_77 : decode cX0_isBadCut 77 = .ok (.istore_n 3, 1) := by decide +kernel
theorem dX0_isBadCut_78 : decode cX0_isBadCut 78 = .ok (.iload_n 2, 1) := by decide +kernel
theorem dX0_isBadCut_79 : decode cX0_isBadCut 79 = .ok (.ifCond .ne 7, 3) := by decide +kernel
theorem dX0_isBadCut_82 : decode cX0_isBadCut 82 = .ok (.iload_n 3, 1) := by decide +kernel
theorem dX0_isBadCut_83 : decode cX0_isBadCut 83 = .ok (.ifCond .eq 7, 3) := by decide +kernel
theorem dX0_isBadCut_86 : decode cX0_isBadCut 86 = .ok (.iconst 1, 1) := by decide +kernel
theorem dX0_isBadCut_87 : decode cX0_isBadCut 87 = .ok (.goto 4, 3) := by decide +kernel
theorem dX0_isBadCut_90 : decode cX0_isBadCut 90 = .ok (.iconst 0, 1) := by decide +kernel
theorem dX0_isBadCut_91 : decode cX0_isBadCut 91 = .ok (.ireturn, 1) := by decide +kernel
theorem dX1_init_0 : decode cX1_init 0 = .ok (.aload_n 0, 1) := by decide +kernel
theorem dX1_init_1 : decode cX1_init 1 = .ok (.invokespecial 3, 3) := by decide +kernel
theorem dX1_init_4 : decode cX1_init 4 = .ok (.aload_n 0, 1) := by decide +kernel
theorem dX1_init_5 : decode cX1_init 5 = .ok (.new 9, 3) := by decide +kernel
theorem dX1_init_8 : decode cX1_init 8 = .ok (.dup, 1) := by decide +kernel
theorem dX1_init_9 : decode cX1_init 9 = .ok (.bipush 90, 2) := by decide +kernel
theorem dX1_init_11 : decode cX1_init 11 = .ok (.invokespecial 11, 3) := by decide +kernel
theorem dX1_init_14 : decode cX1_init 14 = .ok (.putfield 14, 3) := by decide +kernel
theorem dX1_init_17 : decode cX1_init 17 = .ok (.aload_n 0, 1) := by decide +kernel
theorem dX1_init_18 : decode cX1_init 18 = .ok (.new 9, 3) := by decide +kernel
theorem dX1_init_21 : decode cX1_init 21 = .ok (.dup, 1) := by decide +kernel
theorem dX1_init_22 : decode cX1_init 22 = .ok (.bipush 90, 2) := by decide +kernel
theorem dX1_init_24 : decode cX1_init 24 = .ok (.invokespecial 11, 3) := by decide +kernel
theorem dX1_init_27 : decode cX1_init 27 = .ok (.putfield 20, 3) := by decide +kernel
theorem dX1_init_30 : decode cX1_init 30 = .ok (.aload_n 0, 1) := by decide +kernel
theorem dX1_init_31 : decode cX1_init 31 = .ok (.new 9, 3) := by decide +kernel
theorem dX1_init_34 : decode cX1_init 34 = .ok (.dup, 1) := by decide +kernel
theorem dX1_init_35 : decode cX1_init 35 = .ok (.bipush 90, 2) := by decide +kernel
theorem dX1_init_37 : decode cX1_init 37 = .ok (.invokespecial 11, 3) := by decide +kernel
theorem dX1_init_40 : decode cX1_init 40 = .ok (.putfield 23, 3) := by decide +kernel
theorem dX1_init_43 : decode cX1_init 43 = .ok (.aload_n 0, 1) := by decide +kernel
theorem dX1_init_44 : decode cX1_init 44 = .ok (.new 9, 3) := by decide +kernel
theorem dX1_init_47 : decode cX1_init 47 = .ok (.dup, 1) := by decide +kernel
theorem dX1_init_48 : decode cX1_init 48 = .ok (.bipush 90, 2) := by decide +kernel
theorem dX1_init_50 : decode cX1_init 50 = .ok (.invokespecial 11, 3) := by decide +kernel
theorem dX1_init_53 : decode cX1_init 53 = .ok (.putfield 26, 3) := by decide +kernel
theorem dX1_init_56 : decode cX1_init 56 = .ok (.aload_n 0, 1) := by decide +kernel
theorem dX1_init_57 : decode cX1_init 57 = .ok (.new 9, 3) := by decide +kernel
theorem dX1_init_60 : decode cX1_init 60 = .ok (.dup, 1) := by decide +kernel
theorem dX1_init_61 : decode cX1_init 61 = .ok (.bipush 90, 2) := by decide +kernel
theorem dX1_init_63 : decode cX1_init 63 = .ok (.invokespecial 11, 3) := by decide +kernel
theorem dX1_init_66 : decode cX1_init 66 = .ok (.putfield 29, 3) := by decide +kernel
theorem dX1_init_69 : decode cX1_init 69 = .ok (.aload_n 0, 1) := by decide +kernel
theorem dX1_init_70 : decode cX1_init 70 = .ok (.new 9, 3) := by decide +kernel
theorem dX1_init_73 : decode cX1_init 73 = .ok (.dup, 1) := by decide +kernel
theorem dX1_init_74 : decode cX1_init 74 = .ok (.bipush 90, 2) := by decide +kernel
theorem dX1_init_76 : decode cX1_init 76 = .ok (.invokespecial 11, 3) := by decide +kernel
theorem dX1_init_79 : decode cX1_init 79 = .ok (.putfield 32, 3) := by decide +kernel
theorem dX1_init_82 : decode cX1_init 82 = .ok (.aload_n 0, 1) := by decide +kernel
theorem dX1_init_83 : decode cX1_init 83 = .ok (.new 9, 3) := by decide +kernel
theorem dX1_init_86 : decode cX1_init 86 = .ok (.dup, 1) := by decide +kernel
theorem dX1_init_87 : decode cX1_init 87 = .ok (.bipush 90, 2) := by decide +kernel
theorem dX1_init_89 : decode cX1_init 89 = .ok (.invokespecial 11, 3) := by decide +kernel
theorem dX1_init_92 : decode cX1_init 92 = .ok (.putfield 35, 3) := by decide +kernel
theorem dX1_init_95 : decode cX1_init 95 = .ok (.aload_n 0, 1) := by decide +kernel
theorem dX1_init_96 : decode cX1_init 96 = .ok (.new 9, 3) := by decide +kernel
theorem dX1_init_99 : decode cX1_init 99 = .ok (.dup, 1) := by decide +kernel
theorem dX1_init_100 : decode cX1_init 100 = .ok (.bipush 90, 2) := by decide +kernel
theorem dX1_init_102 : decode cX1_init 102 = .ok (.invokespecial 11, 3) := by decide +kernel
theorem dX1_init_105 : decode cX1_init 105 = .ok (.putfield 38, 3) := by decide +kernel
theorem dX1_init_108 : decode cX1_init 108 = .ok (.aload_n 0, 1) := by decide +kernel
theorem dX1_init_109 : decode cX1_init 109 = .ok (.new 9, 3) := by decide +kernel
theorem dX1_init_112 : decode cX1_init 112 = .ok (.dup, 1) := by decide +kernel
theorem dX1_init_113 : decode cX1_init 113 = .ok (.bipush 90, 2) := by decide +kernel
theorem dX1_init_115 : decode cX1_init 115 = .ok (.invokespecial 11, 3) := by decide +kernel
theorem dX1_init_118 : decode cX1_init 118 = .ok (.putfield 41, 3) := by decide +kernel
theorem dX1_init_121 : decode cX1_init 121 = .ok (.return_, 1) := by decide +kernel
theorem dX1_addDeed_0 : decode cX1_addDeed 0 = .ok (.aload_n 0, 1) := by decide +kernel
theorem dX1_addDeed_1 : decode cX1_addDeed 1 = .ok (.getfield 14, 3) := by decide +kernel
theorem dX1_addDeed_4 : decode cX1_addDeed 4 = .ok (.iload_n 1, 1) := by decide +kernel
theorem dX1_addDeed_5 : decode cX1_addDeed 5 = .ok (.invokevirtual 44, 3) := by decide +kernel
theorem dX1_addDeed_8 : decode cX1_addDeed 8 = .ok (.aload_n 0, 1) := by decide +kernel
theorem dX1_addDeed_9 : decode cX1_addDeed 9 = .ok (.getfield 20, 3) := by decide +kernel
theorem dX1_addDeed_12 : decode cX1_addDeed 12 = .ok (.iload_n 2, 1) := by decide +kernel
theorem dX1_addDeed_13 : decode cX1_addDeed 13 = .ok (.invokevirtual 44, 3) := by decide +kernel
theorem dX1_addDeed_16 : decode cX1_addDeed 16 = .ok (.aload_n 0, 1) := by decide +kernel
theorem dX1_addDeed_17 : decode cX1_addDeed 17 = .ok (.getfield 23, 3) := by decide +kernel
theorem dX1_addDeed_20 : decode cX1_addDeed 20 = .ok (.iload_n 3, 1) := by decide +kernel
theorem dX1_addDeed_21 : decode cX1_addDeed 21 = .ok (.invokevirtual 44, 3) := by decide +kernel
theorem dX1_addDeed_24 : decode cX1_addDeed 24 = .ok (.aload_n 0, 1) := by decide +kernel
theorem dX1_addDeed_25 : decode cX1_addDeed 25 = .ok (.getfield 26, 3) := by decide +kernel
theorem dX1_addDeed_28 : decode cX1_addDeed 28 = .ok (.iload 4, 2) := by decide +kernel
theorem dX1_addDeed_30 : decode cX1_addDeed 30 = .ok (.invokevirtual 44, 3) := by decide +kernel
theorem dX1_addDeed_33 : decode cX1_addDeed 33 = .ok (.aload_n 0, 1) := by decide +kernel
theorem dX1_addDeed_34 : decode cX1_addDeed 34 = .ok (.getfield 14, 3) := by decide +kernel
theorem dX1_addDeed_37 : decode cX1_addDeed 37 = .ok (.invokevirtual 47, 3) := by decide +kernel
theorem dX1_addDeed_40 : decode cX1_addDeed 40 = .ok (.iconst 1, 1) := by decide +kernel
theorem dX1_addDeed_41 : decode cX1_addDeed 41 = .ok (.isub, 1) := by decide +kernel
theorem dX1_addDeed_42 : decode cX1_addDeed 42 = .ok (.ireturn, 1) := by decide +kernel
theorem dX1_addLine_0 : decode cX1_addLine 0 = .ok (.aload_n 0, 1) := by decide +kernel
theorem dX1_addLine_1 : decode cX1_addLine 1 = .ok (.getfield 29, 3) := by decide +kernel
theorem dX1_addLine_4 : decode cX1_addLine 4 = .ok (.iload_n 1, 1) := by decide +kernel
theorem dX1_addLine_5 : decode cX1_addLine 5 = .ok (.invokevirtual 44, 3) := by decide +kernel
theorem dX1_addLine_8 : decode cX1_addLine 8 = .ok (.aload_n 0, 1) := by decide +kernel
theorem dX1_addLine_9 : decode cX1_addLine 9 = .ok (.getfield 32, 3) := by decide +kernel
theorem dX1_addLine_12 : decode cX1_addLine 12 = .ok (.iload_n 2, 1) := by decide +kernel
theorem dX1_addLine_13 : decode cX1_addLine 13 = .ok (.invokevirtual 44, 3) := by decide +kernel
theorem dX1_addLine_16 : decode cX1_addLine 16 = .ok (.aload_n 0, 1) := by decide +kernel
theorem dX1_addLine_17 : decode cX1_addLine 17 = .ok (.getfield 35, 3) := by decide +kernel
theorem dX1_addLine_20 : decode cX1_addLine 20 = .ok (.iload_n 3, 1) := by decide +kernel
theorem dX1_addLine_21 : decode cX1_addLine 21 = .ok (.invokevirtual 44, 3) := by decide +kernel
theorem dX1_addLine_24 : decode cX1_addLine 24 = .ok (.aload_n 0, 1) := by decide +kernel
theorem dX1_addLine_25 : decode cX1_addLine 25 = .ok (.getfield 38, 3) := by decide +kernel
theorem dX1_addLine_28 : decode cX1_addLine 28 = .ok (.iload 4, 2) := by decide +kernel
theorem dX1_addLine_30 : decode cX1_addLine 30 = .ok (.ifCond .eq 7, 3) := by decide +kernel
theorem dX1_addLine_33 : decode cX1_addLine 33 = .ok (.iconst 1, 1) := by decide +kernel
theorem dX1_addLine_34 : decode cX1_addLine 34 = .ok (.goto 4, 3) := by decide +kernel
theorem dX1_addLine_37 : decode cX1_addLine 37 = .ok (.iconst 0, 1) := by decide +kernel
theorem dX1_addLine_38 : decode cX1_addLine 38 = .ok (.invokevirtual 44, 3) := by decide +kernel
theorem dX1_addLine_41 : decode cX1_addLine 41 = .ok (.aload_n 0, 1) := by decide +kernel
theorem dX1_addLine_42 : decode cX1_addLine 42 = .ok (.getfield 29, 3) := by decide +kernel
theorem dX1_addLine_45 : decode cX1_addLine 45 = .ok (.invokevirtual 47, 3) := by decide +kernel
theorem dX1_addLine_48 : decode cX1_addLine 48 = .ok (.iconst 1, 1) := by decide +kernel
theorem dX1_addLine_49 : decode cX1_addLine 49 = .ok (.isub, 1) := by decide +kernel
theorem dX1_addLine_50 : decode cX1_addLine 50 = .ok (.ireturn, 1) := by decide +kernel
theorem dX1_addNote_0 : decode cX1_addNote 0 = .ok (.aload_n 0, 1) := by decide +kernel
theorem dX1_addNote_1 : decode cX1_addNote 1 = .ok (.getfield 41, 3) := by decide +kernel
theorem dX1_addNote_4 : decode cX1_addNote 4 = .ok (.iload_n 1, 1) := by decide +kernel
theorem dX1_addNote_5 : decode cX1_addNote 5 = .ok (.invokevirtual 44, 3) := by decide +kernel
theorem dX1_addNote_8 : decode cX1_addNote 8 = .ok (.aload_n 0, 1) := by decide +kernel
theorem dX1_addNote_9 : decode cX1_addNote 9 = .ok (.getfield 41, 3) := by decide +kernel
theorem dX1_addNote_12 : decode cX1_addNote 12 = .ok (.invokevirtual 47, 3) := by decide +kernel
theorem dX1_addNote_15 : decode cX1_addNote 15 = .ok (.iconst 1, 1) := by decide +kernel
theorem dX1_addNote_16 : decode cX1_addNote 16 = .ok (.isub, 1) := by decide +kernel
theorem dX1_addNote_17 : decode cX1_addNote 17 = .ok (.ireturn, 1) := by decide +kernel
theorem dX1_deedCount_0 : decode cX1_deedCount 0 = .ok (.aload_n 0, 1) := by decide +kernel
theorem dX1_deedCount_1 : decode cX1_deedCount 1 = .ok (.getfield 14, 3) := by decide +kernel
theorem dX1_deedCount_4 : decode cX1_deedCount 4 = .ok (.invokevirtual 47, 3) := by decide +kernel
theorem dX1_deedCount_7 : decode cX1_deedCount 7 = .ok (.ireturn, 1) := by decide +kernel
theorem dX1_lineCount_0 : decode cX1_lineCount 0 = .ok (.aload_n 0, 1) := by decide +kernel
theorem dX1_lineCount_1 : decode cX1_lineCount 1 = .ok (.getfield 29, 3) := by decide +kernel
theorem dX1_lineCount_4 : decode cX1_lineCount 4 = .ok (.invokevirtual 47, 3) := by decide +kernel
theorem dX1_lineCount_7 : decode cX1_lineCount 7 = .ok (.ireturn, 1) := by decide +kernel
theorem dX1_noteCount_0 : decode cX1_noteCount 0 = .ok (.aload_n 0, 1) := by decide +kernel
theorem dX1_noteCount_1 : decode cX1_noteCount 1 = .ok (.getfield 41, 3) := by decide +kernel
theorem dX1_noteCount_4 : decode cX1_noteCount 4 = .ok (.invokevirtual 47, 3) := by decide +kernel
theorem dX1_noteCount_7 : decode cX1_noteCount 7 = .ok (.ireturn, 1) := by decide +kernel
theorem dX1_kindOf_0 : decode cX1_kindOf 0 = .ok (.aload_n 0, 1) := by decide +kernel
theorem dX1_kindOf_1 : decode cX1_kindOf 1 = .ok (.getfield 14, 3) := by decide +kernel
theorem dX1_kindOf_4 : decode cX1_kindOf 4 = .ok (.iload_n 1, 1) := by decide +kernel
theorem dX1_kindOf_5 : decode cX1_kindOf 5 = .ok (.invokevirtual 51, 3) := by decide +kernel
theorem dX1_kindOf_8 : decode cX1_kindOf 8 = .ok (.ireturn, 1) := by decide +kernel
theorem dX1_stampOf_0 : decode cX1_stampOf 0 = .ok (.aload_n 0, 1) := by decide +kernel
theorem dX1_stampOf_1 : decode cX1_stampOf 1 = .ok (.getfield 20, 3) := by decide +kernel
theorem dX1_stampOf_4 : decode cX1_stampOf 4 = .ok (.iload_n 1, 1) := by decide +kernel
theorem dX1_stampOf_5 : decode cX1_stampOf 5 = .ok (.invokevirtual 51, 3) := by decide +kernel
theorem dX1_stampOf_8 : decode cX1_stampOf 8 = .ok (.ireturn, 1) := by decide +kernel
theorem dX1_subjectOf_0 : decode cX1_subjectOf 0 = .ok (.aload_n 0, 1) := by decide +kernel
theorem dX1_subjectOf_1 : decode cX1_subjectOf 1 = .ok (.getfield 23, 3) := by decide +kernel
theorem dX1_subjectOf_4 : decode cX1_subjectOf 4 = .ok (.iload_n 1, 1) := by decide +kernel
theorem dX1_subjectOf_5 : decode cX1_subjectOf 5 = .ok (.invokevirtual 51, 3) := by decide +kernel
theorem dX1_subjectOf_8 : decode cX1_subjectOf 8 = .ok (.ireturn, 1) := by decide +kernel
theorem dX1_targetOf_0 : decode cX1_targetOf 0 = .ok (.aload_n 0, 1) := by decide +kernel
theorem dX1_targetOf_1 : decode cX1_targetOf 1 = .ok (.getfield 26, 3) := by decide +kernel
theorem dX1_targetOf_4 : decode cX1_targetOf 4 = .ok (.iload_n 1, 1) := by decide +kernel
theorem dX1_targetOf_5 : decode cX1_targetOf 5 = .ok (.invokevirtual 51, 3) := by decide +kernel
theorem dX1_targetOf_8 : decode cX1_targetOf 8 = .ok (.ireturn, 1) := by decide +kernel
theorem dX1_stampOfLine_0 : decode cX1_stampOfLine 0 = .ok (.aload_n 0, 1) := by decide +kernel
theorem dX1_stampOfLine_1 : decode cX1_stampOfLine 1 = .ok (.getfield 29, 3) := by decide +kernel
theorem dX1_stampOfLine_4 : decode cX1_stampOfLine 4 = .ok (.iload_n 1, 1) := by decide +kernel
theorem dX1_stampOfLine_5 : decode cX1_stampOfLine 5 = .ok (.invokevirtual 51, 3) := by decide +kernel
theorem dX1_stampOfLine_8 : decode cX1_stampOfLine 8 = .ok (.ireturn, 1) := by decide +kernel
theorem dX1_behindOf_0 : decode cX1_behindOf 0 = .ok (.aload_n 0, 1) := by decide +kernel
theorem dX1_behindOf_1 : decode cX1_behindOf 1 = .ok (.getfield 32, 3) := by decide +kernel
theorem dX1_behindOf_4 : decode cX1_behindOf 4 = .ok (.iload_n 1, 1) := by decide +kernel
theorem dX1_behindOf_5 : decode cX1_behindOf 5 = .ok (.invokevirtual 51, 3) := by decide +kernel
theorem dX1_behindOf_8 : decode cX1_behindOf 8 = .ok (.ireturn, 1) := by decide +kernel
theorem dX1_valueOf_0 : decode cX1_valueOf 0 = .ok (.aload_n 0, 1) := by decide +kernel
theorem dX1_valueOf_1 : decode cX1_valueOf 1 = .ok (.getfield 35, 3) := by decide +kernel
theorem dX1_valueOf_4 : decode cX1_valueOf 4 = .ok (.iload_n 1, 1) := by decide +kernel
theorem dX1_valueOf_5 : decode cX1_valueOf 5 = .ok (.invokevirtual 51, 3) := by decide +kernel
theorem dX1_valueOf_8 : decode cX1_valueOf 8 = .ok (.ireturn, 1) := by decide +kernel
theorem dX1_beginsParagraph_0 : decode cX1_beginsParagraph 0 = .ok (.aload_n 0, 1) := by decide +kernel
theorem dX1_beginsParagraph_1 : decode cX1_beginsParagraph 1 = .ok (.getfield 38, 3) := by decide +kernel
theorem dX1_beginsParagraph_4 : decode cX1_beginsParagraph 4 = .ok (.iload_n 1, 1) := by decide +kernel
theorem dX1_beginsParagraph_5 : decode cX1_beginsParagraph 5 = .ok (.invokevirtual 51, 3) := by decide +kernel
theorem dX1_beginsParagraph_8 : decode cX1_beginsParagraph 8 = .ok (.iconst 1, 1) := by decide +kernel
theorem dX1_beginsParagraph_9 : decode cX1_beginsParagraph 9 = .ok (.if_icmp .ne 7, 3) := by decide +kernel
theorem dX1_beginsParagraph_12 : decode cX1_beginsParagraph 12 = .ok (.iconst 1, 1) := by decide +kernel
theorem dX1_beginsParagraph_13 : decode cX1_beginsParagraph 13 = .ok (.goto 4, 3) := by decide +kernel
theorem dX1_beginsParagraph_16 : decode cX1_beginsParagraph 16 = .ok (.iconst 0, 1) := by decide +kernel
theorem dX1_beginsParagraph_17 : decode cX1_beginsParagraph 17 = .ok (.ireturn, 1) := by decide +kernel
theorem dX1_rowsOfNote_0 : decode cX1_rowsOfNote 0 = .ok (.aload_n 0, 1) := by decide +kernel
theorem dX1_rowsOfNote_1 : decode cX1_rowsOfNote 1 = .ok (.getfield 41, 3) := by decide +kernel
theorem dX1_rowsOfNote_4 : decode cX1_rowsOfNote 4 = .ok (.iload_n 1, 1) := by decide +kernel
theorem dX1_rowsOfNote_5 : decode cX1_rowsOfNote 5 = .ok (.invokevirtual 51, 3) := by decide +kernel
theorem dX1_rowsOfNote_8 : decode cX1_rowsOfNote 8 = .ok (.ireturn, 1) := by decide +kernel
theorem dX2_init_0 : decode cX2_init 0 = .ok (.aload_n 0, 1) := by decide +kernel
theorem dX2_init_1 : decode cX2_init 1 = .ok (.invokespecial 3, 3) := by decide +kernel
theorem dX2_init_4 : decode cX2_init 4 = .ok (.aload_n 0, 1) := by decide +kernel
theorem dX2_init_5 : decode cX2_init 5 = .ok (.iload_n 1, 1) := by decide +kernel
theorem dX2_init_6 : decode cX2_init 6 = .ok (.iconst 0, 1) := by decide +kernel
theorem dX2_init_7 : decode cX2_init 7 = .ok (.invokestatic 9, 3) := by decide +kernel
theorem dX2_init_10 : decode cX2_init 10 = .ok (.newarray .int, 2) := by decide +kernel
theorem dX2_init_12 : decode cX2_init 12 = .ok (.putfield 15, 3) := by decide +kernel
theorem dX2_init_15 : decode cX2_init 15 = .ok (.iconst 0, 1) := by decide +kernel
theorem dX2_init_16 : decode cX2_init 16 = .ok (.istore_n 2, 1) := by decide +kernel
theorem dX2_init_17 : decode cX2_init 17 = .ok (.iload_n 2, 1) := by decide +kernel
theorem dX2_init_18 : decode cX2_init 18 = .ok (.aload_n 0, 1) := by decide +kernel
theorem dX2_init_19 : decode cX2_init 19 = .ok (.getfield 15, 3) := by decide +kernel
theorem dX2_init_22 : decode cX2_init 22 = .ok (.arraylength, 1) := by decide +kernel
theorem dX2_init_23 : decode cX2_init 23 = .ok (.if_icmp .ge 16, 3) := by decide +kernel
theorem dX2_init_26 : decode cX2_init 26 = .ok (.aload_n 0, 1) := by decide +kernel
theorem dX2_init_27 : decode cX2_init 27 = .ok (.getfield 15, 3) := by decide +kernel
theorem dX2_init_30 : decode cX2_init 30 = .ok (.iload_n 2, 1) := by decide +kernel
theorem dX2_init_31 : decode cX2_init 31 = .ok (.iconst (-1), 1) := by decide +kernel
theorem dX2_init_32 : decode cX2_init 32 = .ok (.iastore, 1) := by decide +kernel
theorem dX2_init_33 : decode cX2_init 33 = .ok (.iinc 2 1, 3) := by decide +kernel
theorem dX2_init_36 : decode cX2_init 36 = .ok (.goto (-19), 3) := by decide +kernel
theorem dX2_init_39 : decode cX2_init 39 = .ok (.return_, 1) := by decide +kernel
theorem dX2_size_0 : decode cX2_size 0 = .ok (.aload_n 0, 1) := by decide +kernel
theorem dX2_size_1 : decode cX2_size 1 = .ok (.getfield 21, 3) := by decide +kernel
theorem dX2_size_4 : decode cX2_size 4 = .ok (.ireturn, 1) := by decide +kernel
theorem dX2_at_0 : decode cX2_at 0 = .ok (.iload_n 1, 1) := by decide +kernel
theorem dX2_at_1 : decode cX2_at 1 = .ok (.ifCond .lt 21, 3) := by decide +kernel
theorem dX2_at_4 : decode cX2_at 4 = .ok (.iload_n 1, 1) := by decide +kernel
theorem dX2_at_5 : decode cX2_at 5 = .ok (.aload_n 0, 1) := by decide +kernel
theorem dX2_at_6 : decode cX2_at 6 = .ok (.getfield 15, 3) := by decide +kernel
theorem dX2_at_9 : decode cX2_at 9 = .ok (.arraylength, 1) := by decide +kernel
theorem dX2_at_10 : decode cX2_at 10 = .ok (.if_icmp .ge 12, 3) := by decide +kernel
theorem dX2_at_13 : decode cX2_at 13 = .ok (.aload_n 0, 1) := by decide +kernel
theorem dX2_at_14 : decode cX2_at 14 = .ok (.getfield 15, 3) := by decide +kernel
theorem dX2_at_17 : decode cX2_at 17 = .ok (.iload_n 1, 1) := by decide +kernel
theorem dX2_at_18 : decode cX2_at 18 = .ok (.iaload, 1) := by decide +kernel
theorem dX2_at_19 : decode cX2_at 19 = .ok (.goto 4, 3) := by decide +kernel
theorem dX2_at_22 : decode cX2_at 22 = .ok (.iconst (-1), 1) := by decide +kernel
theorem dX2_at_23 : decode cX2_at 23 = .ok (.ireturn, 1) := by decide +kernel
theorem dX2_put_0 : decode cX2_put 0 = .ok (.iload_n 1, 1) := by decide +kernel
theorem dX2_put_1 : decode cX2_put 1 = .ok (.ifCond .lt 19, 3) := by decide +kernel
theorem dX2_put_4 : decode cX2_put 4 = .ok (.iload_n 1, 1) := by decide +kernel
theorem dX2_put_5 : decode cX2_put 5 = .ok (.aload_n 0, 1) := by decide +kernel
theorem dX2_put_6 : decode cX2_put 6 = .ok (.getfield 15, 3) := by decide +kernel
theorem dX2_put_9 : decode cX2_put 9 = .ok (.arraylength, 1) := by decide +kernel
theorem dX2_put_10 : decode cX2_put 10 = .ok (.if_icmp .ge 10, 3) := by decide +kernel
theorem dX2_put_13 : decode cX2_put 13 = .ok (.aload_n 0, 1) := by decide +kernel
theorem dX2_put_14 : decode cX2_put 14 = .ok (.getfield 15, 3) := by decide +kernel
theorem dX2_put_17 : decode cX2_put 17 = .ok (.iload_n 1, 1) := by decide +kernel
theorem dX2_put_18 : decode cX2_put 18 = .ok (.iload_n 2, 1) := by decide +kernel
theorem dX2_put_19 : decode cX2_put 19 = .ok (.iastore, 1) := by decide +kernel
theorem dX2_put_20 : decode cX2_put 20 = .ok (.return_, 1) := by decide +kernel
theorem dX2_add_0 : decode cX2_add 0 = .ok (.aload_n 0, 1) := by decide +kernel
theorem dX2_add_1 : decode cX2_add 1 = .ok (.aload_n 0, 1) := by decide +kernel
theorem dX2_add_2 : decode cX2_add 2 = .ok (.getfield 21, 3) := by decide +kernel
theorem dX2_add_5 : decode cX2_add 5 = .ok (.iload_n 1, 1) := by decide +kernel
theorem dX2_add_6 : decode cX2_add 6 = .ok (.invokevirtual 25, 3) := by decide +kernel
theorem dX2_add_9 : decode cX2_add 9 = .ok (.return_, 1) := by decide +kernel
theorem dX2_putBetween_0 : decode cX2_putBetween 0 = .ok (.iload_n 1, 1) := by decide +kernel
theorem dX2_putBetween_1 : decode cX2_putBetween 1 = .ok (.ifCond .lt 23, 3) := by decide +kernel
theorem dX2_putBetween_4 : decode cX2_putBetween 4 = .ok (.iload_n 1, 1) := by decide +kernel
theorem dX2_putBetween_5 : decode cX2_putBetween 5 = .ok (.aload_n 0, 1) := by decide +kernel
theorem dX2_putBetween_6 : decode cX2_putBetween 6 = .ok (.getfield 21, 3) := by decide +kernel
theorem dX2_putBetween_9 : decode cX2_putBetween 9 = .ok (.if_icmp .gt 15, 3) := by decide +kernel
theorem dX2_putBetween_12 : decode cX2_putBetween 12 = .ok (.aload_n 0, 1) := by decide +kernel
theorem dX2_putBetween_13 : decode cX2_putBetween 13 = .ok (.getfield 21, 3) := by decide +kernel
theorem dX2_putBetween_16 : decode cX2_putBetween 16 = .ok (.aload_n 0, 1) := by decide +kernel
theorem dX2_putBetween_17 : decode cX2_putBetween 17 = .ok (.getfield 15, 3) := by decide +kernel
theorem dX2_putBetween_20 : decode cX2_putBetween 20 = .ok (.arraylength, 1) := by decide +kernel
theorem dX2_putBetween_21 : decode cX2_putBetween 21 = .ok (.if_icmp .lt 4, 3) := by decide +kernel
theorem dX2_putBetween_24 : decode cX2_putBetween 24 = .ok (.return_, 1) := by decide +kernel
theorem dX2_putBetween_25 : decode cX2_putBetween 25 = .ok (.aload_n 0, 1) := by decide +kernel
theorem dX2_putBetween_26 : decode cX2_putBetween 26 = .ok (.getfield 21, 3) := by decide +kernel
theorem dX2_putBetween_29 : decode cX2_putBetween 29 = .ok (.istore_n 3, 1) := by decide +kernel
theorem dX2_putBetween_30 : decode cX2_putBetween 30 = .ok (.iload_n 3, 1) := by decide +kernel
theorem dX2_putBetween_31 : decode cX2_putBetween 31 = .ok (.iload_n 1, 1) := by decide +kernel
theorem dX2_putBetween_32 : decode cX2_putBetween 32 = .ok (.if_icmp .le 21, 3) := by decide +kernel
theorem dX2_putBetween_35 : decode cX2_putBetween 35 = .ok (.aload_n 0, 1) := by decide +kernel
theorem dX2_putBetween_36 : decode cX2_putBetween 36 = .ok (.iload_n 3, 1) := by decide +kernel
theorem dX2_putBetween_37 : decode cX2_putBetween 37 = .ok (.aload_n 0, 1) := by decide +kernel
theorem dX2_putBetween_38 : decode cX2_putBetween 38 = .ok (.iload_n 3, 1) := by decide +kernel
theorem dX2_putBetween_39 : decode cX2_putBetween 39 = .ok (.iconst 1, 1) := by decide +kernel
theorem dX2_putBetween_40 : decode cX2_putBetween 40 = .ok (.isub, 1) := by decide +kernel
theorem dX2_putBetween_41 : decode cX2_putBetween 41 = .ok (.invokevirtual 29, 3) := by decide +kernel
theorem dX2_putBetween_44 : decode cX2_putBetween 44 = .ok (.invokevirtual 33, 3) := by decide +kernel
theorem dX2_putBetween_47 : decode cX2_putBetween 47 = .ok (.iinc 3 (-1), 3) := by decide +kernel
theorem dX2_putBetween_50 : decode cX2_putBetween 50 = .ok (.goto (-20), 3) := by decide +kernel
theorem dX2_putBetween_53 : decode cX2_putBetween 53 = .ok (.aload_n 0, 1) := by decide +kernel
theorem dX2_putBetween_54 : decode cX2_putBetween 54 = .ok (.iload_n 1, 1) := by decide +kernel
theorem dX2_putBetween_55 : decode cX2_putBetween 55 = .ok (.iload_n 2, 1) := by decide +kernel
theorem dX2_putBetween_56 : decode cX2_putBetween 56 = .ok (.invokevirtual 33, 3) := by decide +kernel
theorem dX2_putBetween_59 : decode cX2_putBetween 59 = .ok (.aload_n 0, 1) := by decide +kernel
theorem dX2_putBetween_60 : decode cX2_putBetween 60 = .ok (.dup, 1) := by decide +kernel
theorem dX2_putBetween_61 : decode cX2_putBetween 61 = .ok (.getfield 21, 3) := by decide +kernel
theorem dX2_putBetween_64 : decode cX2_putBetween 64 = .ok (.iconst 1, 1) := by decide +kernel
theorem dX2_putBetween_65 : decode cX2_putBetween 65 = .ok (.iadd, 1) := by decide +kernel
theorem dX2_putBetween_66 : decode cX2_putBetween 66 = .ok (.putfield 21, 3) := by decide +kernel
theorem dX2_putBetween_69 : decode cX2_putBetween 69 = .ok (.return_, 1) := by decide +kernel
theorem dX2_clear_0 : decode cX2_clear 0 = .ok (.aload_n 0, 1) := by decide +kernel
theorem dX2_clear_1 : decode cX2_clear 1 = .ok (.iconst 0, 1) := by decide +kernel
theorem dX2_clear_2 : decode cX2_clear 2 = .ok (.putfield 21, 3) := by decide +kernel
theorem dX2_clear_5 : decode cX2_clear 5 = .ok (.return_, 1) := by decide +kernel
theorem dX2_placeOf_0 : decode cX2_placeOf 0 = .ok (.iconst 0, 1) := by decide +kernel
theorem dX2_placeOf_1 : decode cX2_placeOf 1 = .ok (.istore_n 2, 1) := by decide +kernel
theorem dX2_placeOf_2 : decode cX2_placeOf 2 = .ok (.iload_n 2, 1) := by decide +kernel
theorem dX2_placeOf_3 : decode cX2_placeOf 3 = .ok (.aload_n 0, 1) := by decide +kernel
theorem dX2_placeOf_4 : decode cX2_placeOf 4 = .ok (.getfield 21, 3) := by decide +kernel
theorem dX2_placeOf_7 : decode cX2_placeOf 7 = .ok (.if_icmp .ge 20, 3) := by decide +kernel
theorem dX2_placeOf_10 : decode cX2_placeOf 10 = .ok (.aload_n 0, 1) := by decide +kernel
theorem dX2_placeOf_11 : decode cX2_placeOf 11 = .ok (.iload_n 2, 1) := by decide +kernel
theorem dX2_placeOf_12 : decode cX2_placeOf 12 = .ok (.invokevirtual 29, 3) := by decide +kernel
theorem dX2_placeOf_15 : decode cX2_placeOf 15 = .ok (.iload_n 1, 1) := by decide +kernel
theorem dX2_placeOf_16 : decode cX2_placeOf 16 = .ok (.if_icmp .ne 5, 3) := by decide +kernel
theorem dX2_placeOf_19 : decode cX2_placeOf 19 = .ok (.iload_n 2, 1) := by decide +kernel
theorem dX2_placeOf_20 : decode cX2_placeOf 20 = .ok (.ireturn, 1) := by decide +kernel
theorem dX2_placeOf_21 : decode cX2_placeOf 21 = .ok (.iinc 2 1, 3) := by decide +kernel
theorem dX2_placeOf_24 : decode cX2_placeOf 24 = .ok (.goto (-22), 3) := by decide +kernel
theorem dX2_placeOf_27 : decode cX2_placeOf 27 = .ok (.iconst (-1), 1) := by decide +kernel
theorem dX2_placeOf_28 : decode cX2_placeOf 28 = .ok (.ireturn, 1) := by decide +kernel
theorem dX3_init_0 : decode cX3_init 0 = .ok (.aload_n 0, 1) := by decide +kernel
theorem dX3_init_1 : decode cX3_init 1 = .ok (.invokespecial 3, 3) := by decide +kernel
theorem dX3_init_4 : decode cX3_init 4 = .ok (.aload_n 0, 1) := by decide +kernel
theorem dX3_init_5 : decode cX3_init 5 = .ok (.new 9, 3) := by decide +kernel
theorem dX3_init_8 : decode cX3_init 8 = .ok (.dup, 1) := by decide +kernel
theorem dX3_init_9 : decode cX3_init 9 = .ok (.bipush 90, 2) := by decide +kernel
theorem dX3_init_11 : decode cX3_init 11 = .ok (.invokespecial 11, 3) := by decide +kernel
theorem dX3_init_14 : decode cX3_init 14 = .ok (.putfield 14, 3) := by decide +kernel
theorem dX3_init_17 : decode cX3_init 17 = .ok (.aload_n 0, 1) := by decide +kernel
theorem dX3_init_18 : decode cX3_init 18 = .ok (.new 9, 3) := by decide +kernel
theorem dX3_init_21 : decode cX3_init 21 = .ok (.dup, 1) := by decide +kernel
theorem dX3_init_22 : decode cX3_init 22 = .ok (.sipush 540, 3) := by decide +kernel
theorem dX3_init_25 : decode cX3_init 25 = .ok (.invokespecial 11, 3) := by decide +kernel
theorem dX3_init_28 : decode cX3_init 28 = .ok (.putfield 20, 3) := by decide +kernel
theorem dX3_init_31 : decode cX3_init 31 = .ok (.aload_n 0, 1) := by decide +kernel
theorem dX3_init_32 : decode cX3_init 32 = .ok (.new 9, 3) := by decide +kernel
theorem dX3_init_35 : decode cX3_init 35 = .ok (.dup, 1) := by decide +kernel
theorem dX3_init_36 : decode cX3_init 36 = .ok (.sipush 540, 3) := by decide +kernel
theorem dX3_init_39 : decode cX3_init 39 = .ok (.invokespecial 11, 3) := by decide +kernel
theorem dX3_init_42 : decode cX3_init 42 = .ok (.putfield 23, 3) := by decide +kernel
theorem dX3_init_45 : decode cX3_init 45 = .ok (.aload_n 0, 1) := by decide +kernel
theorem dX3_init_46 : decode cX3_init 46 = .ok (.aload_n 1, 1) := by decide +kernel
theorem dX3_init_47 : decode cX3_init 47 = .ok (.putfield 26, 3) := by decide +kernel
theorem dX3_init_50 : decode cX3_init 50 = .ok (.return_, 1) := by decide +kernel
theorem dX3_hasPageToPrint_0 : decode cX3_hasPageToPrint 0 = .ok (.aload_n 0, 1) := by decide +kernel
theorem dX3_hasPageToPrint_1 : decode cX3_hasPageToPrint 1 = .ok (.getfield 14, 3) := by decide +kernel
theorem dX3_hasPageToPrint_4 : decode cX3_hasPageToPrint 4 = .ok (.invokevirtual 30, 3) := by decide +kernel
theorem dX3_hasPageToPrint_7 : decode cX3_hasPageToPrint 7 = .ok (.aload_n 0, 1) := by decide +kernel
theorem dX3_hasPageToPrint_8 : decode cX3_hasPageToPrint 8 = .ok (.getfield 26, 3) := by decide +kernel
theorem dX3_hasPageToPrint_11 : decode cX3_hasPageToPrint 11 = .ok (.invokevirtual 34, 3) := by decide +kernel
theorem dX3_hasPageToPrint_14 : decode cX3_hasPageToPrint 14 = .ok (.if_icmp .ge 7, 3) := by decide +kernel
theorem dX3_hasPageToPrint_17 : decode cX3_hasPageToPrint 17 = .ok (.iconst 1, 1) := by decide +kernel
theorem dX3_hasPageToPrint_18 : decode cX3_hasPageToPrint 18 = .ok (.goto 4, 3) := by decide +kernel
theorem dX3_hasPageToPrint_21 : decode cX3_hasPageToPrint 21 = .ok (.iconst 0, 1) := by decide +kernel
theorem dX3_hasPageToPrint_22 : decode cX3_hasPageToPrint 22 = .ok (.ireturn, 1) := by decide +kernel
theorem dX3_pageCount_0 : decode cX3_pageCount 0 = .ok (.aload_n 0, 1) := by decide +kernel
theorem dX3_pageCount_1 : decode cX3_pageCount 1 = .ok (.getfield 14, 3) := by decide +kernel
theorem dX3_pageCount_4 : decode cX3_pageCount 4 = .ok (.invokevirtual 30, 3) := by decide +kernel
theorem dX3_pageCount_7 : decode cX3_pageCount 7 = .ok (.ireturn, 1) := by decide +kernel
theorem dX3_sheetCount_0 : decode cX3_sheetCount 0 = .ok (.aload_n 0, 1) := by decide +kernel
theorem dX3_sheetCount_1 : decode cX3_sheetCount 1 = .ok (.getfield 14, 3) := by decide +kernel
theorem dX3_sheetCount_4 : decode cX3_sheetCount 4 = .ok (.invokevirtual 30, 3) := by decide +kernel
theorem dX3_sheetCount_7 : decode cX3_sheetCount 7 = .ok (.iconst 2, 1) := by decide +kernel
theorem dX3_sheetCount_8 : decode cX3_sheetCount 8 = .ok (.idiv, 1) := by decide +kernel
theorem dX3_sheetCount_9 : decode cX3_sheetCount 9 = .ok (.ireturn, 1) := by decide +kernel
theorem dX3_printSheet_0 : decode cX3_printSheet 0 = .ok (.iconst 0, 1) := by decide +kernel
theorem dX3_printSheet_1 : decode cX3_printSheet 1 = .ok (.istore_n 1, 1) := by decide +kernel
theorem dX3_printSheet_2 : decode cX3_printSheet 2 = .ok (.iconst 0, 1) := by decide +kernel
theorem dX3_printSheet_3 : decode cX3_printSheet 3 = .ok (.istore_n 2, 1) := by decide +kernel
theorem dX3_printSheet_4 : decode cX3_printSheet 4 = .ok (.iload_n 2, 1) := by decide +kernel
theorem dX3_printSheet_5 : decode cX3_printSheet 5 = .ok (.iconst 2, 1) := by decide +kernel
theorem dX3_printSheet_6 : decode cX3_printSheet 6 = .ok (.if_icmp .ge 16, 3) := by decide +kernel
theorem dX3_printSheet_9 : decode cX3_printSheet 9 = .ok (.iload_n 1, 1) := by decide +kernel
theorem dX3_printSheet_10 : decode cX3_printSheet 10 = .ok (.aload_n 0, 1) := by decide +kernel
theorem dX3_printSheet_11 : decode cX3_printSheet 11 = .ok (.invokevirtual 39, 3) := by decide +kernel
theorem dX3_printSheet_14 : decode cX3_printSheet 14 = .ok (.iadd, 1) := by decide +kernel
theorem dX3_printSheet_15 : decode cX3_printSheet 15 = .ok (.istore_n 1, 1) := by decide +kernel
theorem dX3_printSheet_16 : decode cX3_printSheet 16 = .ok (.iinc 2 1, 3) := by decide +kernel
theorem dX3_printSheet_19 : decode cX3_printSheet 19 = .ok (.goto (-15), 3) := by decide +kernel
theorem dX3_printSheet_22 : decode cX3_printSheet 22 = .ok (.iload_n 1, 1) := by decide +kernel
theorem dX3_printSheet_23 : decode cX3_printSheet 23 = .ok (.ireturn, 1) := by decide +kernel
theorem dX3_difference_0 : decode cX3_difference 0 = .ok (.aload_n 0, 1) := by decide +kernel
theorem dX3_difference_1 : decode cX3_difference 1 = .ok (.getfield 26, 3) := by decide +kernel
theorem dX3_difference_4 : decode cX3_difference 4 = .ok (.iload_n 1, 1) := by decide +kernel
theorem dX3_difference_5 : decode cX3_difference 5 = .ok (.invokevirtual 42, 3) := by decide +kernel
theorem dX3_difference_8 : decode cX3_difference 8 = .ok (.istore_n 2, 1) := by decide +kernel
theorem dX3_difference_9 : decode cX3_difference 9 = .ok (.aload_n 0, 1) := by decide +kernel
theorem dX3_difference_10 : decode cX3_difference 10 = .ok (.getfield 26, 3) := by decide +kernel
theorem dX3_difference_13 : decode cX3_difference 13 = .ok (.iload_n 1, 1) := by decide +kernel
theorem dX3_difference_14 : decode cX3_difference 14 = .ok (.iconst 1, 1) := by decide +kernel
theorem dX3_difference_15 : decode cX3_difference 15 = .ok (.iadd, 1) := by decide +kernel
theorem dX3_difference_16 : decode cX3_difference 16 = .ok (.invokevirtual 42, 3) := by decide +kernel
theorem dX3_difference_19 : decode cX3_difference 19 = .ok (.istore_n 3, 1) := by decide +kernel
theorem dX3_difference_20 : decode cX3_difference 20 = .ok (.iconst 0, 1) := by decide +kernel
theorem dX3_difference_21 : decode cX3_difference 21 = .ok (.istore 4, 2) := by decide +kernel
theorem dX3_difference_23 : decode cX3_difference 23 = .ok (.iload_n 2, 1) := by decide +kernel
theorem dX3_difference_24 : decode cX3_difference 24 = .ok (.istore 5, 2) := by decide +kernel
theorem dX3_difference_26 : decode cX3_difference 26 = .ok (.iload 5, 2) := by decide +kernel
theorem dX3_difference_28 : decode cX3_difference 28 = .ok (.iload_n 3, 1) := by decide +kernel
theorem dX3_difference_29 : decode cX3_difference 29 = .ok (.if_icmp .ge 38, 3) := by decide +kernel
theorem dX3_difference_32 : decode cX3_difference 32 = .ok (.aload_n 0, 1) := by decide +kernel
theorem dX3_difference_33 : decode cX3_difference 33 = .ok (.iload_n 1, 1) := by decide +kernel
theorem dX3_difference_34 : decode cX3_difference 34 = .ok (.aload_n 0, 1) := by decide +kernel
theorem dX3_difference_35 : decode cX3_difference 35 = .ok (.getfield 26, 3) := by decide +kernel
theorem dX3_difference_38 : decode cX3_difference 38 = .ok (.iload 5, 2) := by decide +kernel
theorem dX3_difference_40 : decode cX3_difference 40 = .ok (.invokevirtual 46, 3) := by decide +kernel
theorem dX3_difference_43 : decode cX3_difference 43 = .ok (.aload_n 0, 1) := by decide +kernel
theorem dX3_difference_44 : decode cX3_difference 44 = .ok (.getfield 26, 3) := by decide +kernel
theorem dX3_difference_47 : decode cX3_difference 47 = .ok (.iload 5, 2) := by decide +kernel
theorem dX3_difference_49 : decode cX3_difference 49 = .ok (.invokevirtual 49, 3) := by decide +kernel
theorem dX3_difference_52 : decode cX3_difference 52 = .ok (.invokevirtual 52, 3) := by decide +kernel
theorem dX3_difference_55 : decode cX3_difference 55 = .ok (.ifCond .eq 6, 3) := by decide +kernel
theorem dX3_difference_58 : decode cX3_difference 58 = .ok (.iinc 4 1, 3) := by decide +kernel
theorem dX3_difference_61 : decode cX3_difference 61 = .ok (.iinc 5 1, 3) := by decide +kernel
theorem dX3_difference_64 : decode cX3_difference 64 = .ok (.goto (-38), 3) := by decide +kernel
theorem dX3_difference_67 : decode cX3_difference 67 = .ok (.aload_n 0, 1) := by decide +kernel
theorem dX3_difference_68 : decode cX3_difference 68 = .ok (.getfield 14, 3) := by decide +kernel
theorem dX3_difference_71 : decode cX3_difference 71 = .ok (.iload_n 1, 1) := by decide +kernel
theorem dX3_difference_72 : decode cX3_difference 72 = .ok (.invokevirtual 56, 3) := by decide +kernel
theorem dX3_difference_75 : decode cX3_difference 75 = .ok (.iload 4, 2) := by decide +kernel
theorem dX3_difference_77 : decode cX3_difference 77 = .ok (.isub, 1) := by decide +kernel
theorem dX3_difference_78 : decode cX3_difference 78 = .ok (.iload_n 3, 1) := by decide +kernel
theorem dX3_difference_79 : decode cX3_difference 79 = .ok (.iadd, 1) := by decide +kernel
theorem dX3_difference_80 : decode cX3_difference 80 = .ok (.iload_n 2, 1) := by decide +kernel
theorem dX3_difference_81 : decode cX3_difference 81 = .ok (.isub, 1) := by decide +kernel
theorem dX3_difference_82 : decode cX3_difference 82 = .ok (.iload 4, 2) := by decide +kernel
theorem dX3_difference_84 : decode cX3_difference 84 = .ok (.isub, 1) := by decide +kernel
theorem dX3_difference_85 : decode cX3_difference 85 = .ok (.ireturn, 1) := by decide +kernel
theorem dX3_bill_0 : decode cX3_bill 0 = .ok (.iconst 0, 1) := by decide +kernel
theorem dX3_bill_1 : decode cX3_bill 1 = .ok (.istore_n 1, 1) := by decide +kernel
theorem dX3_bill_2 : decode cX3_bill 2 = .ok (.iconst 0, 1) := by decide +kernel
theorem dX3_bill_3 : decode cX3_bill 3 = .ok (.istore_n 2, 1) := by decide +kernel
theorem dX3_bill_4 : decode cX3_bill 4 = .ok (.iload_n 2, 1) := by decide +kernel
theorem dX3_bill_5 : decode cX3_bill 5 = .ok (.aload_n 0, 1) := by decide +kernel
theorem dX3_bill_6 : decode cX3_bill 6 = .ok (.invokevirtual 59, 3) := by decide +kernel
theorem dX3_bill_9 : decode cX3_bill 9 = .ok (.if_icmp .ge 22, 3) := by decide +kernel
theorem dX3_bill_12 : decode cX3_bill 12 = .ok (.iload_n 1, 1) := by decide +kernel
theorem dX3_bill_13 : decode cX3_bill 13 = .ok (.bipush 10, 2) := by decide +kernel
theorem dX3_bill_15 : decode cX3_bill 15 = .ok (.aload_n 0, 1) := by decide +kernel
theorem dX3_bill_16 : decode cX3_bill 16 = .ok (.iload_n 2, 1) := by decide +kernel
theorem dX3_bill_17 : decode cX3_bill 17 = .ok (.invokevirtual 60, 3) := by decide +kernel
theorem dX3_bill_20 : decode cX3_bill 20 = .ok (.invokestatic 63, 3) := by decide +kernel
theorem dX3_bill_23 : decode cX3_bill 23 = .ok (.iadd, 1) := by decide +kernel
theorem dX3_bill_24 : decode cX3_bill 24 = .ok (.istore_n 1, 1) := by decide +kernel
theorem dX3_bill_25 : decode cX3_bill 25 = .ok (.iinc 2 2, 3) := by decide +kernel
theorem dX3_bill_28 : decode cX3_bill 28 = .ok (.goto (-24), 3) := by decide +kernel
theorem dX3_bill_31 : decode cX3_bill 31 = .ok (.iload_n 1, 1) := by decide +kernel
theorem dX3_bill_32 : decode cX3_bill 32 = .ok (.ireturn, 1) := by decide +kernel
theorem dX3_printPage_0 : decode cX3_printPage 0 = .ok (.aload_n 0, 1) := by decide +kernel
theorem dX3_printPage_1 : decode cX3_printPage 1 = .ok (.getfield 14, 3) := by decide +kernel
theorem dX3_printPage_4 : decode cX3_printPage 4 = .ok (.invokevirtual 30, 3) := by decide +kernel
theorem dX3_printPage_7 : decode cX3_printPage 7 = .ok (.istore_n 1, 1) := by decide +kernel
theorem dX3_printPage_8 : decode cX3_printPage 8 = .ok (.aload_n 0, 1) := by decide +kernel
theorem dX3_printPage_9 : decode cX3_printPage 9 = .ok (.getfield 26, 3) := by decide +kernel
theorem dX3_printPage_12 : decode cX3_printPage 12 = .ok (.iload_n 1, 1) := by decide +kernel
theorem dX3_printPage_13 : decode cX3_printPage 13 = .ok (.invokevirtual 42, 3) := by decide +kernel
theorem dX3_printPage_16 : decode cX3_printPage 16 = .ok (.istore_n 2, 1) := by decide +kernel
theorem dX3_printPage_17 : decode cX3_printPage 17 = .ok (.aload_n 0, 1) := by decide +kernel
theorem dX3_printPage_18 : decode cX3_printPage 18 = .ok (.getfield 26, 3) := by decide +kernel
theorem dX3_printPage_21 : decode cX3_printPage 21 = .ok (.iload_n 1, 1) := by decide +kernel
theorem dX3_printPage_22 : decode cX3_printPage 22 = .ok (.iconst 1, 1) := by decide +kernel
theorem dX3_printPage_23 : decode cX3_printPage 23 = .ok (.iadd, 1) := by decide +kernel
theorem dX3_printPage_24 : decode cX3_printPage 24 = .ok (.invokevirtual 42, 3) := by decide +kernel
theorem dX3_printPage_27 : decode cX3_printPage 27 = .ok (.iload_n 2, 1) := by decide +kernel
theorem dX3_printPage_28 : decode cX3_printPage 28 = .ok (.isub, 1) := by decide +kernel
theorem dX3_printPage_29 : decode cX3_printPage 29 = .ok (.istore_n 3, 1) := by decide +kernel
theorem dX3_printPage_30 : decode cX3_printPage 30 = .ok (.iconst 0, 1) := by decide +kernel
theorem dX3_printPage_31 : decode cX3_printPage 31 = .ok (.istore 4, 2) := by decide +kernel
theorem dX3_printPage_33 : decode cX3_printPage 33 = .ok (.iload 4, 2) := by decide +kernel
theorem dX3_printPage_35 : decode cX3_printPage 35 = .ok (.iload_n 3, 1) := by decide +kernel
theorem dX3_printPage_36 : decode cX3_printPage 36 = .ok (.if_icmp .ge 59, 3) := by decide +kernel
theorem dX3_printPage_39 : decode cX3_printPage 39 = .ok (.aload_n 0, 1) := by decide +kernel
theorem dX3_printPage_40 : decode cX3_printPage 40 = .ok (.getfield 20, 3) := by decide +kernel
theorem dX3_printPage_43 : decode cX3_printPage 43 = .ok (.iload_n 1, 1) := by decide +kernel
theorem dX3_printPage_44 : decode cX3_printPage 44 = .ok (.bipush 6, 2) := by decide +kernel
theorem dX3_printPage_46 : decode cX3_printPage 46 = .ok (.imul, 1) := by decide +kernel
theorem dX3_printPage_47 : decode cX3_printPage 47 = .ok (.iload 4, 2) := by decide +kernel
theorem dX3_printPage_49 : decode cX3_printPage 49 = .ok (.iadd, 1) := by decide +kernel
theorem dX3_printPage_50 : decode cX3_printPage 50 = .ok (.aload_n 0, 1) := by decide +kernel
theorem dX3_printPage_51 : decode cX3_printPage 51 = .ok (.getfield 26, 3) := by decide +kernel
theorem dX3_printPage_54 : decode cX3_printPage 54 = .ok (.iload_n 2, 1) := by decide +kernel
theorem dX3_printPage_55 : decode cX3_printPage 55 = .ok (.iload 4, 2) := by decide +kernel
theorem dX3_printPage_57 : decode cX3_printPage 57 = .ok (.iadd, 1) := by decide +kernel
theorem dX3_printPage_58 : decode cX3_printPage 58 = .ok (.invokevirtual 46, 3) := by decide +kernel
theorem dX3_printPage_61 : decode cX3_printPage 61 = .ok (.invokevirtual 69, 3) := by decide +kernel
theorem dX3_printPage_64 : decode cX3_printPage 64 = .ok (.aload_n 0, 1) := by decide +kernel
theorem dX3_printPage_65 : decode cX3_printPage 65 = .ok (.getfield 23, 3) := by decide +kernel
theorem dX3_printPage_68 : decode cX3_printPage 68 = .ok (.iload_n 1, 1) := by decide +kernel
theorem dX3_printPage_69 : decode cX3_printPage 69 = .ok (.bipush 6, 2) := by decide +kernel
theorem dX3_printPage_71 : decode cX3_printPage 71 = .ok (.imul, 1) := by decide +kernel
theorem dX3_printPage_72 : decode cX3_printPage 72 = .ok (.iload 4, 2) := by decide +kernel
theorem dX3_printPage_74 : decode cX3_printPage 74 = .ok (.iadd, 1) := by decide +kernel
theorem dX3_printPage_75 : decode cX3_printPage 75 = .ok (.aload_n 0, 1) := by decide +kernel
theorem dX3_printPage_76 : decode cX3_printPage 76 = .ok (.getfield 26, 3) := by decide +kernel
theorem dX3_printPage_79 : decode cX3_printPage 79 = .ok (.iload_n 2, 1) := by decide +kernel
theorem dX3_printPage_80 : decode cX3_printPage 80 = .ok (.iload 4, 2) := by decide +kernel
theorem dX3_printPage_82 : decode cX3_printPage 82 = .ok (.iadd, 1) := by decide +kernel
theorem dX3_printPage_83 : decode cX3_printPage 83 = .ok (.invokevirtual 49, 3) := by decide +kernel
theorem dX3_printPage_86 : decode cX3_printPage 86 = .ok (.invokevirtual 69, 3) := by decide +kernel
theorem dX3_printPage_89 : decode cX3_printPage 89 = .ok (.iinc 4 1, 3) := by decide +kernel
theorem dX3_printPage_92 : decode cX3_printPage 92 = .ok (.goto (-59), 3) := by decide +kernel
theorem dX3_printPage_95 : decode cX3_printPage 95 = .ok (.aload_n 0, 1) := by decide +kernel
theorem dX3_printPage_96 : decode cX3_printPage 96 = .ok (.getfield 14, 3) := by decide +kernel
theorem dX3_printPage_99 : decode cX3_printPage 99 = .ok (.iload_n 3, 1) := by decide +kernel
theorem dX3_printPage_100 : decode cX3_printPage 100 = .ok (.invokevirtual 73, 3) := by decide +kernel
theorem dX3_printPage_103 : decode cX3_printPage 103 = .ok (.iload_n 3, 1) := by decide +kernel
theorem dX3_printPage_104 : decode cX3_printPage 104 = .ok (.ireturn, 1) := by decide +kernel
theorem dX3_isPrinted_0 : decode cX3_isPrinted 0 = .ok (.iconst 0, 1) := by decide +kernel
theorem dX3_isPrinted_1 : decode cX3_isPrinted 1 = .ok (.istore 4, 2) := by decide +kernel
theorem dX3_isPrinted_3 : decode cX3_isPrinted 3 = .ok (.iload 4, 2) := by decide +kernel
theorem dX3_isPrinted_5 : decode cX3_isPrinted 5 = .ok (.aload_n 0, 1) := by decide +kernel
theorem dX3_isPrinted_6 : decode cX3_isPrinted 6 = .ok (.getfield 14, 3) := by decide +kernel
theorem dX3_isPrinted_9 : decode cX3_isPrinted 9 = .ok (.iload_n 1, 1) := by decide +kernel
theorem dX3_isPrinted_10 : decode cX3_isPrinted 10 = .ok (.invokevirtual 56, 3) := by decide +kernel
theorem dX3_isPrinted_13 : decode cX3_isPrinted 13 = .ok (.if_icmp .ge 46, 3) := by decide +kernel
theorem dX3_isPrinted_16 : decode cX3_isPrinted 16 = .ok (.iload_n 1, 1) := by decide +kernel
theorem dX3_isPrinted_17 : decode cX3_isPrinted 17 = .ok (.bipush 6, 2) := by decide +kernel
theorem dX3_isPrinted_19 : decode cX3_isPrinted 19 = .ok (.imul, 1) := by decide +kernel
theorem dX3_isPrinted_20 : decode cX3_isPrinted 20 = .ok (.iload 4, 2) := by decide +kernel
theorem dX3_isPrinted_22 : decode cX3_isPrinted 22 = .ok (.iadd, 1) := by decide +kernel
theorem dX3_isPrinted_23 : decode cX3_isPrinted 23 = .ok (.istore 5, 2) := by decide +kernel
theorem dX3_isPrinted_25 : decode cX3_isPrinted 25 = .ok (.aload_n 0, 1) := by decide +kernel
theorem dX3_isPrinted_26 : decode cX3_isPrinted 26 = .ok (.getfield 20, 3) := by decide +kernel
theorem dX3_isPrinted_29 : decode cX3_isPrinted 29 = .ok (.iload 5, 2) := by decide +kernel
theorem dX3_isPrinted_31 : decode cX3_isPrinted 31 = .ok (.invokevirtual 56, 3) := by decide +kernel
theorem dX3_isPrinted_34 : decode cX3_isPrinted 34 = .ok (.iload_n 2, 1) := by decide +kernel
theorem dX3_isPrinted_35 : decode cX3_isPrinted 35 = .ok (.if_icmp .ne 18, 3) := by decide +kernel
theorem dX3_isPrinted_38 : decode cX3_isPrinted 38 = .ok (.aload_n 0, 1) := by decide +kernel
theorem dX3_isPrinted_39 : decode cX3_isPrinted 39 = .ok (.getfield 23, 3) := by decide +kernel
theorem dX3_isPrinted_42 : decode cX3_isPrinted 42 = .ok (.iload 5, 2) := by decide +kernel
theorem dX3_isPrinted_44 : decode cX3_isPrinted 44 = .ok (.invokevirtual 56, 3) := by decide +kernel
theorem dX3_isPrinted_47 : decode cX3_isPrinted 47 = .ok (.iload_n 3, 1) := by decide +kernel
theorem dX3_isPrinted_48 : decode cX3_isPrinted 48 = .ok (.if_icmp .ne 5, 3) := by decide +kernel
theorem dX3_isPrinted_51 : decode cX3_isPrinted 51 = .ok (.iconst 1, 1) := by decide +kernel
theorem dX3_isPrinted_52 : decode cX3_isPrinted 52 = .ok (.ireturn, 1) := by decide +kernel
theorem dX3_isPrinted_53 : decode cX3_isPrinted 53 = .ok (.iinc 4 1, 3) := by decide +kernel
theorem dX3_isPrinted_56 : decode cX3_isPrinted 56 = .ok (.goto (-53), 3) := by decide +kernel
theorem dX3_isPrinted_59 : decode cX3_isPrinted 59 = .ok (.iconst 0, 1) := by decide +kernel
theorem dX3_isPrinted_60 : decode cX3_isPrinted 60 = .ok (.ireturn, 1) := by decide +kernel
theorem dX3_slips_0 : decode cX3_slips 0 = .ok (.iconst 0, 1) := by decide +kernel
end
section
theorem dX3_slips_1 : decode cX3_slips 1 = .ok (.istore_n 2, 1) := by decide +kernel
theorem dX3_slips_2 : decode cX3_slips 2 = .ok (.iload_n 1, 1) := by decide +kernel
theorem dX3_slips_3 : decode cX3_slips 3 = .ok (.istore_n 3, 1) := by decide +kernel
theorem dX3_slips_4 : decode cX3_slips 4 = .ok (.iload_n 3, 1) := by decide +kernel
theorem dX3_slips_5 : decode cX3_slips 5 = .ok (.iload_n 1, 1) := by decide +kernel
theorem dX3_slips_6 : decode cX3_slips 6 = .ok (.iconst 2, 1) := by decide +kernel
theorem dX3_slips_7 : decode cX3_slips 7 = .ok (.iadd, 1) := by decide +kernel
theorem dX3_slips_8 : decode cX3_slips 8 = .ok (.if_icmp .ge 32, 3) := by decide +kernel
theorem dX3_slips_11 : decode cX3_slips 11 = .ok (.aload_n 0, 1) := by decide +kernel
theorem dX3_slips_12 : decode cX3_slips 12 = .ok (.iload_n 3, 1) := by decide +kernel
theorem dX3_slips_13 : decode cX3_slips 13 = .ok (.invokevirtual 76, 3) := by decide +kernel
theorem dX3_slips_16 : decode cX3_slips 16 = .ok (.istore 4, 2) := by decide +kernel
theorem dX3_slips_18 : decode cX3_slips 18 = .ok (.iload_n 2, 1) := by decide +kernel
theorem dX3_slips_19 : decode cX3_slips 19 = .ok (.iload 4, 2) := by decide +kernel
theorem dX3_slips_21 : decode cX3_slips 21 = .ok (.ifCond .ne 7, 3) := by decide +kernel
theorem dX3_slips_24 : decode cX3_slips 24 = .ok (.iconst 0, 1) := by decide +kernel
theorem dX3_slips_25 : decode cX3_slips 25 = .ok (.goto 7, 3) := by decide +kernel
theorem dX3_slips_28 : decode cX3_slips 28 = .ok (.iconst 1, 1) := by decide +kernel
theorem dX3_slips_29 : decode cX3_slips 29 = .ok (.iload 4, 2) := by decide +kernel
theorem dX3_slips_31 : decode cX3_slips 31 = .ok (.iadd, 1) := by decide +kernel
theorem dX3_slips_32 : decode cX3_slips 32 = .ok (.iadd, 1) := by decide +kernel
theorem dX3_slips_33 : decode cX3_slips 33 = .ok (.istore_n 2, 1) := by decide +kernel
theorem dX3_slips_34 : decode cX3_slips 34 = .ok (.iinc 3 1, 3) := by decide +kernel
theorem dX3_slips_37 : decode cX3_slips 37 = .ok (.goto (-33), 3) := by decide +kernel
theorem dX3_slips_40 : decode cX3_slips 40 = .ok (.iload_n 2, 1) := by decide +kernel
theorem dX3_slips_41 : decode cX3_slips 41 = .ok (.ireturn, 1) := by decide +kernel
theorem dX4_init_0 : decode cX4_init 0 = .ok (.aload_n 0, 1) := by decide +kernel
theorem dX4_init_1 : decode cX4_init 1 = .ok (.invokespecial 3, 3) := by decide +kernel
theorem dX4_init_4 : decode cX4_init 4 = .ok (.aload_n 0, 1) := by decide +kernel
theorem dX4_init_5 : decode cX4_init 5 = .ok (.new 9, 3) := by decide +kernel
theorem dX4_init_8 : decode cX4_init 8 = .ok (.dup, 1) := by decide +kernel
theorem dX4_init_9 : decode cX4_init 9 = .ok (.bipush 90, 2) := by decide +kernel
theorem dX4_init_11 : decode cX4_init 11 = .ok (.invokespecial 11, 3) := by decide +kernel
theorem dX4_init_14 : decode cX4_init 14 = .ok (.putfield 14, 3) := by decide +kernel
theorem dX4_init_17 : decode cX4_init 17 = .ok (.aload_n 0, 1) := by decide +kernel
theorem dX4_init_18 : decode cX4_init 18 = .ok (.new 9, 3) := by decide +kernel
theorem dX4_init_21 : decode cX4_init 21 = .ok (.dup, 1) := by decide +kernel
theorem dX4_init_22 : decode cX4_init 22 = .ok (.bipush 90, 2) := by decide +kernel
theorem dX4_init_24 : decode cX4_init 24 = .ok (.invokespecial 11, 3) := by decide +kernel
theorem dX4_init_27 : decode cX4_init 27 = .ok (.putfield 20, 3) := by decide +kernel
theorem dX4_init_30 : decode cX4_init 30 = .ok (.aload_n 0, 1) := by decide +kernel
theorem dX4_init_31 : decode cX4_init 31 = .ok (.iload_n 1, 1) := by decide +kernel
theorem dX4_init_32 : decode cX4_init 32 = .ok (.putfield 23, 3) := by decide +kernel
theorem dX4_init_35 : decode cX4_init 35 = .ok (.aload_n 0, 1) := by decide +kernel
theorem dX4_init_36 : decode cX4_init 36 = .ok (.new 27, 3) := by decide +kernel
theorem dX4_init_39 : decode cX4_init 39 = .ok (.dup, 1) := by decide +kernel
theorem dX4_init_40 : decode cX4_init 40 = .ok (.aload_n 2, 1) := by decide +kernel
theorem dX4_init_41 : decode cX4_init 41 = .ok (.invokespecial 29, 3) := by decide +kernel
theorem dX4_init_44 : decode cX4_init 44 = .ok (.putfield 32, 3) := by decide +kernel
theorem dX4_init_47 : decode cX4_init 47 = .ok (.aload_n 0, 1) := by decide +kernel
theorem dX4_init_48 : decode cX4_init 48 = .ok (.new 36, 3) := by decide +kernel
theorem dX4_init_51 : decode cX4_init 51 = .ok (.dup, 1) := by decide +kernel
theorem dX4_init_52 : decode cX4_init 52 = .ok (.aload_n 2, 1) := by decide +kernel
theorem dX4_init_53 : decode cX4_init 53 = .ok (.aload_n 0, 1) := by decide +kernel
theorem dX4_init_54 : decode cX4_init 54 = .ok (.getfield 32, 3) := by decide +kernel
theorem dX4_init_57 : decode cX4_init 57 = .ok (.invokespecial 38, 3) := by decide +kernel
theorem dX4_init_60 : decode cX4_init 60 = .ok (.putfield 41, 3) := by decide +kernel
theorem dX4_init_63 : decode cX4_init 63 = .ok (.return_, 1) := by decide +kernel
theorem dX4_nextStamp_0 : decode cX4_nextStamp 0 = .ok (.aload_n 0, 1) := by decide +kernel
theorem dX4_nextStamp_1 : decode cX4_nextStamp 1 = .ok (.dup, 1) := by decide +kernel
theorem dX4_nextStamp_2 : decode cX4_nextStamp 2 = .ok (.getfield 45, 3) := by decide +kernel
theorem dX4_nextStamp_5 : decode cX4_nextStamp 5 = .ok (.iconst 1, 1) := by decide +kernel
theorem dX4_nextStamp_6 : decode cX4_nextStamp 6 = .ok (.iadd, 1) := by decide +kernel
theorem dX4_nextStamp_7 : decode cX4_nextStamp 7 = .ok (.putfield 45, 3) := by decide +kernel
theorem dX4_nextStamp_10 : decode cX4_nextStamp 10 = .ok (.aload_n 0, 1) := by decide +kernel
theorem dX4_nextStamp_11 : decode cX4_nextStamp 11 = .ok (.getfield 45, 3) := by decide +kernel
theorem dX4_nextStamp_14 : decode cX4_nextStamp 14 = .ok (.iconst 4, 1) := by decide +kernel
theorem dX4_nextStamp_15 : decode cX4_nextStamp 15 = .ok (.imul, 1) := by decide +kernel
theorem dX4_nextStamp_16 : decode cX4_nextStamp 16 = .ok (.aload_n 0, 1) := by decide +kernel
theorem dX4_nextStamp_17 : decode cX4_nextStamp 17 = .ok (.getfield 23, 3) := by decide +kernel
theorem dX4_nextStamp_20 : decode cX4_nextStamp 20 = .ok (.iadd, 1) := by decide +kernel
theorem dX4_nextStamp_21 : decode cX4_nextStamp 21 = .ok (.ireturn, 1) := by decide +kernel
theorem dX4_take_0 : decode cX4_take 0 = .ok (.aload_n 0, 1) := by decide +kernel
theorem dX4_take_1 : decode cX4_take 1 = .ok (.iload_n 1, 1) := by decide +kernel
theorem dX4_take_2 : decode cX4_take 2 = .ok (.invokevirtual 48, 3) := by decide +kernel
theorem dX4_take_5 : decode cX4_take 5 = .ok (.aload_n 0, 1) := by decide +kernel
theorem dX4_take_6 : decode cX4_take 6 = .ok (.getfield 41, 3) := by decide +kernel
theorem dX4_take_9 : decode cX4_take 9 = .ok (.invokevirtual 51, 3) := by decide +kernel
theorem dX4_take_12 : decode cX4_take 12 = .ok (.return_, 1) := by decide +kernel
theorem dX4_takeAllOf_0 : decode cX4_takeAllOf 0 = .ok (.aload_n 0, 1) := by decide +kernel
theorem dX4_takeAllOf_1 : decode cX4_takeAllOf 1 = .ok (.getfield 14, 3) := by decide +kernel
theorem dX4_takeAllOf_4 : decode cX4_takeAllOf 4 = .ok (.invokevirtual 54, 3) := by decide +kernel
theorem dX4_takeAllOf_7 : decode cX4_takeAllOf 7 = .ok (.istore_n 2, 1) := by decide +kernel
theorem dX4_takeAllOf_8 : decode cX4_takeAllOf 8 = .ok (.iconst 0, 1) := by decide +kernel
theorem dX4_takeAllOf_9 : decode cX4_takeAllOf 9 = .ok (.istore_n 3, 1) := by decide +kernel
theorem dX4_takeAllOf_10 : decode cX4_takeAllOf 10 = .ok (.iload_n 3, 1) := by decide +kernel
theorem dX4_takeAllOf_11 : decode cX4_takeAllOf 11 = .ok (.aload_n 1, 1) := by decide +kernel
theorem dX4_takeAllOf_12 : decode cX4_takeAllOf 12 = .ok (.getfield 14, 3) := by decide +kernel
theorem dX4_takeAllOf_15 : decode cX4_takeAllOf 15 = .ok (.invokevirtual 54, 3) := by decide +kernel
theorem dX4_takeAllOf_18 : decode cX4_takeAllOf 18 = .ok (.if_icmp .ge 38, 3) := by decide +kernel
theorem dX4_takeAllOf_21 : decode cX4_takeAllOf 21 = .ok (.aload_n 1, 1) := by decide +kernel
theorem dX4_takeAllOf_22 : decode cX4_takeAllOf 22 = .ok (.getfield 14, 3) := by decide +kernel
theorem dX4_takeAllOf_25 : decode cX4_takeAllOf 25 = .ok (.iload_n 3, 1) := by decide +kernel
theorem dX4_takeAllOf_26 : decode cX4_takeAllOf 26 = .ok (.invokevirtual 58, 3) := by decide +kernel
theorem dX4_takeAllOf_29 : decode cX4_takeAllOf 29 = .ok (.istore 4, 2) := by decide +kernel
theorem dX4_takeAllOf_31 : decode cX4_takeAllOf 31 = .ok (.aload_n 0, 1) := by decide +kernel
theorem dX4_takeAllOf_32 : decode cX4_takeAllOf 32 = .ok (.getfield 20, 3) := by decide +kernel
theorem dX4_takeAllOf_35 : decode cX4_takeAllOf 35 = .ok (.iload 4, 2) := by decide +kernel
theorem dX4_takeAllOf_37 : decode cX4_takeAllOf 37 = .ok (.invokevirtual 58, 3) := by decide +kernel
theorem dX4_takeAllOf_40 : decode cX4_takeAllOf 40 = .ok (.iconst (-1), 1) := by decide +kernel
theorem dX4_takeAllOf_41 : decode cX4_takeAllOf 41 = .ok (.if_icmp .ne 9, 3) := by decide +kernel
theorem dX4_takeAllOf_44 : decode cX4_takeAllOf 44 = .ok (.aload_n 0, 1) := by decide +kernel
theorem dX4_takeAllOf_45 : decode cX4_takeAllOf 45 = .ok (.iload 4, 2) := by decide +kernel
theorem dX4_takeAllOf_47 : decode cX4_takeAllOf 47 = .ok (.invokevirtual 48, 3) := by decide +kernel
theorem dX4_takeAllOf_50 : decode cX4_takeAllOf 50 = .ok (.iinc 3 1, 3) := by decide +kernel
theorem dX4_takeAllOf_53 : decode cX4_takeAllOf 53 = .ok (.goto (-43), 3) := by decide +kernel
theorem dX4_takeAllOf_56 : decode cX4_takeAllOf 56 = .ok (.aload_n 0, 1) := by decide +kernel
theorem dX4_takeAllOf_57 : decode cX4_takeAllOf 57 = .ok (.aload_n 0, 1) := by decide +kernel
theorem dX4_takeAllOf_58 : decode cX4_takeAllOf 58 = .ok (.getfield 45, 3) := by decide +kernel
theorem dX4_takeAllOf_61 : decode cX4_takeAllOf 61 = .ok (.aload_n 1, 1) := by decide +kernel
theorem dX4_takeAllOf_62 : decode cX4_takeAllOf 62 = .ok (.getfield 45, 3) := by decide +kernel
theorem dX4_takeAllOf_65 : decode cX4_takeAllOf 65 = .ok (.invokestatic 62, 3) := by decide +kernel
theorem dX4_takeAllOf_68 : decode cX4_takeAllOf 68 = .ok (.putfield 45, 3) := by decide +kernel
theorem dX4_takeAllOf_71 : decode cX4_takeAllOf 71 = .ok (.aload_n 0, 1) := by decide +kernel
theorem dX4_takeAllOf_72 : decode cX4_takeAllOf 72 = .ok (.getfield 41, 3) := by decide +kernel
theorem dX4_takeAllOf_75 : decode cX4_takeAllOf 75 = .ok (.invokevirtual 51, 3) := by decide +kernel
theorem dX4_takeAllOf_78 : decode cX4_takeAllOf 78 = .ok (.aload_n 0, 1) := by decide +kernel
theorem dX4_takeAllOf_79 : decode cX4_takeAllOf 79 = .ok (.getfield 14, 3) := by decide +kernel
theorem dX4_takeAllOf_82 : decode cX4_takeAllOf 82 = .ok (.invokevirtual 54, 3) := by decide +kernel
theorem dX4_takeAllOf_85 : decode cX4_takeAllOf 85 = .ok (.iload_n 2, 1) := by decide +kernel
theorem dX4_takeAllOf_86 : decode cX4_takeAllOf 86 = .ok (.isub, 1) := by decide +kernel
theorem dX4_takeAllOf_87 : decode cX4_takeAllOf 87 = .ok (.ireturn, 1) := by decide +kernel
theorem dX4_deedCount_0 : decode cX4_deedCount 0 = .ok (.aload_n 0, 1) := by decide +kernel
theorem dX4_deedCount_1 : decode cX4_deedCount 1 = .ok (.getfield 14, 3) := by decide +kernel
theorem dX4_deedCount_4 : decode cX4_deedCount 4 = .ok (.invokevirtual 54, 3) := by decide +kernel
theorem dX4_deedCount_7 : decode cX4_deedCount 7 = .ok (.ireturn, 1) := by decide +kernel
theorem dX4_learn_0 : decode cX4_learn 0 = .ok (.aload_n 0, 1) := by decide +kernel
theorem dX4_learn_1 : decode cX4_learn 1 = .ok (.getfield 20, 3) := by decide +kernel
theorem dX4_learn_4 : decode cX4_learn 4 = .ok (.iload_n 1, 1) := by decide +kernel
theorem dX4_learn_5 : decode cX4_learn 5 = .ok (.aload_n 0, 1) := by decide +kernel
theorem dX4_learn_6 : decode cX4_learn 6 = .ok (.getfield 14, 3) := by decide +kernel
theorem dX4_learn_9 : decode cX4_learn 9 = .ok (.invokevirtual 54, 3) := by decide +kernel
theorem dX4_learn_12 : decode cX4_learn 12 = .ok (.invokevirtual 68, 3) := by decide +kernel
theorem dX4_learn_15 : decode cX4_learn 15 = .ok (.aload_n 0, 1) := by decide +kernel
theorem dX4_learn_16 : decode cX4_learn 16 = .ok (.getfield 14, 3) := by decide +kernel
theorem dX4_learn_19 : decode cX4_learn 19 = .ok (.iload_n 1, 1) := by decide +kernel
theorem dX4_learn_20 : decode cX4_learn 20 = .ok (.invokevirtual 72, 3) := by decide +kernel
theorem dX4_learn_23 : decode cX4_learn 23 = .ok (.aload_n 0, 1) := by decide +kernel
theorem dX4_learn_24 : decode cX4_learn 24 = .ok (.getfield 32, 3) := by decide +kernel
theorem dX4_learn_27 : decode cX4_learn 27 = .ok (.iload_n 1, 1) := by decide +kernel
theorem dX4_learn_28 : decode cX4_learn 28 = .ok (.invokevirtual 75, 3) := by decide +kernel
theorem dX4_learn_31 : decode cX4_learn 31 = .ok (.return_, 1) := by decide +kernel
theorem dX5_init_0 : decode cX5_init 0 = .ok (.aload_n 0, 1) := by decide +kernel
theorem dX5_init_1 : decode cX5_init 1 = .ok (.invokespecial 3, 3) := by decide +kernel
theorem dX5_init_4 : decode cX5_init 4 = .ok (.aload_n 0, 1) := by decide +kernel
theorem dX5_init_5 : decode cX5_init 5 = .ok (.new 9, 3) := by decide +kernel
theorem dX5_init_8 : decode cX5_init 8 = .ok (.dup, 1) := by decide +kernel
theorem dX5_init_9 : decode cX5_init 9 = .ok (.bipush 90, 2) := by decide +kernel
theorem dX5_init_11 : decode cX5_init 11 = .ok (.invokespecial 11, 3) := by decide +kernel
theorem dX5_init_14 : decode cX5_init 14 = .ok (.putfield 14, 3) := by decide +kernel
theorem dX5_init_17 : decode cX5_init 17 = .ok (.aload_n 0, 1) := by decide +kernel
theorem dX5_init_18 : decode cX5_init 18 = .ok (.new 9, 3) := by decide +kernel
theorem dX5_init_21 : decode cX5_init 21 = .ok (.dup, 1) := by decide +kernel
theorem dX5_init_22 : decode cX5_init 22 = .ok (.bipush 90, 2) := by decide +kernel
theorem dX5_init_24 : decode cX5_init 24 = .ok (.invokespecial 11, 3) := by decide +kernel
theorem dX5_init_27 : decode cX5_init 27 = .ok (.putfield 20, 3) := by decide +kernel
theorem dX5_init_30 : decode cX5_init 30 = .ok (.aload_n 0, 1) := by decide +kernel
theorem dX5_init_31 : decode cX5_init 31 = .ok (.new 9, 3) := by decide +kernel
theorem dX5_init_34 : decode cX5_init 34 = .ok (.dup, 1) := by decide +kernel
theorem dX5_init_35 : decode cX5_init 35 = .ok (.bipush 90, 2) := by decide +kernel
theorem dX5_init_37 : decode cX5_init 37 = .ok (.invokespecial 11, 3) := by decide +kernel
theorem dX5_init_40 : decode cX5_init 40 = .ok (.putfield 23, 3) := by decide +kernel
theorem dX5_init_43 : decode cX5_init 43 = .ok (.aload_n 0, 1) := by decide +kernel
theorem dX5_init_44 : decode cX5_init 44 = .ok (.new 9, 3) := by decide +kernel
theorem dX5_init_47 : decode cX5_init 47 = .ok (.dup, 1) := by decide +kernel
theorem dX5_init_48 : decode cX5_init 48 = .ok (.bipush 90, 2) := by decide +kernel
theorem dX5_init_50 : decode cX5_init 50 = .ok (.invokespecial 11, 3) := by decide +kernel
theorem dX5_init_53 : decode cX5_init 53 = .ok (.putfield 26, 3) := by decide +kernel
theorem dX5_init_56 : decode cX5_init 56 = .ok (.aload_n 0, 1) := by decide +kernel
theorem dX5_init_57 : decode cX5_init 57 = .ok (.new 9, 3) := by decide +kernel
theorem dX5_init_60 : decode cX5_init 60 = .ok (.dup, 1) := by decide +kernel
theorem dX5_init_61 : decode cX5_init 61 = .ok (.bipush 90, 2) := by decide +kernel
theorem dX5_init_63 : decode cX5_init 63 = .ok (.invokespecial 11, 3) := by decide +kernel
theorem dX5_init_66 : decode cX5_init 66 = .ok (.putfield 29, 3) := by decide +kernel
theorem dX5_init_69 : decode cX5_init 69 = .ok (.aload_n 0, 1) := by decide +kernel
theorem dX5_init_70 : decode cX5_init 70 = .ok (.new 9, 3) := by decide +kernel
theorem dX5_init_73 : decode cX5_init 73 = .ok (.dup, 1) := by decide +kernel
theorem dX5_init_74 : decode cX5_init 74 = .ok (.bipush 90, 2) := by decide +kernel
theorem dX5_init_76 : decode cX5_init 76 = .ok (.invokespecial 11, 3) := by decide +kernel
theorem dX5_init_79 : decode cX5_init 79 = .ok (.putfield 32, 3) := by decide +kernel
theorem dX5_init_82 : decode cX5_init 82 = .ok (.aload_n 0, 1) := by decide +kernel
theorem dX5_init_83 : decode cX5_init 83 = .ok (.aload_n 1, 1) := by decide +kernel
theorem dX5_init_84 : decode cX5_init 84 = .ok (.putfield 35, 3) := by decide +kernel
theorem dX5_init_87 : decode cX5_init 87 = .ok (.return_, 1) := by decide +kernel
theorem dX5_change_0 : decode cX5_change 0 = .ok (.aload_n 0, 1) := by decide +kernel
theorem dX5_change_1 : decode cX5_change 1 = .ok (.getfield 35, 3) := by decide +kernel
theorem dX5_change_4 : decode cX5_change 4 = .ok (.iload_n 1, 1) := by decide +kernel
theorem dX5_change_5 : decode cX5_change 5 = .ok (.invokevirtual 39, 3) := by decide +kernel
theorem dX5_change_8 : decode cX5_change 8 = .ok (.istore_n 2, 1) := by decide +kernel
theorem dX5_change_9 : decode cX5_change 9 = .ok (.aload_n 0, 1) := by decide +kernel
theorem dX5_change_10 : decode cX5_change 10 = .ok (.getfield 35, 3) := by decide +kernel
theorem dX5_change_13 : decode cX5_change 13 = .ok (.iload_n 1, 1) := by decide +kernel
theorem dX5_change_14 : decode cX5_change 14 = .ok (.invokevirtual 45, 3) := by decide +kernel
theorem dX5_change_17 : decode cX5_change 17 = .ok (.tableswitch 75 0 3 #[31, 39, 51, 51], 31) := by decide +kernel
theorem dX5_change_48 : decode cX5_change 48 = .ok (.aload_n 0, 1) := by decide +kernel
theorem dX5_change_49 : decode cX5_change 49 = .ok (.iload_n 2, 1) := by decide +kernel
theorem dX5_change_50 : decode cX5_change 50 = .ok (.invokevirtual 48, 3) := by decide +kernel
theorem dX5_change_53 : decode cX5_change 53 = .ok (.goto 39, 3) := by decide +kernel
theorem dX5_change_56 : decode cX5_change 56 = .ok (.aload_n 0, 1) := by decide +kernel
theorem dX5_change_57 : decode cX5_change 57 = .ok (.getfield 26, 3) := by decide +kernel
theorem dX5_change_60 : decode cX5_change 60 = .ok (.iload_n 2, 1) := by decide +kernel
theorem dX5_change_61 : decode cX5_change 61 = .ok (.iconst 0, 1) := by decide +kernel
theorem dX5_change_62 : decode cX5_change 62 = .ok (.invokevirtual 51, 3) := by decide +kernel
theorem dX5_change_65 : decode cX5_change 65 = .ok (.goto 27, 3) := by decide +kernel
theorem dX5_change_68 : decode cX5_change 68 = .ok (.aload_n 0, 1) := by decide +kernel
theorem dX5_change_69 : decode cX5_change 69 = .ok (.iload_n 2, 1) := by decide +kernel
theorem dX5_change_70 : decode cX5_change 70 = .ok (.aload_n 0, 1) := by decide +kernel
theorem dX5_change_71 : decode cX5_change 71 = .ok (.getfield 35, 3) := by decide +kernel
theorem dX5_change_74 : decode cX5_change 74 = .ok (.iload_n 1, 1) := by decide +kernel
theorem dX5_change_75 : decode cX5_change 75 = .ok (.invokevirtual 55, 3) := by decide +kernel
theorem dX5_change_78 : decode cX5_change 78 = .ok (.aload_n 0, 1) := by decide +kernel
theorem dX5_change_79 : decode cX5_change 79 = .ok (.getfield 35, 3) := by decide +kernel
theorem dX5_change_82 : decode cX5_change 82 = .ok (.iload_n 1, 1) := by decide +kernel
theorem dX5_change_83 : decode cX5_change 83 = .ok (.invokevirtual 58, 3) := by decide +kernel
theorem dX5_change_86 : decode cX5_change 86 = .ok (.invokevirtual 61, 3) := by decide +kernel
theorem dX5_change_89 : decode cX5_change 89 = .ok (.goto 3, 3) := by decide +kernel
theorem dX5_change_92 : decode cX5_change 92 = .ok (.return_, 1) := by decide +kernel
theorem dX5_knowsLine_0 : decode cX5_knowsLine 0 = .ok (.aload_n 0, 1) := by decide +kernel
theorem dX5_knowsLine_1 : decode cX5_knowsLine 1 = .ok (.getfield 26, 3) := by decide +kernel
theorem dX5_knowsLine_4 : decode cX5_knowsLine 4 = .ok (.iload_n 1, 1) := by decide +kernel
theorem dX5_knowsLine_5 : decode cX5_knowsLine 5 = .ok (.invokevirtual 65, 3) := by decide +kernel
theorem dX5_knowsLine_8 : decode cX5_knowsLine 8 = .ok (.iconst (-1), 1) := by decide +kernel
theorem dX5_knowsLine_9 : decode cX5_knowsLine 9 = .ok (.if_icmp .eq 7, 3) := by decide +kernel
theorem dX5_knowsLine_12 : decode cX5_knowsLine 12 = .ok (.iconst 1, 1) := by decide +kernel
theorem dX5_knowsLine_13 : decode cX5_knowsLine 13 = .ok (.goto 4, 3) := by decide +kernel
theorem dX5_knowsLine_16 : decode cX5_knowsLine 16 = .ok (.iconst 0, 1) := by decide +kernel
theorem dX5_knowsLine_17 : decode cX5_knowsLine 17 = .ok (.ireturn, 1) := by decide +kernel
theorem dX5_hasThere_0 : decode cX5_hasThere 0 = .ok (.aload_n 0, 1) := by decide +kernel
theorem dX5_hasThere_1 : decode cX5_hasThere 1 = .ok (.getfield 26, 3) := by decide +kernel
theorem dX5_hasThere_4 : decode cX5_hasThere 4 = .ok (.iload_n 1, 1) := by decide +kernel
theorem dX5_hasThere_5 : decode cX5_hasThere 5 = .ok (.invokevirtual 65, 3) := by decide +kernel
theorem dX5_hasThere_8 : decode cX5_hasThere 8 = .ok (.iconst 1, 1) := by decide +kernel
theorem dX5_hasThere_9 : decode cX5_hasThere 9 = .ok (.if_icmp .ne 7, 3) := by decide +kernel
theorem dX5_hasThere_12 : decode cX5_hasThere 12 = .ok (.iconst 1, 1) := by decide +kernel
theorem dX5_hasThere_13 : decode cX5_hasThere 13 = .ok (.goto 4, 3) := by decide +kernel
theorem dX5_hasThere_16 : decode cX5_hasThere 16 = .ok (.iconst 0, 1) := by decide +kernel
theorem dX5_hasThere_17 : decode cX5_hasThere 17 = .ok (.ireturn, 1) := by decide +kernel
theorem dX5_knowsNote_0 : decode cX5_knowsNote 0 = .ok (.aload_n 0, 1) := by decide +kernel
theorem dX5_knowsNote_1 : decode cX5_knowsNote 1 = .ok (.getfield 29, 3) := by decide +kernel
theorem dX5_knowsNote_4 : decode cX5_knowsNote 4 = .ok (.iload_n 1, 1) := by decide +kernel
theorem dX5_knowsNote_5 : decode cX5_knowsNote 5 = .ok (.invokevirtual 65, 3) := by decide +kernel
theorem dX5_knowsNote_8 : decode cX5_knowsNote 8 = .ok (.iconst (-1), 1) := by decide +kernel
theorem dX5_knowsNote_9 : decode cX5_knowsNote 9 = .ok (.if_icmp .eq 7, 3) := by decide +kernel
theorem dX5_knowsNote_12 : decode cX5_knowsNote 12 = .ok (.iconst 1, 1) := by decide +kernel
theorem dX5_knowsNote_13 : decode cX5_knowsNote 13 = .ok (.goto 4, 3) := by decide +kernel
theorem dX5_knowsNote_16 : decode cX5_knowsNote 16 = .ok (.iconst 0, 1) := by decide +kernel
theorem dX5_knowsNote_17 : decode cX5_knowsNote 17 = .ok (.ireturn, 1) := by decide +kernel
theorem dX5_lineCount_0 : decode cX5_lineCount 0 = .ok (.aload_n 0, 1) := by decide +kernel
theorem dX5_lineCount_1 : decode cX5_lineCount 1 = .ok (.getfield 14, 3) := by decide +kernel
theorem dX5_lineCount_4 : decode cX5_lineCount 4 = .ok (.invokevirtual 68, 3) := by decide +kernel
theorem dX5_lineCount_7 : decode cX5_lineCount 7 = .ok (.ireturn, 1) := by decide +kernel
theorem dX5_line_0 : decode cX5_line 0 = .ok (.aload_n 0, 1) := by decide +kernel
theorem dX5_line_1 : decode cX5_line 1 = .ok (.getfield 14, 3) := by decide +kernel
theorem dX5_line_4 : decode cX5_line 4 = .ok (.iload_n 1, 1) := by decide +kernel
theorem dX5_line_5 : decode cX5_line 5 = .ok (.invokevirtual 65, 3) := by decide +kernel
theorem dX5_line_8 : decode cX5_line 8 = .ok (.ireturn, 1) := by decide +kernel
theorem dX5_lineOfNote_0 : decode cX5_lineOfNote 0 = .ok (.aload_n 0, 1) := by decide +kernel
theorem dX5_lineOfNote_1 : decode cX5_lineOfNote 1 = .ok (.getfield 14, 3) := by decide +kernel
theorem dX5_lineOfNote_4 : decode cX5_lineOfNote 4 = .ok (.aload_n 0, 1) := by decide +kernel
theorem dX5_lineOfNote_5 : decode cX5_lineOfNote 5 = .ok (.getfield 29, 3) := by decide +kernel
theorem dX5_lineOfNote_8 : decode cX5_lineOfNote 8 = .ok (.iload_n 1, 1) := by decide +kernel
theorem dX5_lineOfNote_9 : decode cX5_lineOfNote 9 = .ok (.invokevirtual 65, 3) := by decide +kernel
theorem dX5_lineOfNote_12 : decode cX5_lineOfNote 12 = .ok (.invokevirtual 72, 3) := by decide +kernel
theorem dX5_lineOfNote_15 : decode cX5_lineOfNote 15 = .ok (.istore_n 2, 1) := by decide +kernel
theorem dX5_lineOfNote_16 : decode cX5_lineOfNote 16 = .ok (.iconst (-1), 1) := by decide +kernel
theorem dX5_lineOfNote_17 : decode cX5_lineOfNote 17 = .ok (.istore_n 3, 1) := by decide +kernel
theorem dX5_lineOfNote_18 : decode cX5_lineOfNote 18 = .ok (.iconst 0, 1) := by decide +kernel
theorem dX5_lineOfNote_19 : decode cX5_lineOfNote 19 = .ok (.istore 4, 2) := by decide +kernel
theorem dX5_lineOfNote_21 : decode cX5_lineOfNote 21 = .ok (.iload 4, 2) := by decide +kernel
theorem dX5_lineOfNote_23 : decode cX5_lineOfNote 23 = .ok (.aload_n 0, 1) := by decide +kernel
theorem dX5_lineOfNote_24 : decode cX5_lineOfNote 24 = .ok (.getfield 14, 3) := by decide +kernel
theorem dX5_lineOfNote_27 : decode cX5_lineOfNote 27 = .ok (.invokevirtual 68, 3) := by decide +kernel
theorem dX5_lineOfNote_30 : decode cX5_lineOfNote 30 = .ok (.if_icmp .ge 46, 3) := by decide +kernel
theorem dX5_lineOfNote_33 : decode cX5_lineOfNote 33 = .ok (.iload 4, 2) := by decide +kernel
theorem dX5_lineOfNote_35 : decode cX5_lineOfNote 35 = .ok (.iload_n 2, 1) := by decide +kernel
theorem dX5_lineOfNote_36 : decode cX5_lineOfNote 36 = .ok (.if_icmp .le 8, 3) := by decide +kernel
theorem dX5_lineOfNote_39 : decode cX5_lineOfNote 39 = .ok (.iload_n 3, 1) := by decide +kernel
theorem dX5_lineOfNote_40 : decode cX5_lineOfNote 40 = .ok (.iconst (-1), 1) := by decide +kernel
theorem dX5_lineOfNote_41 : decode cX5_lineOfNote 41 = .ok (.if_icmp .ne 35, 3) := by decide +kernel
theorem dX5_lineOfNote_44 : decode cX5_lineOfNote 44 = .ok (.aload_n 0, 1) := by decide +kernel
theorem dX5_lineOfNote_45 : decode cX5_lineOfNote 45 = .ok (.aload_n 0, 1) := by decide +kernel
theorem dX5_lineOfNote_46 : decode cX5_lineOfNote 46 = .ok (.getfield 14, 3) := by decide +kernel
theorem dX5_lineOfNote_49 : decode cX5_lineOfNote 49 = .ok (.iload 4, 2) := by decide +kernel
theorem dX5_lineOfNote_51 : decode cX5_lineOfNote 51 = .ok (.invokevirtual 65, 3) := by decide +kernel
theorem dX5_lineOfNote_54 : decode cX5_lineOfNote 54 = .ok (.invokevirtual 75, 3) := by decide +kernel
theorem dX5_lineOfNote_57 : decode cX5_lineOfNote 57 = .ok (.ifCond .eq 13, 3) := by decide +kernel
theorem dX5_lineOfNote_60 : decode cX5_lineOfNote 60 = .ok (.aload_n 0, 1) := by decide +kernel
theorem dX5_lineOfNote_61 : decode cX5_lineOfNote 61 = .ok (.getfield 14, 3) := by decide +kernel
theorem dX5_lineOfNote_64 : decode cX5_lineOfNote 64 = .ok (.iload 4, 2) := by decide +kernel
theorem dX5_lineOfNote_66 : decode cX5_lineOfNote 66 = .ok (.invokevirtual 65, 3) := by decide +kernel
theorem dX5_lineOfNote_69 : decode cX5_lineOfNote 69 = .ok (.istore_n 3, 1) := by decide +kernel
theorem dX5_lineOfNote_70 : decode cX5_lineOfNote 70 = .ok (.iinc 4 1, 3) := by decide +kernel
theorem dX5_lineOfNote_73 : decode cX5_lineOfNote 73 = .ok (.goto (-52), 3) := by decide +kernel
theorem dX5_lineOfNote_76 : decode cX5_lineOfNote 76 = .ok (.iload_n 3, 1) := by decide +kernel
theorem dX5_lineOfNote_77 : decode cX5_lineOfNote 77 = .ok (.ireturn, 1) := by decide +kernel
theorem dX5_findAnew_0 : decode cX5_findAnew 0 = .ok (.aload_n 0, 1) := by decide +kernel
theorem dX5_findAnew_1 : decode cX5_findAnew 1 = .ok (.invokevirtual 79, 3) := by decide +kernel
theorem dX5_findAnew_4 : decode cX5_findAnew 4 = .ok (.iconst 0, 1) := by decide +kernel
theorem dX5_findAnew_5 : decode cX5_findAnew 5 = .ok (.istore_n 2, 1) := by decide +kernel
theorem dX5_findAnew_6 : decode cX5_findAnew 6 = .ok (.iconst 0, 1) := by decide +kernel
theorem dX5_findAnew_7 : decode cX5_findAnew 7 = .ok (.istore_n 3, 1) := by decide +kernel
theorem dX5_findAnew_8 : decode cX5_findAnew 8 = .ok (.iload_n 3, 1) := by decide +kernel
theorem dX5_findAnew_9 : decode cX5_findAnew 9 = .ok (.aload_n 0, 1) := by decide +kernel
theorem dX5_findAnew_10 : decode cX5_findAnew 10 = .ok (.getfield 20, 3) := by decide +kernel
theorem dX5_findAnew_13 : decode cX5_findAnew 13 = .ok (.invokevirtual 68, 3) := by decide +kernel
theorem dX5_findAnew_16 : decode cX5_findAnew 16 = .ok (.if_icmp .ge 39, 3) := by decide +kernel
theorem dX5_findAnew_19 : decode cX5_findAnew 19 = .ok (.aload_n 0, 1) := by decide +kernel
theorem dX5_findAnew_20 : decode cX5_findAnew 20 = .ok (.getfield 20, 3) := by decide +kernel
theorem dX5_findAnew_23 : decode cX5_findAnew 23 = .ok (.iload_n 3, 1) := by decide +kernel
theorem dX5_findAnew_24 : decode cX5_findAnew 24 = .ok (.invokevirtual 65, 3) := by decide +kernel
theorem dX5_findAnew_27 : decode cX5_findAnew 27 = .ok (.istore 4, 2) := by decide +kernel
theorem dX5_findAnew_29 : decode cX5_findAnew 29 = .ok (.aload_n 0, 1) := by decide +kernel
theorem dX5_findAnew_30 : decode cX5_findAnew 30 = .ok (.iload 4, 2) := by decide +kernel
theorem dX5_findAnew_32 : decode cX5_findAnew 32 = .ok (.invokevirtual 75, 3) := by decide +kernel
theorem dX5_findAnew_35 : decode cX5_findAnew 35 = .ok (.ifCond .eq 14, 3) := by decide +kernel
theorem dX5_findAnew_38 : decode cX5_findAnew 38 = .ok (.iload_n 2, 1) := by decide +kernel
theorem dX5_findAnew_39 : decode cX5_findAnew 39 = .ok (.iload_n 1, 1) := by decide +kernel
theorem dX5_findAnew_40 : decode cX5_findAnew 40 = .ok (.if_icmp .ne 6, 3) := by decide +kernel
theorem dX5_findAnew_43 : decode cX5_findAnew 43 = .ok (.iload 4, 2) := by decide +kernel
theorem dX5_findAnew_45 : decode cX5_findAnew 45 = .ok (.ireturn, 1) := by decide +kernel
theorem dX5_findAnew_46 : decode cX5_findAnew 46 = .ok (.iinc 2 1, 3) := by decide +kernel
theorem dX5_findAnew_49 : decode cX5_findAnew 49 = .ok (.iinc 3 1, 3) := by decide +kernel
theorem dX5_findAnew_52 : decode cX5_findAnew 52 = .ok (.goto (-44), 3) := by decide +kernel
theorem dX5_findAnew_55 : decode cX5_findAnew 55 = .ok (.iconst (-1), 1) := by decide +kernel
theorem dX5_findAnew_56 : decode cX5_findAnew 56 = .ok (.ireturn, 1) := by decide +kernel
theorem dX5_putIn_0 : decode cX5_putIn 0 = .ok (.aload_n 0, 1) := by decide +kernel
theorem dX5_putIn_1 : decode cX5_putIn 1 = .ok (.getfield 35, 3) := by decide +kernel
theorem dX5_putIn_4 : decode cX5_putIn 4 = .ok (.iload_n 1, 1) := by decide +kernel
theorem dX5_putIn_5 : decode cX5_putIn 5 = .ok (.invokevirtual 82, 3) := by decide +kernel
theorem dX5_putIn_8 : decode cX5_putIn 8 = .ok (.istore_n 2, 1) := by decide +kernel
theorem dX5_putIn_9 : decode cX5_putIn 9 = .ok (.aload_n 0, 1) := by decide +kernel
theorem dX5_putIn_10 : decode cX5_putIn 10 = .ok (.getfield 14, 3) := by decide +kernel
theorem dX5_putIn_13 : decode cX5_putIn 13 = .ok (.aload_n 0, 1) := by decide +kernel
theorem dX5_putIn_14 : decode cX5_putIn 14 = .ok (.getfield 35, 3) := by decide +kernel
theorem dX5_putIn_17 : decode cX5_putIn 17 = .ok (.iload_n 1, 1) := by decide +kernel
theorem dX5_putIn_18 : decode cX5_putIn 18 = .ok (.invokevirtual 85, 3) := by decide +kernel
theorem dX5_putIn_21 : decode cX5_putIn 21 = .ok (.invokevirtual 72, 3) := by decide +kernel
theorem dX5_putIn_24 : decode cX5_putIn 24 = .ok (.iconst 1, 1) := by decide +kernel
theorem dX5_putIn_25 : decode cX5_putIn 25 = .ok (.iadd, 1) := by decide +kernel
theorem dX5_putIn_26 : decode cX5_putIn 26 = .ok (.istore_n 3, 1) := by decide +kernel
theorem dX5_putIn_27 : decode cX5_putIn 27 = .ok (.iload_n 3, 1) := by decide +kernel
theorem dX5_putIn_28 : decode cX5_putIn 28 = .ok (.aload_n 0, 1) := by decide +kernel
theorem dX5_putIn_29 : decode cX5_putIn 29 = .ok (.getfield 14, 3) := by decide +kernel
theorem dX5_putIn_32 : decode cX5_putIn 32 = .ok (.invokevirtual 68, 3) := by decide +kernel
theorem dX5_putIn_35 : decode cX5_putIn 35 = .ok (.if_icmp .ge 28, 3) := by decide +kernel
theorem dX5_putIn_38 : decode cX5_putIn 38 = .ok (.aload_n 0, 1) := by decide +kernel
theorem dX5_putIn_39 : decode cX5_putIn 39 = .ok (.getfield 35, 3) := by decide +kernel
theorem dX5_putIn_42 : decode cX5_putIn 42 = .ok (.aload_n 0, 1) := by decide +kernel
theorem dX5_putIn_43 : decode cX5_putIn 43 = .ok (.getfield 14, 3) := by decide +kernel
theorem dX5_putIn_46 : decode cX5_putIn 46 = .ok (.iload_n 3, 1) := by decide +kernel
theorem dX5_putIn_47 : decode cX5_putIn 47 = .ok (.invokevirtual 65, 3) := by decide +kernel
theorem dX5_putIn_50 : decode cX5_putIn 50 = .ok (.invokevirtual 82, 3) := by decide +kernel
theorem dX5_putIn_53 : decode cX5_putIn 53 = .ok (.iload_n 2, 1) := by decide +kernel
theorem dX5_putIn_54 : decode cX5_putIn 54 = .ok (.if_icmp .le 9, 3) := by decide +kernel
theorem dX5_putIn_57 : decode cX5_putIn 57 = .ok (.iinc 3 1, 3) := by decide +kernel
theorem dX5_putIn_60 : decode cX5_putIn 60 = .ok (.goto (-33), 3) := by decide +kernel
theorem dX5_putIn_63 : decode cX5_putIn 63 = .ok (.aload_n 0, 1) := by decide +kernel
theorem dX5_putIn_64 : decode cX5_putIn 64 = .ok (.getfield 14, 3) := by decide +kernel
theorem dX5_putIn_67 : decode cX5_putIn 67 = .ok (.iload_n 3, 1) := by decide +kernel
theorem dX5_putIn_68 : decode cX5_putIn 68 = .ok (.iload_n 1, 1) := by decide +kernel
theorem dX5_putIn_69 : decode cX5_putIn 69 = .ok (.invokevirtual 88, 3) := by decide +kernel
theorem dX5_putIn_72 : decode cX5_putIn 72 = .ok (.aload_n 0, 1) := by decide +kernel
theorem dX5_putIn_73 : decode cX5_putIn 73 = .ok (.getfield 26, 3) := by decide +kernel
theorem dX5_putIn_76 : decode cX5_putIn 76 = .ok (.iload_n 1, 1) := by decide +kernel
theorem dX5_putIn_77 : decode cX5_putIn 77 = .ok (.iconst 1, 1) := by decide +kernel
theorem dX5_putIn_78 : decode cX5_putIn 78 = .ok (.invokevirtual 51, 3) := by decide +kernel
theorem dX5_putIn_81 : decode cX5_putIn 81 = .ok (.return_, 1) := by decide +kernel
theorem dX5_bringNote_0 : decode cX5_bringNote 0 = .ok (.iload_n 3, 1) := by decide +kernel
theorem dX5_bringNote_1 : decode cX5_bringNote 1 = .ok (.aload_n 0, 1) := by decide +kernel
theorem dX5_bringNote_2 : decode cX5_bringNote 2 = .ok (.getfield 32, 3) := by decide +kernel
theorem dX5_bringNote_5 : decode cX5_bringNote 5 = .ok (.iload_n 1, 1) := by decide +kernel
theorem dX5_bringNote_6 : decode cX5_bringNote 6 = .ok (.invokevirtual 65, 3) := by decide +kernel
theorem dX5_bringNote_9 : decode cX5_bringNote 9 = .ok (.if_icmp .le 21, 3) := by decide +kernel
theorem dX5_bringNote_12 : decode cX5_bringNote 12 = .ok (.aload_n 0, 1) := by decide +kernel
theorem dX5_bringNote_13 : decode cX5_bringNote 13 = .ok (.getfield 29, 3) := by decide +kernel
theorem dX5_bringNote_16 : decode cX5_bringNote 16 = .ok (.iload_n 1, 1) := by decide +kernel
theorem dX5_bringNote_17 : decode cX5_bringNote 17 = .ok (.iload_n 2, 1) := by decide +kernel
theorem dX5_bringNote_18 : decode cX5_bringNote 18 = .ok (.invokevirtual 51, 3) := by decide +kernel
theorem dX5_bringNote_21 : decode cX5_bringNote 21 = .ok (.aload_n 0, 1) := by decide +kernel
theorem dX5_bringNote_22 : decode cX5_bringNote 22 = .ok (.getfield 32, 3) := by decide +kernel
theorem dX5_bringNote_25 : decode cX5_bringNote 25 = .ok (.iload_n 1, 1) := by decide +kernel
theorem dX5_bringNote_26 : decode cX5_bringNote 26 = .ok (.iload_n 3, 1) := by decide +kernel
theorem dX5_bringNote_27 : decode cX5_bringNote 27 = .ok (.invokevirtual 51, 3) := by decide +kernel
theorem dX5_bringNote_30 : decode cX5_bringNote 30 = .ok (.return_, 1) := by decide +kernel
theorem dX5_putAllAnew_0 : decode cX5_putAllAnew 0 = .ok (.aload_n 0, 1) := by decide +kernel
theorem dX5_putAllAnew_1 : decode cX5_putAllAnew 1 = .ok (.invokevirtual 91, 3) := by decide +kernel
theorem dX5_putAllAnew_4 : decode cX5_putAllAnew 4 = .ok (.aload_n 0, 1) := by decide +kernel
theorem dX5_putAllAnew_5 : decode cX5_putAllAnew 5 = .ok (.getfield 20, 3) := by decide +kernel
theorem dX5_putAllAnew_8 : decode cX5_putAllAnew 8 = .ok (.invokevirtual 94, 3) := by decide +kernel
theorem dX5_putAllAnew_11 : decode cX5_putAllAnew 11 = .ok (.iconst 0, 1) := by decide +kernel
theorem dX5_putAllAnew_12 : decode cX5_putAllAnew 12 = .ok (.istore_n 1, 1) := by decide +kernel
theorem dX5_putAllAnew_13 : decode cX5_putAllAnew 13 = .ok (.iload_n 1, 1) := by decide +kernel
theorem dX5_putAllAnew_14 : decode cX5_putAllAnew 14 = .ok (.aload_n 0, 1) := by decide +kernel
theorem dX5_putAllAnew_15 : decode cX5_putAllAnew 15 = .ok (.getfield 23, 3) := by decide +kernel
theorem dX5_putAllAnew_18 : decode cX5_putAllAnew 18 = .ok (.invokevirtual 68, 3) := by decide +kernel
theorem dX5_putAllAnew_21 : decode cX5_putAllAnew 21 = .ok (.if_icmp .ge 43, 3) := by decide +kernel
theorem dX5_putAllAnew_24 : decode cX5_putAllAnew 24 = .ok (.aload_n 0, 1) := by decide +kernel
theorem dX5_putAllAnew_25 : decode cX5_putAllAnew 25 = .ok (.getfield 23, 3) := by decide +kernel
theorem dX5_putAllAnew_28 : decode cX5_putAllAnew 28 = .ok (.iload_n 1, 1) := by decide +kernel
theorem dX5_putAllAnew_29 : decode cX5_putAllAnew 29 = .ok (.invokevirtual 65, 3) := by decide +kernel
theorem dX5_putAllAnew_32 : decode cX5_putAllAnew 32 = .ok (.istore_n 2, 1) := by decide +kernel
theorem dX5_putAllAnew_33 : decode cX5_putAllAnew 33 = .ok (.aload_n 0, 1) := by decide +kernel
theorem dX5_putAllAnew_34 : decode cX5_putAllAnew 34 = .ok (.getfield 20, 3) := by decide +kernel
theorem dX5_putAllAnew_37 : decode cX5_putAllAnew 37 = .ok (.aload_n 0, 1) := by decide +kernel
theorem dX5_putAllAnew_38 : decode cX5_putAllAnew 38 = .ok (.getfield 20, 3) := by decide +kernel
theorem dX5_putAllAnew_41 : decode cX5_putAllAnew 41 = .ok (.aload_n 0, 1) := by decide +kernel
theorem dX5_putAllAnew_42 : decode cX5_putAllAnew 42 = .ok (.getfield 35, 3) := by decide +kernel
theorem dX5_putAllAnew_45 : decode cX5_putAllAnew 45 = .ok (.iload_n 2, 1) := by decide +kernel
theorem dX5_putAllAnew_46 : decode cX5_putAllAnew 46 = .ok (.invokevirtual 85, 3) := by decide +kernel
theorem dX5_putAllAnew_49 : decode cX5_putAllAnew 49 = .ok (.invokevirtual 72, 3) := by decide +kernel
theorem dX5_putAllAnew_52 : decode cX5_putAllAnew 52 = .ok (.iconst 1, 1) := by decide +kernel
theorem dX5_putAllAnew_53 : decode cX5_putAllAnew 53 = .ok (.iadd, 1) := by decide +kernel
theorem dX5_putAllAnew_54 : decode cX5_putAllAnew 54 = .ok (.iload_n 2, 1) := by decide +kernel
theorem dX5_putAllAnew_55 : decode cX5_putAllAnew 55 = .ok (.invokevirtual 88, 3) := by decide +kernel
theorem dX5_putAllAnew_58 : decode cX5_putAllAnew 58 = .ok (.iinc 1 1, 3) := by decide +kernel
theorem dX5_putAllAnew_61 : decode cX5_putAllAnew 61 = .ok (.goto (-48), 3) := by decide +kernel
theorem dX5_putAllAnew_64 : decode cX5_putAllAnew 64 = .ok (.return_, 1) := by decide +kernel
theorem dX5_sortByStamps_0 : decode cX5_sortByStamps 0 = .ok (.aload_n 0, 1) := by decide +kernel
theorem dX5_sortByStamps_1 : decode cX5_sortByStamps 1 = .ok (.getfield 23, 3) := by decide +kernel
theorem dX5_sortByStamps_4 : decode cX5_sortByStamps 4 = .ok (.invokevirtual 94, 3) := by decide +kernel
theorem dX5_sortByStamps_7 : decode cX5_sortByStamps 7 = .ok (.iconst 0, 1) := by decide +kernel
theorem dX5_sortByStamps_8 : decode cX5_sortByStamps 8 = .ok (.istore_n 1, 1) := by decide +kernel
theorem dX5_sortByStamps_9 : decode cX5_sortByStamps 9 = .ok (.iload_n 1, 1) := by decide +kernel
theorem dX5_sortByStamps_10 : decode cX5_sortByStamps 10 = .ok (.aload_n 0, 1) := by decide +kernel
theorem dX5_sortByStamps_11 : decode cX5_sortByStamps 11 = .ok (.getfield 35, 3) := by decide +kernel
theorem dX5_sortByStamps_14 : decode cX5_sortByStamps 14 = .ok (.invokevirtual 97, 3) := by decide +kernel
theorem dX5_sortByStamps_17 : decode cX5_sortByStamps 17 = .ok (.if_icmp .ge 37, 3) := by decide +kernel
theorem dX5_sortByStamps_20 : decode cX5_sortByStamps 20 = .ok (.aload_n 0, 1) := by decide +kernel
theorem dX5_sortByStamps_21 : decode cX5_sortByStamps 21 = .ok (.iload_n 1, 1) := by decide +kernel
theorem dX5_sortByStamps_22 : decode cX5_sortByStamps 22 = .ok (.invokevirtual 100, 3) := by decide +kernel
theorem dX5_sortByStamps_25 : decode cX5_sortByStamps 25 = .ok (.ifCond .eq 23, 3) := by decide +kernel
theorem dX5_sortByStamps_28 : decode cX5_sortByStamps 28 = .ok (.aload_n 0, 1) := by decide +kernel
theorem dX5_sortByStamps_29 : decode cX5_sortByStamps 29 = .ok (.getfield 23, 3) := by decide +kernel
theorem dX5_sortByStamps_32 : decode cX5_sortByStamps 32 = .ok (.aload_n 0, 1) := by decide +kernel
theorem dX5_sortByStamps_33 : decode cX5_sortByStamps 33 = .ok (.aload_n 0, 1) := by decide +kernel
theorem dX5_sortByStamps_34 : decode cX5_sortByStamps 34 = .ok (.getfield 35, 3) := by decide +kernel
theorem dX5_sortByStamps_37 : decode cX5_sortByStamps 37 = .ok (.iload_n 1, 1) := by decide +kernel
theorem dX5_sortByStamps_38 : decode cX5_sortByStamps 38 = .ok (.invokevirtual 82, 3) := by decide +kernel
theorem dX5_sortByStamps_41 : decode cX5_sortByStamps 41 = .ok (.invokevirtual 103, 3) := by decide +kernel
theorem dX5_sortByStamps_44 : decode cX5_sortByStamps 44 = .ok (.iload_n 1, 1) := by decide +kernel
theorem dX5_sortByStamps_45 : decode cX5_sortByStamps 45 = .ok (.invokevirtual 88, 3) := by decide +kernel
theorem dX5_sortByStamps_48 : decode cX5_sortByStamps 48 = .ok (.iinc 1 1, 3) := by decide +kernel
theorem dX5_sortByStamps_51 : decode cX5_sortByStamps 51 = .ok (.goto (-42), 3) := by decide +kernel
theorem dX5_sortByStamps_54 : decode cX5_sortByStamps 54 = .ok (.return_, 1) := by decide +kernel
theorem dX5_placeByStamp_0 : decode cX5_placeByStamp 0 = .ok (.aload_n 0, 1) := by decide +kernel
theorem dX5_placeByStamp_1 : decode cX5_placeByStamp 1 = .ok (.getfield 23, 3) := by decide +kernel
theorem dX5_placeByStamp_4 : decode cX5_placeByStamp 4 = .ok (.invokevirtual 68, 3) := by decide +kernel
theorem dX5_placeByStamp_7 : decode cX5_placeByStamp 7 = .ok (.istore_n 2, 1) := by decide +kernel
theorem dX5_placeByStamp_8 : decode cX5_placeByStamp 8 = .ok (.iload_n 2, 1) := by decide +kernel
theorem dX5_placeByStamp_9 : decode cX5_placeByStamp 9 = .ok (.ifCond .le 30, 3) := by decide +kernel
theorem dX5_placeByStamp_12 : decode cX5_placeByStamp 12 = .ok (.aload_n 0, 1) := by decide +kernel
theorem dX5_placeByStamp_13 : decode cX5_placeByStamp 13 = .ok (.getfield 35, 3) := by decide +kernel
theorem dX5_placeByStamp_16 : decode cX5_placeByStamp 16 = .ok (.aload_n 0, 1) := by decide +kernel
theorem dX5_placeByStamp_17 : decode cX5_placeByStamp 17 = .ok (.getfield 23, 3) := by decide +kernel
theorem dX5_placeByStamp_20 : decode cX5_placeByStamp 20 = .ok (.iload_n 2, 1) := by decide +kernel
theorem dX5_placeByStamp_21 : decode cX5_placeByStamp 21 = .ok (.iconst 1, 1) := by decide +kernel
theorem dX5_placeByStamp_22 : decode cX5_placeByStamp 22 = .ok (.isub, 1) := by decide +kernel
theorem dX5_placeByStamp_23 : decode cX5_placeByStamp 23 = .ok (.invokevirtual 65, 3) := by decide +kernel
theorem dX5_placeByStamp_26 : decode cX5_placeByStamp 26 = .ok (.invokevirtual 82, 3) := by decide +kernel
theorem dX5_placeByStamp_29 : decode cX5_placeByStamp 29 = .ok (.iload_n 1, 1) := by decide +kernel
theorem dX5_placeByStamp_30 : decode cX5_placeByStamp 30 = .ok (.if_icmp .le 9, 3) := by decide +kernel
theorem dX5_placeByStamp_33 : decode cX5_placeByStamp 33 = .ok (.iinc 2 (-1), 3) := by decide +kernel
theorem dX5_placeByStamp_36 : decode cX5_placeByStamp 36 = .ok (.goto (-28), 3) := by decide +kernel
theorem dX5_placeByStamp_39 : decode cX5_placeByStamp 39 = .ok (.iload_n 2, 1) := by decide +kernel
theorem dX5_placeByStamp_40 : decode cX5_placeByStamp 40 = .ok (.ireturn, 1) := by decide +kernel
theorem dX6_init_0 : decode cX6_init 0 = .ok (.aload_n 0, 1) := by decide +kernel
theorem dX6_init_1 : decode cX6_init 1 = .ok (.invokespecial 1, 3) := by decide +kernel
theorem dX6_init_4 : decode cX6_init 4 = .ok (.aload_n 0, 1) := by decide +kernel
theorem dX6_init_5 : decode cX6_init 5 = .ok (.new 7, 3) := by decide +kernel
theorem dX6_init_8 : decode cX6_init 8 = .ok (.dup, 1) := by decide +kernel
theorem dX6_init_9 : decode cX6_init 9 = .ok (.invokespecial 9, 3) := by decide +kernel
theorem dX6_init_12 : decode cX6_init 12 = .ok (.putfield 10, 3) := by decide +kernel
theorem dX6_init_15 : decode cX6_init 15 = .ok (.aload_n 0, 1) := by decide +kernel
theorem dX6_init_16 : decode cX6_init 16 = .ok (.iconst 4, 1) := by decide +kernel
theorem dX6_init_17 : decode cX6_init 17 = .ok (.anewarray 16, 3) := by decide +kernel
theorem dX6_init_20 : decode cX6_init 20 = .ok (.putfield 18, 3) := by decide +kernel
theorem dX6_init_23 : decode cX6_init 23 = .ok (.iconst 0, 1) := by decide +kernel
theorem dX6_init_24 : decode cX6_init 24 = .ok (.istore_n 1, 1) := by decide +kernel
theorem dX6_init_25 : decode cX6_init 25 = .ok (.iload_n 1, 1) := by decide +kernel
theorem dX6_init_26 : decode cX6_init 26 = .ok (.iconst 4, 1) := by decide +kernel
theorem dX6_init_27 : decode cX6_init 27 = .ok (.if_icmp .ge 27, 3) := by decide +kernel
theorem dX6_init_30 : decode cX6_init 30 = .ok (.aload_n 0, 1) := by decide +kernel
theorem dX6_init_31 : decode cX6_init 31 = .ok (.getfield 18, 3) := by decide +kernel
theorem dX6_init_34 : decode cX6_init 34 = .ok (.iload_n 1, 1) := by decide +kernel
theorem dX6_init_35 : decode cX6_init 35 = .ok (.new 16, 3) := by decide +kernel
theorem dX6_init_38 : decode cX6_init 38 = .ok (.dup, 1) := by decide +kernel
theorem dX6_init_39 : decode cX6_init 39 = .ok (.iload_n 1, 1) := by decide +kernel
theorem dX6_init_40 : decode cX6_init 40 = .ok (.aload_n 0, 1) := by decide +kernel
theorem dX6_init_41 : decode cX6_init 41 = .ok (.getfield 10, 3) := by decide +kernel
theorem dX6_init_44 : decode cX6_init 44 = .ok (.invokespecial 22, 3) := by decide +kernel
theorem dX6_init_47 : decode cX6_init 47 = .ok (.aastore, 1) := by decide +kernel
theorem dX6_init_48 : decode cX6_init 48 = .ok (.iinc 1 1, 3) := by decide +kernel
theorem dX6_init_51 : decode cX6_init 51 = .ok (.goto (-26), 3) := by decide +kernel
theorem dX6_init_54 : decode cX6_init 54 = .ok (.aload_n 0, 1) := by decide +kernel
theorem dX6_init_55 : decode cX6_init 55 = .ok (.new 25, 3) := by decide +kernel
theorem dX6_init_58 : decode cX6_init 58 = .ok (.dup, 1) := by decide +kernel
theorem dX6_init_59 : decode cX6_init 59 = .ok (.aload_n 0, 1) := by decide +kernel
theorem dX6_init_60 : decode cX6_init 60 = .ok (.getfield 18, 3) := by decide +kernel
theorem dX6_init_63 : decode cX6_init 63 = .ok (.iconst 0, 1) := by decide +kernel
theorem dX6_init_64 : decode cX6_init 64 = .ok (.aaload, 1) := by decide +kernel
theorem dX6_init_65 : decode cX6_init 65 = .ok (.getfield 27, 3) := by decide +kernel
theorem dX6_init_68 : decode cX6_init 68 = .ok (.invokespecial 31, 3) := by decide +kernel
theorem dX6_init_71 : decode cX6_init 71 = .ok (.putfield 34, 3) := by decide +kernel
theorem dX6_init_74 : decode cX6_init 74 = .ok (.return_, 1) := by decide +kernel
theorem dX6_insert_0 : decode cX6_insert 0 = .ok (.aload_n 0, 1) := by decide +kernel
theorem dX6_insert_1 : decode cX6_insert 1 = .ok (.iload_n 1, 1) := by decide +kernel
theorem dX6_insert_2 : decode cX6_insert 2 = .ok (.invokevirtual 38, 3) := by decide +kernel
theorem dX6_insert_5 : decode cX6_insert 5 = .ok (.astore 5, 2) := by decide +kernel
theorem dX6_insert_7 : decode cX6_insert 7 = .ok (.iload_n 2, 1) := by decide +kernel
theorem dX6_insert_8 : decode cX6_insert 8 = .ok (.iconst (-1), 1) := by decide +kernel
theorem dX6_insert_9 : decode cX6_insert 9 = .ok (.if_icmp .eq 10, 3) := by decide +kernel
theorem dX6_insert_12 : decode cX6_insert 12 = .ok (.aload_n 0, 1) := by decide +kernel
theorem dX6_insert_13 : decode cX6_insert 13 = .ok (.aload 5, 2) := by decide +kernel
theorem dX6_insert_15 : decode cX6_insert 15 = .ok (.iload_n 2, 1) := by decide +kernel
theorem dX6_insert_16 : decode cX6_insert 16 = .ok (.invokevirtual 42, 3) := by decide +kernel
theorem dX6_insert_19 : decode cX6_insert 19 = .ok (.iload_n 3, 1) := by decide +kernel
theorem dX6_insert_20 : decode cX6_insert 20 = .ok (.ifCond .lt 9, 3) := by decide +kernel
theorem dX6_insert_23 : decode cX6_insert 23 = .ok (.iload_n 3, 1) := by decide +kernel
theorem dX6_insert_24 : decode cX6_insert 24 = .ok (.bipush 99, 2) := by decide +kernel
theorem dX6_insert_26 : decode cX6_insert 26 = .ok (.if_icmp .le 13, 3) := by decide +kernel
theorem dX6_insert_29 : decode cX6_insert 29 = .ok (.new 46, 3) := by decide +kernel
theorem dX6_insert_32 : decode cX6_insert 32 = .ok (.dup, 1) := by decide +kernel
theorem dX6_insert_33 : decode cX6_insert 33 = .ok (.ldc 48, 2) := by decide +kernel
theorem dX6_insert_35 : decode cX6_insert 35 = .ok (.invokespecial 50, 3) := by decide +kernel
theorem dX6_insert_38 : decode cX6_insert 38 = .ok (.athrow, 1) := by decide +kernel
theorem dX6_insert_39 : decode cX6_insert 39 = .ok (.aload_n 0, 1) := by decide +kernel
theorem dX6_insert_40 : decode cX6_insert 40 = .ok (.invokevirtual 53, 3) := by decide +kernel
theorem dX6_insert_43 : decode cX6_insert 43 = .ok (.aload 5, 2) := by decide +kernel
theorem dX6_insert_45 : decode cX6_insert 45 = .ok (.invokevirtual 56, 3) := by decide +kernel
theorem dX6_insert_48 : decode cX6_insert 48 = .ok (.istore 6, 2) := by decide +kernel
theorem dX6_insert_50 : decode cX6_insert 50 = .ok (.aload_n 0, 1) := by decide +kernel
theorem dX6_insert_51 : decode cX6_insert 51 = .ok (.getfield 10, 3) := by decide +kernel
theorem dX6_insert_54 : decode cX6_insert 54 = .ok (.iload 6, 2) := by decide +kernel
theorem dX6_insert_56 : decode cX6_insert 56 = .ok (.iload_n 2, 1) := by decide +kernel
theorem dX6_insert_57 : decode cX6_insert 57 = .ok (.iload_n 3, 1) := by decide +kernel
theorem dX6_insert_58 : decode cX6_insert 58 = .ok (.iload 4, 2) := by decide +kernel
theorem dX6_insert_60 : decode cX6_insert 60 = .ok (.invokevirtual 60, 3) := by decide +kernel
theorem dX6_insert_63 : decode cX6_insert 63 = .ok (.istore 7, 2) := by decide +kernel
theorem dX6_insert_65 : decode cX6_insert 65 = .ok (.aload 5, 2) := by decide +kernel
theorem dX6_insert_67 : decode cX6_insert 67 = .ok (.aload_n 0, 1) := by decide +kernel
theorem dX6_insert_68 : decode cX6_insert 68 = .ok (.getfield 10, 3) := by decide +kernel
theorem dX6_insert_71 : decode cX6_insert 71 = .ok (.iconst 0, 1) := by decide +kernel
theorem dX6_insert_72 : decode cX6_insert 72 = .ok (.iload 6, 2) := by decide +kernel
theorem dX6_insert_74 : decode cX6_insert 74 = .ok (.iload 7, 2) := by decide +kernel
theorem dX6_insert_76 : decode cX6_insert 76 = .ok (.iload_n 2, 1) := by decide +kernel
theorem dX6_insert_77 : decode cX6_insert 77 = .ok (.invokevirtual 64, 3) := by decide +kernel
theorem dX6_insert_80 : decode cX6_insert 80 = .ok (.invokevirtual 68, 3) := by decide +kernel
theorem dX6_insert_83 : decode cX6_insert 83 = .ok (.iload 7, 2) := by decide +kernel
theorem dX6_insert_85 : decode cX6_insert 85 = .ok (.ireturn, 1) := by decide +kernel
theorem dX6_remove_0 : decode cX6_remove 0 = .ok (.aload_n 0, 1) := by decide +kernel
theorem dX6_remove_1 : decode cX6_remove 1 = .ok (.iload_n 1, 1) := by decide +kernel
theorem dX6_remove_2 : decode cX6_remove 2 = .ok (.invokevirtual 38, 3) := by decide +kernel
theorem dX6_remove_5 : decode cX6_remove 5 = .ok (.astore_n 3, 1) := by decide +kernel
theorem dX6_remove_6 : decode cX6_remove 6 = .ok (.aload_n 0, 1) := by decide +kernel
theorem dX6_remove_7 : decode cX6_remove 7 = .ok (.aload_n 3, 1) := by decide +kernel
theorem dX6_remove_8 : decode cX6_remove 8 = .ok (.iload_n 2, 1) := by decide +kernel
theorem dX6_remove_9 : decode cX6_remove 9 = .ok (.invokevirtual 42, 3) := by decide +kernel
theorem dX6_remove_12 : decode cX6_remove 12 = .ok (.aload_n 0, 1) := by decide +kernel
theorem dX6_remove_13 : decode cX6_remove 13 = .ok (.aload_n 3, 1) := by decide +kernel
theorem dX6_remove_14 : decode cX6_remove 14 = .ok (.iload_n 2, 1) := by decide +kernel
theorem dX6_remove_15 : decode cX6_remove 15 = .ok (.invokevirtual 72, 3) := by decide +kernel
theorem dX6_remove_18 : decode cX6_remove 18 = .ok (.aload_n 0, 1) := by decide +kernel
theorem dX6_remove_19 : decode cX6_remove 19 = .ok (.invokevirtual 53, 3) := by decide +kernel
theorem dX6_remove_22 : decode cX6_remove 22 = .ok (.aload_n 3, 1) := by decide +kernel
theorem dX6_remove_23 : decode cX6_remove 23 = .ok (.aload_n 0, 1) := by decide +kernel
theorem dX6_remove_24 : decode cX6_remove 24 = .ok (.getfield 10, 3) := by decide +kernel
theorem dX6_remove_27 : decode cX6_remove 27 = .ok (.iconst 1, 1) := by decide +kernel
theorem dX6_remove_28 : decode cX6_remove 28 = .ok (.aload_n 3, 1) := by decide +kernel
theorem dX6_remove_29 : decode cX6_remove 29 = .ok (.invokevirtual 56, 3) := by decide +kernel
theorem dX6_remove_32 : decode cX6_remove 32 = .ok (.iload_n 2, 1) := by decide +kernel
theorem dX6_remove_33 : decode cX6_remove 33 = .ok (.iconst (-1), 1) := by decide +kernel
theorem dX6_remove_34 : decode cX6_remove 34 = .ok (.invokevirtual 64, 3) := by decide +kernel
theorem dX6_remove_37 : decode cX6_remove 37 = .ok (.invokevirtual 68, 3) := by decide +kernel
theorem dX6_remove_40 : decode cX6_remove 40 = .ok (.aload_n 3, 1) := by decide +kernel
theorem dX6_remove_41 : decode cX6_remove 41 = .ok (.getfield 27, 3) := by decide +kernel
theorem dX6_remove_44 : decode cX6_remove 44 = .ok (.invokevirtual 75, 3) := by decide +kernel
theorem dX6_remove_47 : decode cX6_remove 47 = .ok (.ireturn, 1) := by decide +kernel
theorem dX6_note_0 : decode cX6_note 0 = .ok (.aload_n 0, 1) := by decide +kernel
theorem dX6_note_1 : decode cX6_note 1 = .ok (.iload_n 1, 1) := by decide +kernel
theorem dX6_note_2 : decode cX6_note 2 = .ok (.invokevirtual 38, 3) := by decide +kernel
theorem dX6_note_5 : decode cX6_note 5 = .ok (.astore 4, 2) := by decide +kernel
theorem dX6_note_7 : decode cX6_note 7 = .ok (.aload_n 0, 1) := by decide +kernel
theorem dX6_note_8 : decode cX6_note 8 = .ok (.aload 4, 2) := by decide +kernel
theorem dX6_note_10 : decode cX6_note 10 = .ok (.iload_n 2, 1) := by decide +kernel
theorem dX6_note_11 : decode cX6_note 11 = .ok (.invokevirtual 42, 3) := by decide +kernel
theorem dX6_note_14 : decode cX6_note 14 = .ok (.iload_n 3, 1) := by decide +kernel
theorem dX6_note_15 : decode cX6_note 15 = .ok (.iconst 1, 1) := by decide +kernel
theorem dX6_note_16 : decode cX6_note 16 = .ok (.if_icmp .lt 8, 3) := by decide +kernel
theorem dX6_note_19 : decode cX6_note 19 = .ok (.iload_n 3, 1) := by decide +kernel
theorem dX6_note_20 : decode cX6_note 20 = .ok (.iconst 3, 1) := by decide +kernel
theorem dX6_note_21 : decode cX6_note 21 = .ok (.if_icmp .le 13, 3) := by decide +kernel
theorem dX6_note_24 : decode cX6_note 24 = .ok (.new 46, 3) := by decide +kernel
theorem dX6_note_27 : decode cX6_note 27 = .ok (.dup, 1) := by decide +kernel
theorem dX6_note_28 : decode cX6_note 28 = .ok (.ldc 80, 2) := by decide +kernel
theorem dX6_note_30 : decode cX6_note 30 = .ok (.invokespecial 50, 3) := by decide +kernel
theorem dX6_note_33 : decode cX6_note 33 = .ok (.athrow, 1) := by decide +kernel
theorem dX6_note_34 : decode cX6_note 34 = .ok (.aload_n 0, 1) := by decide +kernel
theorem dX6_note_35 : decode cX6_note 35 = .ok (.aload 4, 2) := by decide +kernel
theorem dX6_note_37 : decode cX6_note 37 = .ok (.iload_n 2, 1) := by decide +kernel
theorem dX6_note_38 : decode cX6_note 38 = .ok (.invokevirtual 72, 3) := by decide +kernel
theorem dX6_note_41 : decode cX6_note 41 = .ok (.aload_n 0, 1) := by decide +kernel
theorem dX6_note_42 : decode cX6_note 42 = .ok (.invokevirtual 53, 3) := by decide +kernel
theorem dX6_note_45 : decode cX6_note 45 = .ok (.aload_n 0, 1) := by decide +kernel
theorem dX6_note_46 : decode cX6_note 46 = .ok (.getfield 10, 3) := by decide +kernel
theorem dX6_note_49 : decode cX6_note 49 = .ok (.iload_n 3, 1) := by decide +kernel
theorem dX6_note_50 : decode cX6_note 50 = .ok (.invokevirtual 82, 3) := by decide +kernel
theorem dX6_note_53 : decode cX6_note 53 = .ok (.istore 5, 2) := by decide +kernel
theorem dX6_note_55 : decode cX6_note 55 = .ok (.aload 4, 2) := by decide +kernel
theorem dX6_note_57 : decode cX6_note 57 = .ok (.aload_n 0, 1) := by decide +kernel
theorem dX6_note_58 : decode cX6_note 58 = .ok (.getfield 10, 3) := by decide +kernel
theorem dX6_note_61 : decode cX6_note 61 = .ok (.iconst 2, 1) := by decide +kernel
theorem dX6_note_62 : decode cX6_note 62 = .ok (.aload 4, 2) := by decide +kernel
theorem dX6_note_64 : decode cX6_note 64 = .ok (.invokevirtual 56, 3) := by decide +kernel
theorem dX6_note_67 : decode cX6_note 67 = .ok (.iload 5, 2) := by decide +kernel
theorem dX6_note_69 : decode cX6_note 69 = .ok (.iload_n 2, 1) := by decide +kernel
theorem dX6_note_70 : decode cX6_note 70 = .ok (.invokevirtual 64, 3) := by decide +kernel
theorem dX6_note_73 : decode cX6_note 73 = .ok (.invokevirtual 68, 3) := by decide +kernel
theorem dX6_note_76 : decode cX6_note 76 = .ok (.iload 5, 2) := by decide +kernel
theorem dX6_note_78 : decode cX6_note 78 = .ok (.ireturn, 1) := by decide +kernel
theorem dX6_move_0 : decode cX6_move 0 = .ok (.aload_n 0, 1) := by decide +kernel
theorem dX6_move_1 : decode cX6_move 1 = .ok (.iload_n 1, 1) := by decide +kernel
theorem dX6_move_2 : decode cX6_move 2 = .ok (.invokevirtual 38, 3) := by decide +kernel
theorem dX6_move_5 : decode cX6_move 5 = .ok (.astore 4, 2) := by decide +kernel
theorem dX6_move_7 : decode cX6_move 7 = .ok (.aload_n 0, 1) := by decide +kernel
theorem dX6_move_8 : decode cX6_move 8 = .ok (.aload 4, 2) := by decide +kernel
theorem dX6_move_10 : decode cX6_move 10 = .ok (.iload_n 2, 1) := by decide +kernel
theorem dX6_move_11 : decode cX6_move 11 = .ok (.invokevirtual 86, 3) := by decide +kernel
theorem dX6_move_14 : decode cX6_move 14 = .ok (.aload_n 0, 1) := by decide +kernel
theorem dX6_move_15 : decode cX6_move 15 = .ok (.aload 4, 2) := by decide +kernel
theorem dX6_move_17 : decode cX6_move 17 = .ok (.iload_n 3, 1) := by decide +kernel
theorem dX6_move_18 : decode cX6_move 18 = .ok (.invokevirtual 42, 3) := by decide +kernel
theorem dX6_move_21 : decode cX6_move 21 = .ok (.aload_n 0, 1) := by decide +kernel
theorem dX6_move_22 : decode cX6_move 22 = .ok (.aload 4, 2) := by decide +kernel
theorem dX6_move_24 : decode cX6_move 24 = .ok (.iload_n 3, 1) := by decide +kernel
theorem dX6_move_25 : decode cX6_move 25 = .ok (.invokevirtual 72, 3) := by decide +kernel
theorem dX6_move_28 : decode cX6_move 28 = .ok (.aload_n 0, 1) := by decide +kernel
theorem dX6_move_29 : decode cX6_move 29 = .ok (.invokevirtual 53, 3) := by decide +kernel
theorem dX6_move_32 : decode cX6_move 32 = .ok (.aload 4, 2) := by decide +kernel
theorem dX6_move_34 : decode cX6_move 34 = .ok (.aload_n 0, 1) := by decide +kernel
theorem dX6_move_35 : decode cX6_move 35 = .ok (.getfield 10, 3) := by decide +kernel
theorem dX6_move_38 : decode cX6_move 38 = .ok (.iconst 3, 1) := by decide +kernel
theorem dX6_move_39 : decode cX6_move 39 = .ok (.aload 4, 2) := by decide +kernel
theorem dX6_move_41 : decode cX6_move 41 = .ok (.invokevirtual 56, 3) := by decide +kernel
theorem dX6_move_44 : decode cX6_move 44 = .ok (.iload_n 2, 1) := by decide +kernel
theorem dX6_move_45 : decode cX6_move 45 = .ok (.iload_n 3, 1) := by decide +kernel
theorem dX6_move_46 : decode cX6_move 46 = .ok (.invokevirtual 64, 3) := by decide +kernel
theorem dX6_move_49 : decode cX6_move 49 = .ok (.invokevirtual 68, 3) := by decide +kernel
theorem dX6_move_52 : decode cX6_move 52 = .ok (.return_, 1) := by decide +kernel
theorem dX6_sync_0 : decode cX6_sync 0 = .ok (.aload_n 0, 1) := by decide +kernel
theorem dX6_sync_1 : decode cX6_sync 1 = .ok (.iload_n 1, 1) := by decide +kernel
theorem dX6_sync_2 : decode cX6_sync 2 = .ok (.invokevirtual 38, 3) := by decide +kernel
theorem dX6_sync_5 : decode cX6_sync 5 = .ok (.astore_n 3, 1) := by decide +kernel
theorem dX6_sync_6 : decode cX6_sync 6 = .ok (.aload_n 0, 1) := by decide +kernel
theorem dX6_sync_7 : decode cX6_sync 7 = .ok (.iload_n 2, 1) := by decide +kernel
theorem dX6_sync_8 : decode cX6_sync 8 = .ok (.invokevirtual 38, 3) := by decide +kernel
theorem dX6_sync_11 : decode cX6_sync 11 = .ok (.astore 4, 2) := by decide +kernel
theorem dX6_sync_13 : decode cX6_sync 13 = .ok (.aload 4, 2) := by decide +kernel
theorem dX6_sync_15 : decode cX6_sync 15 = .ok (.aload_n 3, 1) := by decide +kernel
theorem dX6_sync_16 : decode cX6_sync 16 = .ok (.invokevirtual 89, 3) := by decide +kernel
theorem dX6_sync_19 : decode cX6_sync 19 = .ok (.ireturn, 1) := by decide +kernel
theorem dX6_print_0 : decode cX6_print 0 = .ok (.aload_n 0, 1) := by decide +kernel
theorem dX6_print_1 : decode cX6_print 1 = .ok (.getfield 34, 3) := by decide +kernel
theorem dX6_print_4 : decode cX6_print 4 = .ok (.invokevirtual 93, 3) := by decide +kernel
theorem dX6_print_7 : decode cX6_print 7 = .ok (.ifCond .ne 13, 3) := by decide +kernel
theorem dX6_print_10 : decode cX6_print 10 = .ok (.new 97, 3) := by decide +kernel
theorem dX6_print_13 : decode cX6_print 13 = .ok (.dup, 1) := by decide +kernel
theorem dX6_print_14 : decode cX6_print 14 = .ok (.ldc 99, 2) := by decide +kernel
theorem dX6_print_16 : decode cX6_print 16 = .ok (.invokespecial 101, 3) := by decide +kernel
theorem dX6_print_19 : decode cX6_print 19 = .ok (.athrow, 1) := by decide +kernel
theorem dX6_print_20 : decode cX6_print 20 = .ok (.aload_n 0, 1) := by decide +kernel
theorem dX6_print_21 : decode cX6_print 21 = .ok (.getfield 34, 3) := by decide +kernel
theorem dX6_print_24 : decode cX6_print 24 = .ok (.invokevirtual 102, 3) := by decide +kernel
theorem dX6_print_27 : decode cX6_print 27 = .ok (.ireturn, 1) := by decide +kernel
theorem dX6_sheets_0 : decode cX6_sheets 0 = .ok (.aload_n 0, 1) := by decide +kernel
theorem dX6_sheets_1 : decode cX6_sheets 1 = .ok (.getfield 34, 3) := by decide +kernel
theorem dX6_sheets_4 : decode cX6_sheets 4 = .ok (.invokevirtual 105, 3) := by decide +kernel
theorem dX6_sheets_7 : decode cX6_sheets 7 = .ok (.ireturn, 1) := by decide +kernel
theorem dX6_differs_0 : decode cX6_differs 0 = .ok (.iload_n 1, 1) := by decide +kernel
theorem dX6_differs_1 : decode cX6_differs 1 = .ok (.ifCond .lt 14, 3) := by decide +kernel
theorem dX6_differs_4 : decode cX6_differs 4 = .ok (.iload_n 1, 1) := by decide +kernel
theorem dX6_differs_5 : decode cX6_differs 5 = .ok (.aload_n 0, 1) := by decide +kernel
theorem dX6_differs_6 : decode cX6_differs 6 = .ok (.getfield 34, 3) := by decide +kernel
theorem dX6_differs_9 : decode cX6_differs 9 = .ok (.invokevirtual 108, 3) := by decide +kernel
theorem dX6_differs_12 : decode cX6_differs 12 = .ok (.if_icmp .lt 13, 3) := by decide +kernel
theorem dX6_differs_15 : decode cX6_differs 15 = .ok (.new 111, 3) := by decide +kernel
theorem dX6_differs_18 : decode cX6_differs 18 = .ok (.dup, 1) := by decide +kernel
theorem dX6_differs_19 : decode cX6_differs 19 = .ok (.ldc 113, 2) := by decide +kernel
theorem dX6_differs_21 : decode cX6_differs 21 = .ok (.invokespecial 115, 3) := by decide +kernel
theorem dX6_differs_24 : decode cX6_differs 24 = .ok (.athrow, 1) := by decide +kernel
theorem dX6_differs_25 : decode cX6_differs 25 = .ok (.aload_n 0, 1) := by decide +kernel
theorem dX6_differs_26 : decode cX6_differs 26 = .ok (.getfield 34, 3) := by decide +kernel
theorem dX6_differs_29 : decode cX6_differs 29 = .ok (.iload_n 1, 1) := by decide +kernel
theorem dX6_differs_30 : decode cX6_differs 30 = .ok (.invokevirtual 116, 3) := by decide +kernel
theorem dX6_differs_33 : decode cX6_differs 33 = .ok (.ireturn, 1) := by decide +kernel
theorem dX6_cost_0 : decode cX6_cost 0 = .ok (.aload_n 0, 1) := by decide +kernel
theorem dX6_cost_1 : decode cX6_cost 1 = .ok (.getfield 34, 3) := by decide +kernel
theorem dX6_cost_4 : decode cX6_cost 4 = .ok (.invokevirtual 119, 3) := by decide +kernel
theorem dX6_cost_7 : decode cX6_cost 7 = .ok (.ireturn, 1) := by decide +kernel
theorem dX6_lines_0 : decode cX6_lines 0 = .ok (.aload_n 0, 1) := by decide +kernel
theorem dX6_lines_1 : decode cX6_lines 1 = .ok (.iload_n 1, 1) := by decide +kernel
theorem dX6_lines_2 : decode cX6_lines 2 = .ok (.invokevirtual 38, 3) := by decide +kernel
theorem dX6_lines_5 : decode cX6_lines 5 = .ok (.getfield 27, 3) := by decide +kernel
theorem dX6_lines_8 : decode cX6_lines 8 = .ok (.invokevirtual 75, 3) := by decide +kernel
theorem dX6_lines_11 : decode cX6_lines 11 = .ok (.ireturn, 1) := by decide +kernel
theorem dX6_lineAt_0 : decode cX6_lineAt 0 = .ok (.aload_n 0, 1) := by decide +kernel
theorem dX6_lineAt_1 : decode cX6_lineAt 1 = .ok (.iload_n 1, 1) := by decide +kernel
theorem dX6_lineAt_2 : decode cX6_lineAt 2 = .ok (.invokevirtual 38, 3) := by decide +kernel
theorem dX6_lineAt_5 : decode cX6_lineAt 5 = .ok (.getfield 27, 3) := by decide +kernel
theorem dX6_lineAt_8 : decode cX6_lineAt 8 = .ok (.astore 4, 2) := by decide +kernel
theorem dX6_lineAt_10 : decode cX6_lineAt 10 = .ok (.aload_n 0, 1) := by decide +kernel
theorem dX6_lineAt_11 : decode cX6_lineAt 11 = .ok (.iload_n 2, 1) := by decide +kernel
theorem dX6_lineAt_12 : decode cX6_lineAt 12 = .ok (.invokevirtual 122, 3) := by decide +kernel
theorem dX6_lineAt_15 : decode cX6_lineAt 15 = .ok (.iload_n 3, 1) := by decide +kernel
theorem dX6_lineAt_16 : decode cX6_lineAt 16 = .ok (.ifCond .lt 8, 3) := by decide +kernel
theorem dX6_lineAt_19 : decode cX6_lineAt 19 = .ok (.iload_n 3, 1) := by decide +kernel
theorem dX6_lineAt_20 : decode cX6_lineAt 20 = .ok (.iconst 4, 1) := by decide +kernel
theorem dX6_lineAt_21 : decode cX6_lineAt 21 = .ok (.if_icmp .le 13, 3) := by decide +kernel
theorem dX6_lineAt_24 : decode cX6_lineAt 24 = .ok (.new 46, 3) := by decide +kernel
theorem dX6_lineAt_27 : decode cX6_lineAt 27 = .ok (.dup, 1) := by decide +kernel
theorem dX6_lineAt_28 : decode cX6_lineAt 28 = .ok (.ldc 125, 2) := by decide +kernel
theorem dX6_lineAt_30 : decode cX6_lineAt 30 = .ok (.invokespecial 50, 3) := by decide +kernel
theorem dX6_lineAt_33 : decode cX6_lineAt 33 = .ok (.athrow, 1) := by decide +kernel
theorem dX6_lineAt_34 : decode cX6_lineAt 34 = .ok (.iload_n 2, 1) := by decide +kernel
theorem dX6_lineAt_35 : decode cX6_lineAt 35 = .ok (.aload 4, 2) := by decide +kernel
theorem dX6_lineAt_37 : decode cX6_lineAt 37 = .ok (.invokevirtual 75, 3) := by decide +kernel
theorem dX6_lineAt_40 : decode cX6_lineAt 40 = .ok (.if_icmp .lt 5, 3) := by decide +kernel
theorem dX6_lineAt_43 : decode cX6_lineAt 43 = .ok (.iconst (-1), 1) := by decide +kernel
theorem dX6_lineAt_44 : decode cX6_lineAt 44 = .ok (.ireturn, 1) := by decide +kernel
theorem dX6_lineAt_45 : decode cX6_lineAt 45 = .ok (.iload_n 3, 1) := by decide +kernel
theorem dX6_lineAt_46 : decode cX6_lineAt 46 = .ok (.tableswitch 73 0 3 #[30, 37, 51, 58], 30) := by decide +kernel
theorem dX6_lineAt_76 : decode cX6_lineAt 76 = .ok (.aload 4, 2) := by decide +kernel
theorem dX6_lineAt_78 : decode cX6_lineAt 78 = .ok (.iload_n 2, 1) := by decide +kernel
theorem dX6_lineAt_79 : decode cX6_lineAt 79 = .ok (.invokevirtual 127, 3) := by decide +kernel
theorem dX6_lineAt_82 : decode cX6_lineAt 82 = .ok (.ireturn, 1) := by decide +kernel
theorem dX6_lineAt_83 : decode cX6_lineAt 83 = .ok (.aload_n 0, 1) := by decide +kernel
theorem dX6_lineAt_84 : decode cX6_lineAt 84 = .ok (.getfield 10, 3) := by decide +kernel
theorem dX6_lineAt_87 : decode cX6_lineAt 87 = .ok (.aload 4, 2) := by decide +kernel
theorem dX6_lineAt_89 : decode cX6_lineAt 89 = .ok (.iload_n 2, 1) := by decide +kernel
theorem dX6_lineAt_90 : decode cX6_lineAt 90 = .ok (.invokevirtual 127, 3) := by decide +kernel
theorem dX6_lineAt_93 : decode cX6_lineAt 93 = .ok (.invokevirtual 130, 3) := by decide +kernel
theorem dX6_lineAt_96 : decode cX6_lineAt 96 = .ok (.ireturn, 1) := by decide +kernel
theorem dX6_lineAt_97 : decode cX6_lineAt 97 = .ok (.aload 4, 2) := by decide +kernel
theorem dX6_lineAt_99 : decode cX6_lineAt 99 = .ok (.iload_n 2, 1) := by decide +kernel
theorem dX6_lineAt_100 : decode cX6_lineAt 100 = .ok (.invokevirtual 133, 3) := by decide +kernel
theorem dX6_lineAt_103 : decode cX6_lineAt 103 = .ok (.ireturn, 1) := by decide +kernel
theorem dX6_lineAt_104 : decode cX6_lineAt 104 = .ok (.aload 4, 2) := by decide +kernel
theorem dX6_lineAt_106 : decode cX6_lineAt 106 = .ok (.iload_n 2, 1) := by decide +kernel
theorem dX6_lineAt_107 : decode cX6_lineAt 107 = .ok (.invokevirtual 136, 3) := by decide +kernel
theorem dX6_lineAt_110 : decode cX6_lineAt 110 = .ok (.ifCond .eq 7, 3) := by decide +kernel
theorem dX6_lineAt_113 : decode cX6_lineAt 113 = .ok (.iconst 1, 1) := by decide +kernel
theorem dX6_lineAt_114 : decode cX6_lineAt 114 = .ok (.goto 4, 3) := by decide +kernel
theorem dX6_lineAt_117 : decode cX6_lineAt 117 = .ok (.iconst 0, 1) := by decide +kernel
theorem dX6_lineAt_118 : decode cX6_lineAt 118 = .ok (.ireturn, 1) := by decide +kernel
theorem dX6_lineAt_119 : decode cX6_lineAt 119 = .ok (.aload 4, 2) := by decide +kernel
theorem dX6_lineAt_121 : decode cX6_lineAt 121 = .ok (.iload_n 2, 1) := by decide +kernel
theorem dX6_lineAt_122 : decode cX6_lineAt 122 = .ok (.invokevirtual 140, 3) := by decide +kernel
theorem dX6_lineAt_125 : decode cX6_lineAt 125 = .ok (.ireturn, 1) := by decide +kernel
theorem dX6_lineAnew_0 : decode cX6_lineAnew 0 = .ok (.aload_n 0, 1) := by decide +kernel
theorem dX6_lineAnew_1 : decode cX6_lineAnew 1 = .ok (.iload_n 1, 1) := by decide +kernel
theorem dX6_lineAnew_2 : decode cX6_lineAnew 2 = .ok (.invokevirtual 38, 3) := by decide +kernel
theorem dX6_lineAnew_5 : decode cX6_lineAnew 5 = .ok (.astore_n 3, 1) := by decide +kernel
theorem dX6_lineAnew_6 : decode cX6_lineAnew 6 = .ok (.aload_n 0, 1) := by decide +kernel
theorem dX6_lineAnew_7 : decode cX6_lineAnew 7 = .ok (.iload_n 2, 1) := by decide +kernel
theorem dX6_lineAnew_8 : decode cX6_lineAnew 8 = .ok (.invokevirtual 122, 3) := by decide +kernel
theorem dX6_lineAnew_11 : decode cX6_lineAnew 11 = .ok (.aload_n 3, 1) := by decide +kernel
theorem dX6_lineAnew_12 : decode cX6_lineAnew 12 = .ok (.getfield 143, 3) := by decide +kernel
theorem dX6_lineAnew_15 : decode cX6_lineAnew 15 = .ok (.iload_n 2, 1) := by decide +kernel
theorem dX6_lineAnew_16 : decode cX6_lineAnew 16 = .ok (.invokevirtual 147, 3) := by decide +kernel
theorem dX6_lineAnew_19 : decode cX6_lineAnew 19 = .ok (.ireturn, 1) := by decide +kernel
theorem dX6_noteAt_0 : decode cX6_noteAt 0 = .ok (.aload_n 0, 1) := by decide +kernel
theorem dX6_noteAt_1 : decode cX6_noteAt 1 = .ok (.iload_n 1, 1) := by decide +kernel
theorem dX6_noteAt_2 : decode cX6_noteAt 2 = .ok (.invokevirtual 38, 3) := by decide +kernel
theorem dX6_noteAt_5 : decode cX6_noteAt 5 = .ok (.astore_n 3, 1) := by decide +kernel
theorem dX6_noteAt_6 : decode cX6_noteAt 6 = .ok (.aload_n 0, 1) := by decide +kernel
theorem dX6_noteAt_7 : decode cX6_noteAt 7 = .ok (.aload_n 3, 1) := by decide +kernel
theorem dX6_noteAt_8 : decode cX6_noteAt 8 = .ok (.iload_n 2, 1) := by decide +kernel
theorem dX6_noteAt_9 : decode cX6_noteAt 9 = .ok (.invokevirtual 86, 3) := by decide +kernel
theorem dX6_noteAt_12 : decode cX6_noteAt 12 = .ok (.aload_n 3, 1) := by decide +kernel
theorem dX6_noteAt_13 : decode cX6_noteAt 13 = .ok (.getfield 143, 3) := by decide +kernel
theorem dX6_noteAt_16 : decode cX6_noteAt 16 = .ok (.iload_n 2, 1) := by decide +kernel
theorem dX6_noteAt_17 : decode cX6_noteAt 17 = .ok (.invokevirtual 152, 3) := by decide +kernel
theorem dX6_noteAt_20 : decode cX6_noteAt 20 = .ok (.ireturn, 1) := by decide +kernel
theorem dX6_pages_0 : decode cX6_pages 0 = .ok (.aload_n 0, 1) := by decide +kernel
theorem dX6_pages_1 : decode cX6_pages 1 = .ok (.iload_n 1, 1) := by decide +kernel
theorem dX6_pages_2 : decode cX6_pages 2 = .ok (.invokevirtual 38, 3) := by decide +kernel
theorem dX6_pages_5 : decode cX6_pages 5 = .ok (.getfield 27, 3) := by decide +kernel
theorem dX6_pages_8 : decode cX6_pages 8 = .ok (.invokevirtual 155, 3) := by decide +kernel
theorem dX6_pages_11 : decode cX6_pages 11 = .ok (.ireturn, 1) := by decide +kernel
theorem dX6_aheadAnew_0 : decode cX6_aheadAnew 0 = .ok (.aload_n 0, 1) := by decide +kernel
theorem dX6_aheadAnew_1 : decode cX6_aheadAnew 1 = .ok (.iload_n 1, 1) := by decide +kernel
theorem dX6_aheadAnew_2 : decode cX6_aheadAnew 2 = .ok (.invokevirtual 38, 3) := by decide +kernel
theorem dX6_aheadAnew_5 : decode cX6_aheadAnew 5 = .ok (.astore_n 3, 1) := by decide +kernel
theorem dX6_aheadAnew_6 : decode cX6_aheadAnew 6 = .ok (.aload_n 0, 1) := by decide +kernel
theorem dX6_aheadAnew_7 : decode cX6_aheadAnew 7 = .ok (.iload_n 2, 1) := by decide +kernel
theorem dX6_aheadAnew_8 : decode cX6_aheadAnew 8 = .ok (.invokevirtual 122, 3) := by decide +kernel
theorem dX6_aheadAnew_11 : decode cX6_aheadAnew 11 = .ok (.aload_n 3, 1) := by decide +kernel
theorem dX6_aheadAnew_12 : decode cX6_aheadAnew 12 = .ok (.getfield 27, 3) := by decide +kernel
theorem dX6_aheadAnew_15 : decode cX6_aheadAnew 15 = .ok (.iload_n 2, 1) := by decide +kernel
theorem dX6_aheadAnew_16 : decode cX6_aheadAnew 16 = .ok (.invokevirtual 156, 3) := by decide +kernel
theorem dX6_aheadAnew_19 : decode cX6_aheadAnew 19 = .ok (.ireturn, 1) := by decide +kernel
theorem dX6_known_0 : decode cX6_known 0 = .ok (.aload_n 0, 1) := by decide +kernel
theorem dX6_known_1 : decode cX6_known 1 = .ok (.iload_n 1, 1) := by decide +kernel
theorem dX6_known_2 : decode cX6_known 2 = .ok (.invokevirtual 38, 3) := by decide +kernel
theorem dX6_known_5 : decode cX6_known 5 = .ok (.invokevirtual 159, 3) := by decide +kernel
theorem dX6_known_8 : decode cX6_known 8 = .ok (.ireturn, 1) := by decide +kernel
theorem dX6_siteOf_0 : decode cX6_siteOf 0 = .ok (.iload_n 1, 1) := by decide +kernel
theorem dX6_siteOf_1 : decode cX6_siteOf 1 = .ok (.ifCond .lt 12, 3) := by decide +kernel
theorem dX6_siteOf_4 : decode cX6_siteOf 4 = .ok (.iload_n 1, 1) := by decide +kernel
theorem dX6_siteOf_5 : decode cX6_siteOf 5 = .ok (.aload_n 0, 1) := by decide +kernel
theorem dX6_siteOf_6 : decode cX6_siteOf 6 = .ok (.getfield 18, 3) := by decide +kernel
theorem dX6_siteOf_9 : decode cX6_siteOf 9 = .ok (.arraylength, 1) := by decide +kernel
theorem dX6_siteOf_10 : decode cX6_siteOf 10 = .ok (.if_icmp .lt 13, 3) := by decide +kernel
theorem dX6_siteOf_13 : decode cX6_siteOf 13 = .ok (.new 111, 3) := by decide +kernel
theorem dX6_siteOf_16 : decode cX6_siteOf 16 = .ok (.dup, 1) := by decide +kernel
theorem dX6_siteOf_17 : decode cX6_siteOf 17 = .ok (.ldc 162, 2) := by decide +kernel
theorem dX6_siteOf_19 : decode cX6_siteOf 19 = .ok (.invokespecial 115, 3) := by decide +kernel
theorem dX6_siteOf_22 : decode cX6_siteOf 22 = .ok (.athrow, 1) := by decide +kernel
theorem dX6_siteOf_23 : decode cX6_siteOf 23 = .ok (.aload_n 0, 1) := by decide +kernel
theorem dX6_siteOf_24 : decode cX6_siteOf 24 = .ok (.getfield 18, 3) := by decide +kernel
theorem dX6_siteOf_27 : decode cX6_siteOf 27 = .ok (.iload_n 1, 1) := by decide +kernel
theorem dX6_siteOf_28 : decode cX6_siteOf 28 = .ok (.aaload, 1) := by decide +kernel
theorem dX6_siteOf_29 : decode cX6_siteOf 29 = .ok (.areturn, 1) := by decide +kernel
theorem dX6_checkLineIsKnown_0 : decode cX6_checkLineIsKnown 0 = .ok (.aload_n 1, 1) := by decide +kernel
theorem dX6_checkLineIsKnown_1 : decode cX6_checkLineIsKnown 1 = .ok (.getfield 143, 3) := by decide +kernel
theorem dX6_checkLineIsKnown_4 : decode cX6_checkLineIsKnown 4 = .ok (.iload_n 2, 1) := by decide +kernel
theorem dX6_checkLineIsKnown_5 : decode cX6_checkLineIsKnown 5 = .ok (.invokevirtual 164, 3) := by decide +kernel
theorem dX6_checkLineIsKnown_8 : decode cX6_checkLineIsKnown 8 = .ok (.ifCond .ne 13, 3) := by decide +kernel
theorem dX6_checkLineIsKnown_11 : decode cX6_checkLineIsKnown 11 = .ok (.new 111, 3) := by decide +kernel
theorem dX6_checkLineIsKnown_14 : decode cX6_checkLineIsKnown 14 = .ok (.dup, 1) := by decide +kernel
theorem dX6_checkLineIsKnown_15 : decode cX6_checkLineIsKnown 15 = .ok (.ldc 167, 2) := by decide +kernel
theorem dX6_checkLineIsKnown_17 : decode cX6_checkLineIsKnown 17 = .ok (.invokespecial 115, 3) := by decide +kernel
theorem dX6_checkLineIsKnown_20 : decode cX6_checkLineIsKnown 20 = .ok (.athrow, 1) := by decide +kernel
theorem dX6_checkLineIsKnown_21 : decode cX6_checkLineIsKnown 21 = .ok (.return_, 1) := by decide +kernel
theorem dX6_checkLineIsThere_0 : decode cX6_checkLineIsThere 0 = .ok (.aload_n 1, 1) := by decide +kernel
theorem dX6_checkLineIsThere_1 : decode cX6_checkLineIsThere 1 = .ok (.getfield 143, 3) := by decide +kernel
theorem dX6_checkLineIsThere_4 : decode cX6_checkLineIsThere 4 = .ok (.iload_n 2, 1) := by decide +kernel
theorem dX6_checkLineIsThere_5 : decode cX6_checkLineIsThere 5 = .ok (.invokevirtual 169, 3) := by decide +kernel
theorem dX6_checkLineIsThere_8 : decode cX6_checkLineIsThere 8 = .ok (.ifCond .ne 13, 3) := by decide +kernel
theorem dX6_checkLineIsThere_11 : decode cX6_checkLineIsThere 11 = .ok (.new 172, 3) := by decide +kernel
theorem dX6_checkLineIsThere_14 : decode cX6_checkLineIsThere 14 = .ok (.dup, 1) := by decide +kernel
theorem dX6_checkLineIsThere_15 : decode cX6_checkLineIsThere 15 = .ok (.ldc 174, 2) := by decide +kernel
theorem dX6_checkLineIsThere_17 : decode cX6_checkLineIsThere 17 = .ok (.invokespecial 176, 3) := by decide +kernel
theorem dX6_checkLineIsThere_20 : decode cX6_checkLineIsThere 20 = .ok (.athrow, 1) := by decide +kernel
theorem dX6_checkLineIsThere_21 : decode cX6_checkLineIsThere 21 = .ok (.return_, 1) := by decide +kernel
theorem dX6_checkNoteIsKnown_0 : decode cX6_checkNoteIsKnown 0 = .ok (.aload_n 1, 1) := by decide +kernel
theorem dX6_checkNoteIsKnown_1 : decode cX6_checkNoteIsKnown 1 = .ok (.getfield 143, 3) := by decide +kernel
theorem dX6_checkNoteIsKnown_4 : decode cX6_checkNoteIsKnown 4 = .ok (.iload_n 2, 1) := by decide +kernel
theorem dX6_checkNoteIsKnown_5 : decode cX6_checkNoteIsKnown 5 = .ok (.invokevirtual 177, 3) := by decide +kernel
theorem dX6_checkNoteIsKnown_8 : decode cX6_checkNoteIsKnown 8 = .ok (.ifCond .ne 13, 3) := by decide +kernel
theorem dX6_checkNoteIsKnown_11 : decode cX6_checkNoteIsKnown 11 = .ok (.new 111, 3) := by decide +kernel
theorem dX6_checkNoteIsKnown_14 : decode cX6_checkNoteIsKnown 14 = .ok (.dup, 1) := by decide +kernel
theorem dX6_checkNoteIsKnown_15 : decode cX6_checkNoteIsKnown 15 = .ok (.ldc 180, 2) := by decide +kernel
theorem dX6_checkNoteIsKnown_17 : decode cX6_checkNoteIsKnown 17 = .ok (.invokespecial 115, 3) := by decide +kernel
theorem dX6_checkNoteIsKnown_20 : decode cX6_checkNoteIsKnown 20 = .ok (.athrow, 1) := by decide +kernel
theorem dX6_checkNoteIsKnown_21 : decode cX6_checkNoteIsKnown 21 = .ok (.return_, 1) := by decide +kernel
theorem dX6_checkRoomForDeed_0 : decode cX6_checkRoomForDeed 0 = .ok (.aload_n 0, 1) := by decide +kernel
theorem dX6_checkRoomForDeed_1 : decode cX6_checkRoomForDeed 1 = .ok (.getfield 10, 3) := by decide +kernel
theorem dX6_checkRoomForDeed_4 : decode cX6_checkRoomForDeed 4 = .ok (.invokevirtual 182, 3) := by decide +kernel
theorem dX6_checkRoomForDeed_7 : decode cX6_checkRoomForDeed 7 = .ok (.bipush 90, 2) := by decide +kernel
theorem dX6_checkRoomForDeed_9 : decode cX6_checkRoomForDeed 9 = .ok (.if_icmp .lt 13, 3) := by decide +kernel
theorem dX6_checkRoomForDeed_12 : decode cX6_checkRoomForDeed 12 = .ok (.new 97, 3) := by decide +kernel
theorem dX6_checkRoomForDeed_15 : decode cX6_checkRoomForDeed 15 = .ok (.dup, 1) := by decide +kernel
theorem dX6_checkRoomForDeed_16 : decode cX6_checkRoomForDeed 16 = .ok (.ldc 183, 2) := by decide +kernel
theorem dX6_checkRoomForDeed_18 : decode cX6_checkRoomForDeed 18 = .ok (.invokespecial 101, 3) := by decide +kernel
theorem dX6_checkRoomForDeed_21 : decode cX6_checkRoomForDeed 21 = .ok (.athrow, 1) := by decide +kernel
theorem dX6_checkRoomForDeed_22 : decode cX6_checkRoomForDeed 22 = .ok (.return_, 1) := by decide +kernel
theorem dX6_checkFromNought_0 : decode cX6_checkFromNought 0 = .ok (.iload_n 1, 1) := by decide +kernel
theorem dX6_checkFromNought_1 : decode cX6_checkFromNought 1 = .ok (.ifCond .ge 13, 3) := by decide +kernel
theorem dX6_checkFromNought_4 : decode cX6_checkFromNought 4 = .ok (.new 111, 3) := by decide +kernel
theorem dX6_checkFromNought_7 : decode cX6_checkFromNought 7 = .ok (.dup, 1) := by decide +kernel
theorem dX6_checkFromNought_8 : decode cX6_checkFromNought 8 = .ok (.ldc 185, 2) := by decide +kernel
theorem dX6_checkFromNought_10 : decode cX6_checkFromNought 10 = .ok (.invokespecial 115, 3) := by decide +kernel
theorem dX6_checkFromNought_13 : decode cX6_checkFromNought 13 = .ok (.athrow, 1) := by decide +kernel
theorem dX6_checkFromNought_14 : decode cX6_checkFromNought 14 = .ok (.return_, 1) := by decide +kernel
theorem dX7_init_0 : decode cX7_init 0 = .ok (.aload_n 0, 1) := by decide +kernel
theorem dX7_init_1 : decode cX7_init 1 = .ok (.invokespecial 1, 3) := by decide +kernel
theorem dX7_init_4 : decode cX7_init 4 = .ok (.aload_n 0, 1) := by decide +kernel
theorem dX7_init_5 : decode cX7_init 5 = .ok (.bipush 90, 2) := by decide +kernel
theorem dX7_init_7 : decode cX7_init 7 = .ok (.newarray .int, 2) := by decide +kernel
theorem dX7_init_9 : decode cX7_init 9 = .ok (.putfield 7, 3) := by decide +kernel
theorem dX7_init_12 : decode cX7_init 12 = .ok (.aload_n 0, 1) := by decide +kernel
theorem dX7_init_13 : decode cX7_init 13 = .ok (.bipush 90, 2) := by decide +kernel
theorem dX7_init_15 : decode cX7_init 15 = .ok (.newarray .int, 2) := by decide +kernel
theorem dX7_init_17 : decode cX7_init 17 = .ok (.putfield 13, 3) := by decide +kernel
theorem dX7_init_20 : decode cX7_init 20 = .ok (.aload_n 0, 1) := by decide +kernel
theorem dX7_init_21 : decode cX7_init 21 = .ok (.bipush 90, 2) := by decide +kernel
theorem dX7_init_23 : decode cX7_init 23 = .ok (.newarray .int, 2) := by decide +kernel
theorem dX7_init_25 : decode cX7_init 25 = .ok (.putfield 16, 3) := by decide +kernel
theorem dX7_init_28 : decode cX7_init 28 = .ok (.aload_n 0, 1) := by decide +kernel
theorem dX7_init_29 : decode cX7_init 29 = .ok (.bipush 90, 2) := by decide +kernel
theorem dX7_init_31 : decode cX7_init 31 = .ok (.newarray .int, 2) := by decide +kernel
theorem dX7_init_33 : decode cX7_init 33 = .ok (.putfield 19, 3) := by decide +kernel
theorem dX7_init_36 : decode cX7_init 36 = .ok (.aload_n 0, 1) := by decide +kernel
theorem dX7_init_37 : decode cX7_init 37 = .ok (.bipush 90, 2) := by decide +kernel
theorem dX7_init_39 : decode cX7_init 39 = .ok (.newarray .int, 2) := by decide +kernel
theorem dX7_init_41 : decode cX7_init 41 = .ok (.putfield 22, 3) := by decide +kernel
theorem dX7_init_44 : decode cX7_init 44 = .ok (.aload_n 0, 1) := by decide +kernel
theorem dX7_init_45 : decode cX7_init 45 = .ok (.bipush 90, 2) := by decide +kernel
theorem dX7_init_47 : decode cX7_init 47 = .ok (.newarray .int, 2) := by decide +kernel
theorem dX7_init_49 : decode cX7_init 49 = .ok (.putfield 25, 3) := by decide +kernel
end
section
theorem dX7_init_52 : decode cX7_init 52 = .ok (.aload_n 0, 1) := by decide +kernel
theorem dX7_init_53 : decode cX7_init 53 = .ok (.bipush 90, 2) := by decide +kernel
theorem dX7_init_55 : decode cX7_init 55 = .ok (.newarray .int, 2) := by decide +kernel
theorem dX7_init_57 : decode cX7_init 57 = .ok (.putfield 28, 3) := by decide +kernel
theorem dX7_init_60 : decode cX7_init 60 = .ok (.aload_n 0, 1) := by decide +kernel
theorem dX7_init_61 : decode cX7_init 61 = .ok (.bipush 90, 2) := by decide +kernel
theorem dX7_init_63 : decode cX7_init 63 = .ok (.newarray .int, 2) := by decide +kernel
theorem dX7_init_65 : decode cX7_init 65 = .ok (.putfield 31, 3) := by decide +kernel
theorem dX7_init_68 : decode cX7_init 68 = .ok (.aload_n 0, 1) := by decide +kernel
theorem dX7_init_69 : decode cX7_init 69 = .ok (.bipush 90, 2) := by decide +kernel
theorem dX7_init_71 : decode cX7_init 71 = .ok (.newarray .boolean, 2) := by decide +kernel
theorem dX7_init_73 : decode cX7_init 73 = .ok (.putfield 34, 3) := by decide +kernel
theorem dX7_init_76 : decode cX7_init 76 = .ok (.aload_n 0, 1) := by decide +kernel
theorem dX7_init_77 : decode cX7_init 77 = .ok (.bipush 90, 2) := by decide +kernel
theorem dX7_init_79 : decode cX7_init 79 = .ok (.newarray .int, 2) := by decide +kernel
theorem dX7_init_81 : decode cX7_init 81 = .ok (.putfield 38, 3) := by decide +kernel
theorem dX7_init_84 : decode cX7_init 84 = .ok (.aload_n 0, 1) := by decide +kernel
theorem dX7_init_85 : decode cX7_init 85 = .ok (.bipush 90, 2) := by decide +kernel
theorem dX7_init_87 : decode cX7_init 87 = .ok (.newarray .int, 2) := by decide +kernel
theorem dX7_init_89 : decode cX7_init 89 = .ok (.putfield 41, 3) := by decide +kernel
theorem dX7_init_92 : decode cX7_init 92 = .ok (.aload_n 0, 1) := by decide +kernel
theorem dX7_init_93 : decode cX7_init 93 = .ok (.iconst 4, 1) := by decide +kernel
theorem dX7_init_94 : decode cX7_init 94 = .ok (.newarray .int, 2) := by decide +kernel
theorem dX7_init_96 : decode cX7_init 96 = .ok (.putfield 44, 3) := by decide +kernel
theorem dX7_init_99 : decode cX7_init 99 = .ok (.aload_n 0, 1) := by decide +kernel
theorem dX7_init_100 : decode cX7_init 100 = .ok (.iconst 4, 1) := by decide +kernel
theorem dX7_init_101 : decode cX7_init 101 = .ok (.newarray .int, 2) := by decide +kernel
theorem dX7_init_103 : decode cX7_init 103 = .ok (.putfield 47, 3) := by decide +kernel
theorem dX7_init_106 : decode cX7_init 106 = .ok (.aload_n 0, 1) := by decide +kernel
theorem dX7_init_107 : decode cX7_init 107 = .ok (.sipush 360, 3) := by decide +kernel
theorem dX7_init_110 : decode cX7_init 110 = .ok (.newarray .int, 2) := by decide +kernel
theorem dX7_init_112 : decode cX7_init 112 = .ok (.putfield 50, 3) := by decide +kernel
theorem dX7_init_115 : decode cX7_init 115 = .ok (.aload_n 0, 1) := by decide +kernel
theorem dX7_init_116 : decode cX7_init 116 = .ok (.sipush 360, 3) := by decide +kernel
theorem dX7_init_119 : decode cX7_init 119 = .ok (.newarray .boolean, 2) := by decide +kernel
theorem dX7_init_121 : decode cX7_init 121 = .ok (.putfield 53, 3) := by decide +kernel
theorem dX7_init_124 : decode cX7_init 124 = .ok (.aload_n 0, 1) := by decide +kernel
theorem dX7_init_125 : decode cX7_init 125 = .ok (.sipush 200, 3) := by decide +kernel
theorem dX7_init_128 : decode cX7_init 128 = .ok (.newarray .int, 2) := by decide +kernel
theorem dX7_init_130 : decode cX7_init 130 = .ok (.putfield 56, 3) := by decide +kernel
theorem dX7_init_133 : decode cX7_init 133 = .ok (.aload_n 0, 1) := by decide +kernel
theorem dX7_init_134 : decode cX7_init 134 = .ok (.sipush 1200, 3) := by decide +kernel
theorem dX7_init_137 : decode cX7_init 137 = .ok (.newarray .int, 2) := by decide +kernel
theorem dX7_init_139 : decode cX7_init 139 = .ok (.putfield 59, 3) := by decide +kernel
theorem dX7_init_142 : decode cX7_init 142 = .ok (.aload_n 0, 1) := by decide +kernel
theorem dX7_init_143 : decode cX7_init 143 = .ok (.sipush 1200, 3) := by decide +kernel
theorem dX7_init_146 : decode cX7_init 146 = .ok (.newarray .int, 2) := by decide +kernel
theorem dX7_init_148 : decode cX7_init 148 = .ok (.putfield 62, 3) := by decide +kernel
theorem dX7_init_151 : decode cX7_init 151 = .ok (.aload_n 0, 1) := by decide +kernel
theorem dX7_init_152 : decode cX7_init 152 = .ok (.bipush 90, 2) := by decide +kernel
theorem dX7_init_154 : decode cX7_init 154 = .ok (.newarray .int, 2) := by decide +kernel
theorem dX7_init_156 : decode cX7_init 156 = .ok (.putfield 65, 3) := by decide +kernel
theorem dX7_init_159 : decode cX7_init 159 = .ok (.aload_n 0, 1) := by decide +kernel
theorem dX7_init_160 : decode cX7_init 160 = .ok (.bipush 90, 2) := by decide +kernel
theorem dX7_init_162 : decode cX7_init 162 = .ok (.newarray .int, 2) := by decide +kernel
theorem dX7_init_164 : decode cX7_init 164 = .ok (.putfield 68, 3) := by decide +kernel
theorem dX7_init_167 : decode cX7_init 167 = .ok (.aload_n 0, 1) := by decide +kernel
theorem dX7_init_168 : decode cX7_init 168 = .ok (.bipush 90, 2) := by decide +kernel
theorem dX7_init_170 : decode cX7_init 170 = .ok (.newarray .int, 2) := by decide +kernel
theorem dX7_init_172 : decode cX7_init 172 = .ok (.putfield 71, 3) := by decide +kernel
theorem dX7_init_175 : decode cX7_init 175 = .ok (.aload_n 0, 1) := by decide +kernel
theorem dX7_init_176 : decode cX7_init 176 = .ok (.bipush 90, 2) := by decide +kernel
theorem dX7_init_178 : decode cX7_init 178 = .ok (.newarray .int, 2) := by decide +kernel
theorem dX7_init_180 : decode cX7_init 180 = .ok (.putfield 74, 3) := by decide +kernel
theorem dX7_init_183 : decode cX7_init 183 = .ok (.aload_n 0, 1) := by decide +kernel
theorem dX7_init_184 : decode cX7_init 184 = .ok (.bipush 90, 2) := by decide +kernel
theorem dX7_init_186 : decode cX7_init 186 = .ok (.newarray .int, 2) := by decide +kernel
theorem dX7_init_188 : decode cX7_init 188 = .ok (.putfield 77, 3) := by decide +kernel
theorem dX7_init_191 : decode cX7_init 191 = .ok (.return_, 1) := by decide +kernel
theorem dX7_thrown_0 : decode cX7_thrown 0 = .ok (.aload_n 0, 1) := by decide +kernel
theorem dX7_thrown_1 : decode cX7_thrown 1 = .ok (.getfield 80, 3) := by decide +kernel
theorem dX7_thrown_4 : decode cX7_thrown 4 = .ok (.ireturn, 1) := by decide +kernel
theorem dX7_goesWell_0 : decode cX7_goesWell 0 = .ok (.aload_n 0, 1) := by decide +kernel
theorem dX7_goesWell_1 : decode cX7_goesWell 1 = .ok (.iload_n 1, 1) := by decide +kernel
theorem dX7_goesWell_2 : decode cX7_goesWell 2 = .ok (.putfield 80, 3) := by decide +kernel
theorem dX7_goesWell_5 : decode cX7_goesWell 5 = .ok (.iload_n 1, 1) := by decide +kernel
theorem dX7_goesWell_6 : decode cX7_goesWell 6 = .ok (.ifCond .ne 7, 3) := by decide +kernel
theorem dX7_goesWell_9 : decode cX7_goesWell 9 = .ok (.iconst 1, 1) := by decide +kernel
theorem dX7_goesWell_10 : decode cX7_goesWell 10 = .ok (.goto 4, 3) := by decide +kernel
theorem dX7_goesWell_13 : decode cX7_goesWell 13 = .ok (.iconst 0, 1) := by decide +kernel
theorem dX7_goesWell_14 : decode cX7_goesWell 14 = .ok (.ireturn, 1) := by decide +kernel
theorem dX7_in_0 : decode cX7_in 0 = .ok (.iload_n 0, 1) := by decide +kernel
theorem dX7_in_1 : decode cX7_in 1 = .ok (.iload_n 1, 1) := by decide +kernel
theorem dX7_in_2 : decode cX7_in 2 = .ok (.if_icmp .lt 12, 3) := by decide +kernel
theorem dX7_in_5 : decode cX7_in 5 = .ok (.iload_n 0, 1) := by decide +kernel
theorem dX7_in_6 : decode cX7_in 6 = .ok (.iload_n 2, 1) := by decide +kernel
theorem dX7_in_7 : decode cX7_in 7 = .ok (.if_icmp .gt 7, 3) := by decide +kernel
theorem dX7_in_10 : decode cX7_in 10 = .ok (.iconst 1, 1) := by decide +kernel
theorem dX7_in_11 : decode cX7_in 11 = .ok (.goto 4, 3) := by decide +kernel
theorem dX7_in_14 : decode cX7_in 14 = .ok (.iconst 0, 1) := by decide +kernel
theorem dX7_in_15 : decode cX7_in 15 = .ok (.ireturn, 1) := by decide +kernel
theorem dX7_isSite_0 : decode cX7_isSite 0 = .ok (.iload_n 0, 1) := by decide +kernel
theorem dX7_isSite_1 : decode cX7_isSite 1 = .ok (.iconst 0, 1) := by decide +kernel
theorem dX7_isSite_2 : decode cX7_isSite 2 = .ok (.iconst 3, 1) := by decide +kernel
theorem dX7_isSite_3 : decode cX7_isSite 3 = .ok (.invokestatic 84, 3) := by decide +kernel
theorem dX7_isSite_6 : decode cX7_isSite 6 = .ok (.ireturn, 1) := by decide +kernel
theorem dX7_knowsLine_0 : decode cX7_knowsLine 0 = .ok (.iload_n 2, 1) := by decide +kernel
theorem dX7_knowsLine_1 : decode cX7_knowsLine 1 = .ok (.iconst 0, 1) := by decide +kernel
theorem dX7_knowsLine_2 : decode cX7_knowsLine 2 = .ok (.aload_n 0, 1) := by decide +kernel
theorem dX7_knowsLine_3 : decode cX7_knowsLine 3 = .ok (.getfield 88, 3) := by decide +kernel
theorem dX7_knowsLine_6 : decode cX7_knowsLine 6 = .ok (.iconst 1, 1) := by decide +kernel
theorem dX7_knowsLine_7 : decode cX7_knowsLine 7 = .ok (.isub, 1) := by decide +kernel
theorem dX7_knowsLine_8 : decode cX7_knowsLine 8 = .ok (.invokestatic 84, 3) := by decide +kernel
theorem dX7_knowsLine_11 : decode cX7_knowsLine 11 = .ok (.ifCond .eq 26, 3) := by decide +kernel
theorem dX7_knowsLine_14 : decode cX7_knowsLine 14 = .ok (.aload_n 0, 1) := by decide +kernel
theorem dX7_knowsLine_15 : decode cX7_knowsLine 15 = .ok (.getfield 53, 3) := by decide +kernel
theorem dX7_knowsLine_18 : decode cX7_knowsLine 18 = .ok (.bipush 90, 2) := by decide +kernel
theorem dX7_knowsLine_20 : decode cX7_knowsLine 20 = .ok (.iload_n 1, 1) := by decide +kernel
theorem dX7_knowsLine_21 : decode cX7_knowsLine 21 = .ok (.imul, 1) := by decide +kernel
theorem dX7_knowsLine_22 : decode cX7_knowsLine 22 = .ok (.aload_n 0, 1) := by decide +kernel
theorem dX7_knowsLine_23 : decode cX7_knowsLine 23 = .ok (.getfield 25, 3) := by decide +kernel
theorem dX7_knowsLine_26 : decode cX7_knowsLine 26 = .ok (.iload_n 2, 1) := by decide +kernel
theorem dX7_knowsLine_27 : decode cX7_knowsLine 27 = .ok (.iaload, 1) := by decide +kernel
theorem dX7_knowsLine_28 : decode cX7_knowsLine 28 = .ok (.iadd, 1) := by decide +kernel
theorem dX7_knowsLine_29 : decode cX7_knowsLine 29 = .ok (.baload, 1) := by decide +kernel
theorem dX7_knowsLine_30 : decode cX7_knowsLine 30 = .ok (.ifCond .eq 7, 3) := by decide +kernel
theorem dX7_knowsLine_33 : decode cX7_knowsLine 33 = .ok (.iconst 1, 1) := by decide +kernel
theorem dX7_knowsLine_34 : decode cX7_knowsLine 34 = .ok (.goto 4, 3) := by decide +kernel
theorem dX7_knowsLine_37 : decode cX7_knowsLine 37 = .ok (.iconst 0, 1) := by decide +kernel
theorem dX7_knowsLine_38 : decode cX7_knowsLine 38 = .ok (.ireturn, 1) := by decide +kernel
theorem dX7_knowsNote_0 : decode cX7_knowsNote 0 = .ok (.iload_n 2, 1) := by decide +kernel
theorem dX7_knowsNote_1 : decode cX7_knowsNote 1 = .ok (.iconst 0, 1) := by decide +kernel
theorem dX7_knowsNote_2 : decode cX7_knowsNote 2 = .ok (.aload_n 0, 1) := by decide +kernel
theorem dX7_knowsNote_3 : decode cX7_knowsNote 3 = .ok (.getfield 91, 3) := by decide +kernel
theorem dX7_knowsNote_6 : decode cX7_knowsNote 6 = .ok (.iconst 1, 1) := by decide +kernel
theorem dX7_knowsNote_7 : decode cX7_knowsNote 7 = .ok (.isub, 1) := by decide +kernel
theorem dX7_knowsNote_8 : decode cX7_knowsNote 8 = .ok (.invokestatic 84, 3) := by decide +kernel
theorem dX7_knowsNote_11 : decode cX7_knowsNote 11 = .ok (.ifCond .eq 26, 3) := by decide +kernel
theorem dX7_knowsNote_14 : decode cX7_knowsNote 14 = .ok (.aload_n 0, 1) := by decide +kernel
theorem dX7_knowsNote_15 : decode cX7_knowsNote 15 = .ok (.getfield 53, 3) := by decide +kernel
theorem dX7_knowsNote_18 : decode cX7_knowsNote 18 = .ok (.bipush 90, 2) := by decide +kernel
theorem dX7_knowsNote_20 : decode cX7_knowsNote 20 = .ok (.iload_n 1, 1) := by decide +kernel
theorem dX7_knowsNote_21 : decode cX7_knowsNote 21 = .ok (.imul, 1) := by decide +kernel
theorem dX7_knowsNote_22 : decode cX7_knowsNote 22 = .ok (.aload_n 0, 1) := by decide +kernel
theorem dX7_knowsNote_23 : decode cX7_knowsNote 23 = .ok (.getfield 38, 3) := by decide +kernel
theorem dX7_knowsNote_26 : decode cX7_knowsNote 26 = .ok (.iload_n 2, 1) := by decide +kernel
theorem dX7_knowsNote_27 : decode cX7_knowsNote 27 = .ok (.iaload, 1) := by decide +kernel
theorem dX7_knowsNote_28 : decode cX7_knowsNote 28 = .ok (.iadd, 1) := by decide +kernel
theorem dX7_knowsNote_29 : decode cX7_knowsNote 29 = .ok (.baload, 1) := by decide +kernel
theorem dX7_knowsNote_30 : decode cX7_knowsNote 30 = .ok (.ifCond .eq 7, 3) := by decide +kernel
theorem dX7_knowsNote_33 : decode cX7_knowsNote 33 = .ok (.iconst 1, 1) := by decide +kernel
theorem dX7_knowsNote_34 : decode cX7_knowsNote 34 = .ok (.goto 4, 3) := by decide +kernel
theorem dX7_knowsNote_37 : decode cX7_knowsNote 37 = .ok (.iconst 0, 1) := by decide +kernel
theorem dX7_knowsNote_38 : decode cX7_knowsNote 38 = .ok (.ireturn, 1) := by decide +kernel
theorem dX7_isThere_0 : decode cX7_isThere 0 = .ok (.iconst 1, 1) := by decide +kernel
theorem dX7_isThere_1 : decode cX7_isThere 1 = .ok (.istore_n 3, 1) := by decide +kernel
theorem dX7_isThere_2 : decode cX7_isThere 2 = .ok (.iconst 0, 1) := by decide +kernel
theorem dX7_isThere_3 : decode cX7_isThere 3 = .ok (.istore 4, 2) := by decide +kernel
theorem dX7_isThere_5 : decode cX7_isThere 5 = .ok (.iload 4, 2) := by decide +kernel
theorem dX7_isThere_7 : decode cX7_isThere 7 = .ok (.aload_n 0, 1) := by decide +kernel
theorem dX7_isThere_8 : decode cX7_isThere 8 = .ok (.getfield 94, 3) := by decide +kernel
theorem dX7_isThere_11 : decode cX7_isThere 11 = .ok (.if_icmp .ge 56, 3) := by decide +kernel
theorem dX7_isThere_14 : decode cX7_isThere 14 = .ok (.iload_n 3, 1) := by decide +kernel
theorem dX7_isThere_15 : decode cX7_isThere 15 = .ok (.ifCond .eq 44, 3) := by decide +kernel
theorem dX7_isThere_18 : decode cX7_isThere 18 = .ok (.aload_n 0, 1) := by decide +kernel
theorem dX7_isThere_19 : decode cX7_isThere 19 = .ok (.getfield 7, 3) := by decide +kernel
theorem dX7_isThere_22 : decode cX7_isThere 22 = .ok (.iload 4, 2) := by decide +kernel
theorem dX7_isThere_24 : decode cX7_isThere 24 = .ok (.iaload, 1) := by decide +kernel
theorem dX7_isThere_25 : decode cX7_isThere 25 = .ok (.iconst 1, 1) := by decide +kernel
theorem dX7_isThere_26 : decode cX7_isThere 26 = .ok (.if_icmp .ne 29, 3) := by decide +kernel
theorem dX7_isThere_29 : decode cX7_isThere 29 = .ok (.aload_n 0, 1) := by decide +kernel
theorem dX7_isThere_30 : decode cX7_isThere 30 = .ok (.getfield 19, 3) := by decide +kernel
theorem dX7_isThere_33 : decode cX7_isThere 33 = .ok (.iload 4, 2) := by decide +kernel
theorem dX7_isThere_35 : decode cX7_isThere 35 = .ok (.iaload, 1) := by decide +kernel
theorem dX7_isThere_36 : decode cX7_isThere 36 = .ok (.iload_n 2, 1) := by decide +kernel
theorem dX7_isThere_37 : decode cX7_isThere 37 = .ok (.if_icmp .ne 18, 3) := by decide +kernel
theorem dX7_isThere_40 : decode cX7_isThere 40 = .ok (.aload_n 0, 1) := by decide +kernel
theorem dX7_isThere_41 : decode cX7_isThere 41 = .ok (.getfield 53, 3) := by decide +kernel
theorem dX7_isThere_44 : decode cX7_isThere 44 = .ok (.bipush 90, 2) := by decide +kernel
theorem dX7_isThere_46 : decode cX7_isThere 46 = .ok (.iload_n 1, 1) := by decide +kernel
theorem dX7_isThere_47 : decode cX7_isThere 47 = .ok (.imul, 1) := by decide +kernel
theorem dX7_isThere_48 : decode cX7_isThere 48 = .ok (.iload 4, 2) := by decide +kernel
theorem dX7_isThere_50 : decode cX7_isThere 50 = .ok (.iadd, 1) := by decide +kernel
theorem dX7_isThere_51 : decode cX7_isThere 51 = .ok (.baload, 1) := by decide +kernel
theorem dX7_isThere_52 : decode cX7_isThere 52 = .ok (.ifCond .ne 7, 3) := by decide +kernel
theorem dX7_isThere_55 : decode cX7_isThere 55 = .ok (.iconst 1, 1) := by decide +kernel
theorem dX7_isThere_56 : decode cX7_isThere 56 = .ok (.goto 4, 3) := by decide +kernel
theorem dX7_isThere_59 : decode cX7_isThere 59 = .ok (.iconst 0, 1) := by decide +kernel
theorem dX7_isThere_60 : decode cX7_isThere 60 = .ok (.istore_n 3, 1) := by decide +kernel
theorem dX7_isThere_61 : decode cX7_isThere 61 = .ok (.iinc 4 1, 3) := by decide +kernel
theorem dX7_isThere_64 : decode cX7_isThere 64 = .ok (.goto (-59), 3) := by decide +kernel
theorem dX7_isThere_67 : decode cX7_isThere 67 = .ok (.iload_n 3, 1) := by decide +kernel
theorem dX7_isThere_68 : decode cX7_isThere 68 = .ok (.ireturn, 1) := by decide +kernel
theorem dX7_learn_0 : decode cX7_learn 0 = .ok (.aload_n 0, 1) := by decide +kernel
theorem dX7_learn_1 : decode cX7_learn 1 = .ok (.getfield 53, 3) := by decide +kernel
theorem dX7_learn_4 : decode cX7_learn 4 = .ok (.bipush 90, 2) := by decide +kernel
theorem dX7_learn_6 : decode cX7_learn 6 = .ok (.iload_n 1, 1) := by decide +kernel
theorem dX7_learn_7 : decode cX7_learn 7 = .ok (.imul, 1) := by decide +kernel
theorem dX7_learn_8 : decode cX7_learn 8 = .ok (.iload_n 2, 1) := by decide +kernel
theorem dX7_learn_9 : decode cX7_learn 9 = .ok (.iadd, 1) := by decide +kernel
theorem dX7_learn_10 : decode cX7_learn 10 = .ok (.iconst 1, 1) := by decide +kernel
theorem dX7_learn_11 : decode cX7_learn 11 = .ok (.bastore, 1) := by decide +kernel
theorem dX7_learn_12 : decode cX7_learn 12 = .ok (.aload_n 0, 1) := by decide +kernel
theorem dX7_learn_13 : decode cX7_learn 13 = .ok (.getfield 50, 3) := by decide +kernel
theorem dX7_learn_16 : decode cX7_learn 16 = .ok (.bipush 90, 2) := by decide +kernel
theorem dX7_learn_18 : decode cX7_learn 18 = .ok (.iload_n 1, 1) := by decide +kernel
theorem dX7_learn_19 : decode cX7_learn 19 = .ok (.imul, 1) := by decide +kernel
theorem dX7_learn_20 : decode cX7_learn 20 = .ok (.aload_n 0, 1) := by decide +kernel
theorem dX7_learn_21 : decode cX7_learn 21 = .ok (.getfield 47, 3) := by decide +kernel
theorem dX7_learn_24 : decode cX7_learn 24 = .ok (.iload_n 1, 1) := by decide +kernel
theorem dX7_learn_25 : decode cX7_learn 25 = .ok (.iaload, 1) := by decide +kernel
theorem dX7_learn_26 : decode cX7_learn 26 = .ok (.iadd, 1) := by decide +kernel
theorem dX7_learn_27 : decode cX7_learn 27 = .ok (.iload_n 2, 1) := by decide +kernel
theorem dX7_learn_28 : decode cX7_learn 28 = .ok (.iastore, 1) := by decide +kernel
theorem dX7_learn_29 : decode cX7_learn 29 = .ok (.aload_n 0, 1) := by decide +kernel
theorem dX7_learn_30 : decode cX7_learn 30 = .ok (.getfield 47, 3) := by decide +kernel
theorem dX7_learn_33 : decode cX7_learn 33 = .ok (.iload_n 1, 1) := by decide +kernel
theorem dX7_learn_34 : decode cX7_learn 34 = .ok (.dup2, 1) := by decide +kernel
theorem dX7_learn_35 : decode cX7_learn 35 = .ok (.iaload, 1) := by decide +kernel
theorem dX7_learn_36 : decode cX7_learn 36 = .ok (.iconst 1, 1) := by decide +kernel
theorem dX7_learn_37 : decode cX7_learn 37 = .ok (.iadd, 1) := by decide +kernel
theorem dX7_learn_38 : decode cX7_learn 38 = .ok (.iastore, 1) := by decide +kernel
theorem dX7_learn_39 : decode cX7_learn 39 = .ok (.return_, 1) := by decide +kernel
theorem dX7_deed_0 : decode cX7_deed 0 = .ok (.aload_n 0, 1) := by decide +kernel
theorem dX7_deed_1 : decode cX7_deed 1 = .ok (.getfield 44, 3) := by decide +kernel
theorem dX7_deed_4 : decode cX7_deed 4 = .ok (.iload_n 1, 1) := by decide +kernel
theorem dX7_deed_5 : decode cX7_deed 5 = .ok (.dup2, 1) := by decide +kernel
theorem dX7_deed_6 : decode cX7_deed 6 = .ok (.iaload, 1) := by decide +kernel
theorem dX7_deed_7 : decode cX7_deed 7 = .ok (.iconst 1, 1) := by decide +kernel
theorem dX7_deed_8 : decode cX7_deed 8 = .ok (.iadd, 1) := by decide +kernel
theorem dX7_deed_9 : decode cX7_deed 9 = .ok (.iastore, 1) := by decide +kernel
theorem dX7_deed_10 : decode cX7_deed 10 = .ok (.aload_n 0, 1) := by decide +kernel
theorem dX7_deed_11 : decode cX7_deed 11 = .ok (.getfield 7, 3) := by decide +kernel
theorem dX7_deed_14 : decode cX7_deed 14 = .ok (.aload_n 0, 1) := by decide +kernel
theorem dX7_deed_15 : decode cX7_deed 15 = .ok (.getfield 94, 3) := by decide +kernel
theorem dX7_deed_18 : decode cX7_deed 18 = .ok (.iload_n 2, 1) := by decide +kernel
theorem dX7_deed_19 : decode cX7_deed 19 = .ok (.iastore, 1) := by decide +kernel
theorem dX7_deed_20 : decode cX7_deed 20 = .ok (.aload_n 0, 1) := by decide +kernel
theorem dX7_deed_21 : decode cX7_deed 21 = .ok (.getfield 13, 3) := by decide +kernel
theorem dX7_deed_24 : decode cX7_deed 24 = .ok (.aload_n 0, 1) := by decide +kernel
theorem dX7_deed_25 : decode cX7_deed 25 = .ok (.getfield 94, 3) := by decide +kernel
theorem dX7_deed_28 : decode cX7_deed 28 = .ok (.aload_n 0, 1) := by decide +kernel
theorem dX7_deed_29 : decode cX7_deed 29 = .ok (.getfield 44, 3) := by decide +kernel
theorem dX7_deed_32 : decode cX7_deed 32 = .ok (.iload_n 1, 1) := by decide +kernel
theorem dX7_deed_33 : decode cX7_deed 33 = .ok (.iaload, 1) := by decide +kernel
theorem dX7_deed_34 : decode cX7_deed 34 = .ok (.iastore, 1) := by decide +kernel
theorem dX7_deed_35 : decode cX7_deed 35 = .ok (.aload_n 0, 1) := by decide +kernel
theorem dX7_deed_36 : decode cX7_deed 36 = .ok (.getfield 16, 3) := by decide +kernel
theorem dX7_deed_39 : decode cX7_deed 39 = .ok (.aload_n 0, 1) := by decide +kernel
theorem dX7_deed_40 : decode cX7_deed 40 = .ok (.getfield 94, 3) := by decide +kernel
theorem dX7_deed_43 : decode cX7_deed 43 = .ok (.iload_n 1, 1) := by decide +kernel
theorem dX7_deed_44 : decode cX7_deed 44 = .ok (.iastore, 1) := by decide +kernel
theorem dX7_deed_45 : decode cX7_deed 45 = .ok (.aload_n 0, 1) := by decide +kernel
theorem dX7_deed_46 : decode cX7_deed 46 = .ok (.getfield 19, 3) := by decide +kernel
theorem dX7_deed_49 : decode cX7_deed 49 = .ok (.aload_n 0, 1) := by decide +kernel
theorem dX7_deed_50 : decode cX7_deed 50 = .ok (.getfield 94, 3) := by decide +kernel
theorem dX7_deed_53 : decode cX7_deed 53 = .ok (.iload_n 3, 1) := by decide +kernel
theorem dX7_deed_54 : decode cX7_deed 54 = .ok (.iastore, 1) := by decide +kernel
theorem dX7_deed_55 : decode cX7_deed 55 = .ok (.aload_n 0, 1) := by decide +kernel
theorem dX7_deed_56 : decode cX7_deed 56 = .ok (.getfield 22, 3) := by decide +kernel
theorem dX7_deed_59 : decode cX7_deed 59 = .ok (.aload_n 0, 1) := by decide +kernel
theorem dX7_deed_60 : decode cX7_deed 60 = .ok (.getfield 94, 3) := by decide +kernel
theorem dX7_deed_63 : decode cX7_deed 63 = .ok (.iload 4, 2) := by decide +kernel
theorem dX7_deed_65 : decode cX7_deed 65 = .ok (.iastore, 1) := by decide +kernel
theorem dX7_deed_66 : decode cX7_deed 66 = .ok (.aload_n 0, 1) := by decide +kernel
theorem dX7_deed_67 : decode cX7_deed 67 = .ok (.dup, 1) := by decide +kernel
theorem dX7_deed_68 : decode cX7_deed 68 = .ok (.getfield 94, 3) := by decide +kernel
theorem dX7_deed_71 : decode cX7_deed 71 = .ok (.iconst 1, 1) := by decide +kernel
theorem dX7_deed_72 : decode cX7_deed 72 = .ok (.iadd, 1) := by decide +kernel
theorem dX7_deed_73 : decode cX7_deed 73 = .ok (.putfield 94, 3) := by decide +kernel
theorem dX7_deed_76 : decode cX7_deed 76 = .ok (.aload_n 0, 1) := by decide +kernel
theorem dX7_deed_77 : decode cX7_deed 77 = .ok (.iload_n 1, 1) := by decide +kernel
theorem dX7_deed_78 : decode cX7_deed 78 = .ok (.aload_n 0, 1) := by decide +kernel
theorem dX7_deed_79 : decode cX7_deed 79 = .ok (.getfield 94, 3) := by decide +kernel
theorem dX7_deed_82 : decode cX7_deed 82 = .ok (.iconst 1, 1) := by decide +kernel
theorem dX7_deed_83 : decode cX7_deed 83 = .ok (.isub, 1) := by decide +kernel
theorem dX7_deed_84 : decode cX7_deed 84 = .ok (.invokevirtual 97, 3) := by decide +kernel
theorem dX7_deed_87 : decode cX7_deed 87 = .ok (.aload_n 0, 1) := by decide +kernel
theorem dX7_deed_88 : decode cX7_deed 88 = .ok (.getfield 94, 3) := by decide +kernel
theorem dX7_deed_91 : decode cX7_deed 91 = .ok (.iconst 1, 1) := by decide +kernel
theorem dX7_deed_92 : decode cX7_deed 92 = .ok (.isub, 1) := by decide +kernel
theorem dX7_deed_93 : decode cX7_deed 93 = .ok (.ireturn, 1) := by decide +kernel
theorem dX7_insert_0 : decode cX7_insert 0 = .ok (.iload_n 1, 1) := by decide +kernel
theorem dX7_insert_1 : decode cX7_insert 1 = .ok (.invokestatic 101, 3) := by decide +kernel
theorem dX7_insert_4 : decode cX7_insert 4 = .ok (.ifCond .eq 21, 3) := by decide +kernel
theorem dX7_insert_7 : decode cX7_insert 7 = .ok (.iload_n 2, 1) := by decide +kernel
theorem dX7_insert_8 : decode cX7_insert 8 = .ok (.iconst (-1), 1) := by decide +kernel
theorem dX7_insert_9 : decode cX7_insert 9 = .ok (.if_icmp .eq 12, 3) := by decide +kernel
theorem dX7_insert_12 : decode cX7_insert 12 = .ok (.aload_n 0, 1) := by decide +kernel
theorem dX7_insert_13 : decode cX7_insert 13 = .ok (.iload_n 1, 1) := by decide +kernel
theorem dX7_insert_14 : decode cX7_insert 14 = .ok (.iload_n 2, 1) := by decide +kernel
theorem dX7_insert_15 : decode cX7_insert 15 = .ok (.invokevirtual 105, 3) := by decide +kernel
theorem dX7_insert_18 : decode cX7_insert 18 = .ok (.ifCond .eq 7, 3) := by decide +kernel
theorem dX7_insert_21 : decode cX7_insert 21 = .ok (.iconst 1, 1) := by decide +kernel
theorem dX7_insert_22 : decode cX7_insert 22 = .ok (.goto 4, 3) := by decide +kernel
theorem dX7_insert_25 : decode cX7_insert 25 = .ok (.iconst 0, 1) := by decide +kernel
theorem dX7_insert_26 : decode cX7_insert 26 = .ok (.istore 5, 2) := by decide +kernel
theorem dX7_insert_28 : decode cX7_insert 28 = .ok (.iload_n 3, 1) := by decide +kernel
theorem dX7_insert_29 : decode cX7_insert 29 = .ok (.iconst 0, 1) := by decide +kernel
theorem dX7_insert_30 : decode cX7_insert 30 = .ok (.bipush 99, 2) := by decide +kernel
theorem dX7_insert_32 : decode cX7_insert 32 = .ok (.invokestatic 84, 3) := by decide +kernel
theorem dX7_insert_35 : decode cX7_insert 35 = .ok (.istore 6, 2) := by decide +kernel
theorem dX7_insert_37 : decode cX7_insert 37 = .ok (.aload_n 0, 1) := by decide +kernel
theorem dX7_insert_38 : decode cX7_insert 38 = .ok (.iload 5, 2) := by decide +kernel
theorem dX7_insert_40 : decode cX7_insert 40 = .ok (.ifCond .ne 7, 3) := by decide +kernel
theorem dX7_insert_43 : decode cX7_insert 43 = .ok (.iconst 1, 1) := by decide +kernel
theorem dX7_insert_44 : decode cX7_insert 44 = .ok (.goto 26, 3) := by decide +kernel
theorem dX7_insert_47 : decode cX7_insert 47 = .ok (.iload 6, 2) := by decide +kernel
theorem dX7_insert_49 : decode cX7_insert 49 = .ok (.ifCond .ne 7, 3) := by decide +kernel
theorem dX7_insert_52 : decode cX7_insert 52 = .ok (.iconst 2, 1) := by decide +kernel
theorem dX7_insert_53 : decode cX7_insert 53 = .ok (.goto 17, 3) := by decide +kernel
theorem dX7_insert_56 : decode cX7_insert 56 = .ok (.aload_n 0, 1) := by decide +kernel
theorem dX7_insert_57 : decode cX7_insert 57 = .ok (.getfield 94, 3) := by decide +kernel
theorem dX7_insert_60 : decode cX7_insert 60 = .ok (.bipush 90, 2) := by decide +kernel
theorem dX7_insert_62 : decode cX7_insert 62 = .ok (.if_icmp .ne 7, 3) := by decide +kernel
theorem dX7_insert_65 : decode cX7_insert 65 = .ok (.iconst 3, 1) := by decide +kernel
theorem dX7_insert_66 : decode cX7_insert 66 = .ok (.goto 4, 3) := by decide +kernel
theorem dX7_insert_69 : decode cX7_insert 69 = .ok (.iconst 0, 1) := by decide +kernel
theorem dX7_insert_70 : decode cX7_insert 70 = .ok (.invokevirtual 109, 3) := by decide +kernel
theorem dX7_insert_73 : decode cX7_insert 73 = .ok (.ifCond .ne 5, 3) := by decide +kernel
theorem dX7_insert_76 : decode cX7_insert 76 = .ok (.iconst 0, 1) := by decide +kernel
theorem dX7_insert_77 : decode cX7_insert 77 = .ok (.ireturn, 1) := by decide +kernel
theorem dX7_insert_78 : decode cX7_insert 78 = .ok (.aload_n 0, 1) := by decide +kernel
theorem dX7_insert_79 : decode cX7_insert 79 = .ok (.getfield 28, 3) := by decide +kernel
theorem dX7_insert_82 : decode cX7_insert 82 = .ok (.aload_n 0, 1) := by decide +kernel
theorem dX7_insert_83 : decode cX7_insert 83 = .ok (.getfield 88, 3) := by decide +kernel
theorem dX7_insert_86 : decode cX7_insert 86 = .ok (.iload_n 2, 1) := by decide +kernel
theorem dX7_insert_87 : decode cX7_insert 87 = .ok (.iastore, 1) := by decide +kernel
theorem dX7_insert_88 : decode cX7_insert 88 = .ok (.aload_n 0, 1) := by decide +kernel
theorem dX7_insert_89 : decode cX7_insert 89 = .ok (.getfield 31, 3) := by decide +kernel
theorem dX7_insert_92 : decode cX7_insert 92 = .ok (.aload_n 0, 1) := by decide +kernel
theorem dX7_insert_93 : decode cX7_insert 93 = .ok (.getfield 88, 3) := by decide +kernel
theorem dX7_insert_96 : decode cX7_insert 96 = .ok (.iload_n 3, 1) := by decide +kernel
theorem dX7_insert_97 : decode cX7_insert 97 = .ok (.iastore, 1) := by decide +kernel
theorem dX7_insert_98 : decode cX7_insert 98 = .ok (.aload_n 0, 1) := by decide +kernel
theorem dX7_insert_99 : decode cX7_insert 99 = .ok (.getfield 34, 3) := by decide +kernel
theorem dX7_insert_102 : decode cX7_insert 102 = .ok (.aload_n 0, 1) := by decide +kernel
theorem dX7_insert_103 : decode cX7_insert 103 = .ok (.getfield 88, 3) := by decide +kernel
theorem dX7_insert_106 : decode cX7_insert 106 = .ok (.iload 4, 2) := by decide +kernel
theorem dX7_insert_108 : decode cX7_insert 108 = .ok (.bastore, 1) := by decide +kernel
theorem dX7_insert_109 : decode cX7_insert 109 = .ok (.aload_n 0, 1) := by decide +kernel
theorem dX7_insert_110 : decode cX7_insert 110 = .ok (.dup, 1) := by decide +kernel
theorem dX7_insert_111 : decode cX7_insert 111 = .ok (.getfield 88, 3) := by decide +kernel
theorem dX7_insert_114 : decode cX7_insert 114 = .ok (.iconst 1, 1) := by decide +kernel
theorem dX7_insert_115 : decode cX7_insert 115 = .ok (.iadd, 1) := by decide +kernel
theorem dX7_insert_116 : decode cX7_insert 116 = .ok (.putfield 88, 3) := by decide +kernel
theorem dX7_insert_119 : decode cX7_insert 119 = .ok (.aload_n 0, 1) := by decide +kernel
theorem dX7_insert_120 : decode cX7_insert 120 = .ok (.getfield 25, 3) := by decide +kernel
theorem dX7_insert_123 : decode cX7_insert 123 = .ok (.aload_n 0, 1) := by decide +kernel
theorem dX7_insert_124 : decode cX7_insert 124 = .ok (.getfield 88, 3) := by decide +kernel
theorem dX7_insert_127 : decode cX7_insert 127 = .ok (.iconst 1, 1) := by decide +kernel
theorem dX7_insert_128 : decode cX7_insert 128 = .ok (.isub, 1) := by decide +kernel
theorem dX7_insert_129 : decode cX7_insert 129 = .ok (.aload_n 0, 1) := by decide +kernel
theorem dX7_insert_130 : decode cX7_insert 130 = .ok (.iload_n 1, 1) := by decide +kernel
theorem dX7_insert_131 : decode cX7_insert 131 = .ok (.iconst 0, 1) := by decide +kernel
theorem dX7_insert_132 : decode cX7_insert 132 = .ok (.aload_n 0, 1) := by decide +kernel
theorem dX7_insert_133 : decode cX7_insert 133 = .ok (.getfield 88, 3) := by decide +kernel
theorem dX7_insert_136 : decode cX7_insert 136 = .ok (.iconst 1, 1) := by decide +kernel
theorem dX7_insert_137 : decode cX7_insert 137 = .ok (.isub, 1) := by decide +kernel
theorem dX7_insert_138 : decode cX7_insert 138 = .ok (.iconst (-1), 1) := by decide +kernel
theorem dX7_insert_139 : decode cX7_insert 139 = .ok (.invokevirtual 112, 3) := by decide +kernel
theorem dX7_insert_142 : decode cX7_insert 142 = .ok (.iastore, 1) := by decide +kernel
theorem dX7_insert_143 : decode cX7_insert 143 = .ok (.aload_n 0, 1) := by decide +kernel
theorem dX7_insert_144 : decode cX7_insert 144 = .ok (.getfield 88, 3) := by decide +kernel
theorem dX7_insert_147 : decode cX7_insert 147 = .ok (.iconst 1, 1) := by decide +kernel
theorem dX7_insert_148 : decode cX7_insert 148 = .ok (.isub, 1) := by decide +kernel
theorem dX7_insert_149 : decode cX7_insert 149 = .ok (.ireturn, 1) := by decide +kernel
theorem dX7_remove_0 : decode cX7_remove 0 = .ok (.iload_n 1, 1) := by decide +kernel
theorem dX7_remove_1 : decode cX7_remove 1 = .ok (.invokestatic 101, 3) := by decide +kernel
theorem dX7_remove_4 : decode cX7_remove 4 = .ok (.ifCond .eq 16, 3) := by decide +kernel
theorem dX7_remove_7 : decode cX7_remove 7 = .ok (.aload_n 0, 1) := by decide +kernel
theorem dX7_remove_8 : decode cX7_remove 8 = .ok (.iload_n 1, 1) := by decide +kernel
theorem dX7_remove_9 : decode cX7_remove 9 = .ok (.iload_n 2, 1) := by decide +kernel
theorem dX7_remove_10 : decode cX7_remove 10 = .ok (.invokevirtual 105, 3) := by decide +kernel
theorem dX7_remove_13 : decode cX7_remove 13 = .ok (.ifCond .eq 7, 3) := by decide +kernel
theorem dX7_remove_16 : decode cX7_remove 16 = .ok (.iconst 1, 1) := by decide +kernel
theorem dX7_remove_17 : decode cX7_remove 17 = .ok (.goto 4, 3) := by decide +kernel
theorem dX7_remove_20 : decode cX7_remove 20 = .ok (.iconst 0, 1) := by decide +kernel
theorem dX7_remove_21 : decode cX7_remove 21 = .ok (.istore_n 3, 1) := by decide +kernel
theorem dX7_remove_22 : decode cX7_remove 22 = .ok (.aload_n 0, 1) := by decide +kernel
theorem dX7_remove_23 : decode cX7_remove 23 = .ok (.iload_n 3, 1) := by decide +kernel
theorem dX7_remove_24 : decode cX7_remove 24 = .ok (.ifCond .ne 7, 3) := by decide +kernel
theorem dX7_remove_27 : decode cX7_remove 27 = .ok (.iconst 1, 1) := by decide +kernel
theorem dX7_remove_28 : decode cX7_remove 28 = .ok (.goto 30, 3) := by decide +kernel
theorem dX7_remove_31 : decode cX7_remove 31 = .ok (.aload_n 0, 1) := by decide +kernel
theorem dX7_remove_32 : decode cX7_remove 32 = .ok (.iload_n 1, 1) := by decide +kernel
theorem dX7_remove_33 : decode cX7_remove 33 = .ok (.iload_n 2, 1) := by decide +kernel
theorem dX7_remove_34 : decode cX7_remove 34 = .ok (.invokevirtual 116, 3) := by decide +kernel
theorem dX7_remove_37 : decode cX7_remove 37 = .ok (.ifCond .ne 7, 3) := by decide +kernel
theorem dX7_remove_40 : decode cX7_remove 40 = .ok (.iconst 2, 1) := by decide +kernel
theorem dX7_remove_41 : decode cX7_remove 41 = .ok (.goto 17, 3) := by decide +kernel
theorem dX7_remove_44 : decode cX7_remove 44 = .ok (.aload_n 0, 1) := by decide +kernel
theorem dX7_remove_45 : decode cX7_remove 45 = .ok (.getfield 94, 3) := by decide +kernel
theorem dX7_remove_48 : decode cX7_remove 48 = .ok (.bipush 90, 2) := by decide +kernel
theorem dX7_remove_50 : decode cX7_remove 50 = .ok (.if_icmp .ne 7, 3) := by decide +kernel
theorem dX7_remove_53 : decode cX7_remove 53 = .ok (.iconst 3, 1) := by decide +kernel
theorem dX7_remove_54 : decode cX7_remove 54 = .ok (.goto 4, 3) := by decide +kernel
theorem dX7_remove_57 : decode cX7_remove 57 = .ok (.iconst 0, 1) := by decide +kernel
theorem dX7_remove_58 : decode cX7_remove 58 = .ok (.invokevirtual 109, 3) := by decide +kernel
theorem dX7_remove_61 : decode cX7_remove 61 = .ok (.ifCond .ne 5, 3) := by decide +kernel
theorem dX7_remove_64 : decode cX7_remove 64 = .ok (.iconst 0, 1) := by decide +kernel
theorem dX7_remove_65 : decode cX7_remove 65 = .ok (.ireturn, 1) := by decide +kernel
theorem dX7_remove_66 : decode cX7_remove 66 = .ok (.aload_n 0, 1) := by decide +kernel
theorem dX7_remove_67 : decode cX7_remove 67 = .ok (.iload_n 1, 1) := by decide +kernel
theorem dX7_remove_68 : decode cX7_remove 68 = .ok (.iconst 1, 1) := by decide +kernel
theorem dX7_remove_69 : decode cX7_remove 69 = .ok (.iload_n 2, 1) := by decide +kernel
theorem dX7_remove_70 : decode cX7_remove 70 = .ok (.iconst (-1), 1) := by decide +kernel
theorem dX7_remove_71 : decode cX7_remove 71 = .ok (.invokevirtual 112, 3) := by decide +kernel
theorem dX7_remove_74 : decode cX7_remove 74 = .ok (.istore 4, 2) := by decide +kernel
theorem dX7_remove_76 : decode cX7_remove 76 = .ok (.aload_n 0, 1) := by decide +kernel
theorem dX7_remove_77 : decode cX7_remove 77 = .ok (.iload_n 1, 1) := by decide +kernel
theorem dX7_remove_78 : decode cX7_remove 78 = .ok (.invokevirtual 119, 3) := by decide +kernel
theorem dX7_remove_81 : decode cX7_remove 81 = .ok (.aload_n 0, 1) := by decide +kernel
theorem dX7_remove_82 : decode cX7_remove 82 = .ok (.getfield 123, 3) := by decide +kernel
theorem dX7_remove_85 : decode cX7_remove 85 = .ok (.ireturn, 1) := by decide +kernel
theorem dX7_note_0 : decode cX7_note 0 = .ok (.iload_n 1, 1) := by decide +kernel
theorem dX7_note_1 : decode cX7_note 1 = .ok (.invokestatic 101, 3) := by decide +kernel
theorem dX7_note_4 : decode cX7_note 4 = .ok (.ifCond .eq 16, 3) := by decide +kernel
theorem dX7_note_7 : decode cX7_note 7 = .ok (.aload_n 0, 1) := by decide +kernel
theorem dX7_note_8 : decode cX7_note 8 = .ok (.iload_n 1, 1) := by decide +kernel
theorem dX7_note_9 : decode cX7_note 9 = .ok (.iload_n 2, 1) := by decide +kernel
theorem dX7_note_10 : decode cX7_note 10 = .ok (.invokevirtual 105, 3) := by decide +kernel
theorem dX7_note_13 : decode cX7_note 13 = .ok (.ifCond .eq 7, 3) := by decide +kernel
theorem dX7_note_16 : decode cX7_note 16 = .ok (.iconst 1, 1) := by decide +kernel
theorem dX7_note_17 : decode cX7_note 17 = .ok (.goto 4, 3) := by decide +kernel
theorem dX7_note_20 : decode cX7_note 20 = .ok (.iconst 0, 1) := by decide +kernel
theorem dX7_note_21 : decode cX7_note 21 = .ok (.istore 4, 2) := by decide +kernel
theorem dX7_note_23 : decode cX7_note 23 = .ok (.iload_n 3, 1) := by decide +kernel
theorem dX7_note_24 : decode cX7_note 24 = .ok (.iconst 1, 1) := by decide +kernel
theorem dX7_note_25 : decode cX7_note 25 = .ok (.iconst 3, 1) := by decide +kernel
theorem dX7_note_26 : decode cX7_note 26 = .ok (.invokestatic 84, 3) := by decide +kernel
theorem dX7_note_29 : decode cX7_note 29 = .ok (.istore 5, 2) := by decide +kernel
theorem dX7_note_31 : decode cX7_note 31 = .ok (.aload_n 0, 1) := by decide +kernel
theorem dX7_note_32 : decode cX7_note 32 = .ok (.iload 4, 2) := by decide +kernel
theorem dX7_note_34 : decode cX7_note 34 = .ok (.ifCond .ne 7, 3) := by decide +kernel
theorem dX7_note_37 : decode cX7_note 37 = .ok (.iconst 1, 1) := by decide +kernel
theorem dX7_note_38 : decode cX7_note 38 = .ok (.goto 39, 3) := by decide +kernel
theorem dX7_note_41 : decode cX7_note 41 = .ok (.iload 5, 2) := by decide +kernel
theorem dX7_note_43 : decode cX7_note 43 = .ok (.ifCond .ne 7, 3) := by decide +kernel
theorem dX7_note_46 : decode cX7_note 46 = .ok (.iconst 2, 1) := by decide +kernel
theorem dX7_note_47 : decode cX7_note 47 = .ok (.goto 30, 3) := by decide +kernel
theorem dX7_note_50 : decode cX7_note 50 = .ok (.aload_n 0, 1) := by decide +kernel
theorem dX7_note_51 : decode cX7_note 51 = .ok (.iload_n 1, 1) := by decide +kernel
theorem dX7_note_52 : decode cX7_note 52 = .ok (.iload_n 2, 1) := by decide +kernel
theorem dX7_note_53 : decode cX7_note 53 = .ok (.invokevirtual 116, 3) := by decide +kernel
theorem dX7_note_56 : decode cX7_note 56 = .ok (.ifCond .ne 7, 3) := by decide +kernel
theorem dX7_note_59 : decode cX7_note 59 = .ok (.iconst 3, 1) := by decide +kernel
theorem dX7_note_60 : decode cX7_note 60 = .ok (.goto 17, 3) := by decide +kernel
theorem dX7_note_63 : decode cX7_note 63 = .ok (.aload_n 0, 1) := by decide +kernel
theorem dX7_note_64 : decode cX7_note 64 = .ok (.getfield 94, 3) := by decide +kernel
theorem dX7_note_67 : decode cX7_note 67 = .ok (.bipush 90, 2) := by decide +kernel
theorem dX7_note_69 : decode cX7_note 69 = .ok (.if_icmp .ne 7, 3) := by decide +kernel
theorem dX7_note_72 : decode cX7_note 72 = .ok (.iconst 4, 1) := by decide +kernel
theorem dX7_note_73 : decode cX7_note 73 = .ok (.goto 4, 3) := by decide +kernel
theorem dX7_note_76 : decode cX7_note 76 = .ok (.iconst 0, 1) := by decide +kernel
theorem dX7_note_77 : decode cX7_note 77 = .ok (.invokevirtual 109, 3) := by decide +kernel
theorem dX7_note_80 : decode cX7_note 80 = .ok (.ifCond .ne 5, 3) := by decide +kernel
theorem dX7_note_83 : decode cX7_note 83 = .ok (.iconst 0, 1) := by decide +kernel
theorem dX7_note_84 : decode cX7_note 84 = .ok (.ireturn, 1) := by decide +kernel
theorem dX7_note_85 : decode cX7_note 85 = .ok (.aload_n 0, 1) := by decide +kernel
theorem dX7_note_86 : decode cX7_note 86 = .ok (.getfield 41, 3) := by decide +kernel
theorem dX7_note_89 : decode cX7_note 89 = .ok (.aload_n 0, 1) := by decide +kernel
theorem dX7_note_90 : decode cX7_note 90 = .ok (.getfield 91, 3) := by decide +kernel
theorem dX7_note_93 : decode cX7_note 93 = .ok (.iload_n 3, 1) := by decide +kernel
theorem dX7_note_94 : decode cX7_note 94 = .ok (.iastore, 1) := by decide +kernel
theorem dX7_note_95 : decode cX7_note 95 = .ok (.aload_n 0, 1) := by decide +kernel
theorem dX7_note_96 : decode cX7_note 96 = .ok (.dup, 1) := by decide +kernel
theorem dX7_note_97 : decode cX7_note 97 = .ok (.getfield 91, 3) := by decide +kernel
theorem dX7_note_100 : decode cX7_note 100 = .ok (.iconst 1, 1) := by decide +kernel
theorem dX7_note_101 : decode cX7_note 101 = .ok (.iadd, 1) := by decide +kernel
theorem dX7_note_102 : decode cX7_note 102 = .ok (.putfield 91, 3) := by decide +kernel
theorem dX7_note_105 : decode cX7_note 105 = .ok (.aload_n 0, 1) := by decide +kernel
theorem dX7_note_106 : decode cX7_note 106 = .ok (.getfield 38, 3) := by decide +kernel
theorem dX7_note_109 : decode cX7_note 109 = .ok (.aload_n 0, 1) := by decide +kernel
theorem dX7_note_110 : decode cX7_note 110 = .ok (.getfield 91, 3) := by decide +kernel
theorem dX7_note_113 : decode cX7_note 113 = .ok (.iconst 1, 1) := by decide +kernel
theorem dX7_note_114 : decode cX7_note 114 = .ok (.isub, 1) := by decide +kernel
theorem dX7_note_115 : decode cX7_note 115 = .ok (.aload_n 0, 1) := by decide +kernel
theorem dX7_note_116 : decode cX7_note 116 = .ok (.iload_n 1, 1) := by decide +kernel
theorem dX7_note_117 : decode cX7_note 117 = .ok (.iconst 2, 1) := by decide +kernel
theorem dX7_note_118 : decode cX7_note 118 = .ok (.iload_n 2, 1) := by decide +kernel
theorem dX7_note_119 : decode cX7_note 119 = .ok (.aload_n 0, 1) := by decide +kernel
theorem dX7_note_120 : decode cX7_note 120 = .ok (.getfield 91, 3) := by decide +kernel
theorem dX7_note_123 : decode cX7_note 123 = .ok (.iconst 1, 1) := by decide +kernel
theorem dX7_note_124 : decode cX7_note 124 = .ok (.isub, 1) := by decide +kernel
theorem dX7_note_125 : decode cX7_note 125 = .ok (.invokevirtual 112, 3) := by decide +kernel
theorem dX7_note_128 : decode cX7_note 128 = .ok (.iastore, 1) := by decide +kernel
theorem dX7_note_129 : decode cX7_note 129 = .ok (.aload_n 0, 1) := by decide +kernel
theorem dX7_note_130 : decode cX7_note 130 = .ok (.getfield 91, 3) := by decide +kernel
theorem dX7_note_133 : decode cX7_note 133 = .ok (.iconst 1, 1) := by decide +kernel
theorem dX7_note_134 : decode cX7_note 134 = .ok (.isub, 1) := by decide +kernel
theorem dX7_note_135 : decode cX7_note 135 = .ok (.ireturn, 1) := by decide +kernel
theorem dX7_move_0 : decode cX7_move 0 = .ok (.iload_n 1, 1) := by decide +kernel
theorem dX7_move_1 : decode cX7_move 1 = .ok (.invokestatic 101, 3) := by decide +kernel
theorem dX7_move_4 : decode cX7_move 4 = .ok (.ifCond .eq 25, 3) := by decide +kernel
theorem dX7_move_7 : decode cX7_move 7 = .ok (.aload_n 0, 1) := by decide +kernel
theorem dX7_move_8 : decode cX7_move 8 = .ok (.iload_n 1, 1) := by decide +kernel
theorem dX7_move_9 : decode cX7_move 9 = .ok (.iload_n 2, 1) := by decide +kernel
theorem dX7_move_10 : decode cX7_move 10 = .ok (.invokevirtual 126, 3) := by decide +kernel
theorem dX7_move_13 : decode cX7_move 13 = .ok (.ifCond .eq 16, 3) := by decide +kernel
theorem dX7_move_16 : decode cX7_move 16 = .ok (.aload_n 0, 1) := by decide +kernel
theorem dX7_move_17 : decode cX7_move 17 = .ok (.iload_n 1, 1) := by decide +kernel
theorem dX7_move_18 : decode cX7_move 18 = .ok (.iload_n 3, 1) := by decide +kernel
theorem dX7_move_19 : decode cX7_move 19 = .ok (.invokevirtual 105, 3) := by decide +kernel
theorem dX7_move_22 : decode cX7_move 22 = .ok (.ifCond .eq 7, 3) := by decide +kernel
theorem dX7_move_25 : decode cX7_move 25 = .ok (.iconst 1, 1) := by decide +kernel
theorem dX7_move_26 : decode cX7_move 26 = .ok (.goto 4, 3) := by decide +kernel
theorem dX7_move_29 : decode cX7_move 29 = .ok (.iconst 0, 1) := by decide +kernel
theorem dX7_move_30 : decode cX7_move 30 = .ok (.istore 4, 2) := by decide +kernel
theorem dX7_move_32 : decode cX7_move 32 = .ok (.aload_n 0, 1) := by decide +kernel
theorem dX7_move_33 : decode cX7_move 33 = .ok (.iload 4, 2) := by decide +kernel
theorem dX7_move_35 : decode cX7_move 35 = .ok (.ifCond .ne 7, 3) := by decide +kernel
theorem dX7_move_38 : decode cX7_move 38 = .ok (.iconst 1, 1) := by decide +kernel
theorem dX7_move_39 : decode cX7_move 39 = .ok (.goto 30, 3) := by decide +kernel
theorem dX7_move_42 : decode cX7_move 42 = .ok (.aload_n 0, 1) := by decide +kernel
theorem dX7_move_43 : decode cX7_move 43 = .ok (.iload_n 1, 1) := by decide +kernel
theorem dX7_move_44 : decode cX7_move 44 = .ok (.iload_n 3, 1) := by decide +kernel
theorem dX7_move_45 : decode cX7_move 45 = .ok (.invokevirtual 116, 3) := by decide +kernel
theorem dX7_move_48 : decode cX7_move 48 = .ok (.ifCond .ne 7, 3) := by decide +kernel
theorem dX7_move_51 : decode cX7_move 51 = .ok (.iconst 2, 1) := by decide +kernel
theorem dX7_move_52 : decode cX7_move 52 = .ok (.goto 17, 3) := by decide +kernel
theorem dX7_move_55 : decode cX7_move 55 = .ok (.aload_n 0, 1) := by decide +kernel
theorem dX7_move_56 : decode cX7_move 56 = .ok (.getfield 94, 3) := by decide +kernel
theorem dX7_move_59 : decode cX7_move 59 = .ok (.bipush 90, 2) := by decide +kernel
theorem dX7_move_61 : decode cX7_move 61 = .ok (.if_icmp .ne 7, 3) := by decide +kernel
theorem dX7_move_64 : decode cX7_move 64 = .ok (.iconst 3, 1) := by decide +kernel
theorem dX7_move_65 : decode cX7_move 65 = .ok (.goto 4, 3) := by decide +kernel
theorem dX7_move_68 : decode cX7_move 68 = .ok (.iconst 0, 1) := by decide +kernel
theorem dX7_move_69 : decode cX7_move 69 = .ok (.invokevirtual 109, 3) := by decide +kernel
theorem dX7_move_72 : decode cX7_move 72 = .ok (.ifCond .eq 13, 3) := by decide +kernel
theorem dX7_move_75 : decode cX7_move 75 = .ok (.aload_n 0, 1) := by decide +kernel
theorem dX7_move_76 : decode cX7_move 76 = .ok (.iload_n 1, 1) := by decide +kernel
theorem dX7_move_77 : decode cX7_move 77 = .ok (.iconst 3, 1) := by decide +kernel
theorem dX7_move_78 : decode cX7_move 78 = .ok (.iload_n 3, 1) := by decide +kernel
theorem dX7_move_79 : decode cX7_move 79 = .ok (.iload_n 2, 1) := by decide +kernel
theorem dX7_move_80 : decode cX7_move 80 = .ok (.invokevirtual 112, 3) := by decide +kernel
theorem dX7_move_83 : decode cX7_move 83 = .ok (.istore 5, 2) := by decide +kernel
theorem dX7_move_85 : decode cX7_move 85 = .ok (.return_, 1) := by decide +kernel
theorem dX7_sync_0 : decode cX7_sync 0 = .ok (.aload_n 0, 1) := by decide +kernel
theorem dX7_sync_1 : decode cX7_sync 1 = .ok (.iload_n 1, 1) := by decide +kernel
theorem dX7_sync_2 : decode cX7_sync 2 = .ok (.invokestatic 101, 3) := by decide +kernel
theorem dX7_sync_5 : decode cX7_sync 5 = .ok (.ifCond .eq 14, 3) := by decide +kernel
theorem dX7_sync_8 : decode cX7_sync 8 = .ok (.iload_n 2, 1) := by decide +kernel
theorem dX7_sync_9 : decode cX7_sync 9 = .ok (.invokestatic 101, 3) := by decide +kernel
theorem dX7_sync_12 : decode cX7_sync 12 = .ok (.ifCond .eq 7, 3) := by decide +kernel
theorem dX7_sync_15 : decode cX7_sync 15 = .ok (.iconst 0, 1) := by decide +kernel
theorem dX7_sync_16 : decode cX7_sync 16 = .ok (.goto 4, 3) := by decide +kernel
theorem dX7_sync_19 : decode cX7_sync 19 = .ok (.iconst 1, 1) := by decide +kernel
theorem dX7_sync_20 : decode cX7_sync 20 = .ok (.invokevirtual 109, 3) := by decide +kernel
theorem dX7_sync_23 : decode cX7_sync 23 = .ok (.ifCond .ne 5, 3) := by decide +kernel
theorem dX7_sync_26 : decode cX7_sync 26 = .ok (.iconst 0, 1) := by decide +kernel
theorem dX7_sync_27 : decode cX7_sync 27 = .ok (.ireturn, 1) := by decide +kernel
theorem dX7_sync_28 : decode cX7_sync 28 = .ok (.aload_n 0, 1) := by decide +kernel
theorem dX7_sync_29 : decode cX7_sync 29 = .ok (.getfield 47, 3) := by decide +kernel
theorem dX7_sync_32 : decode cX7_sync 32 = .ok (.iload_n 2, 1) := by decide +kernel
theorem dX7_sync_33 : decode cX7_sync 33 = .ok (.iaload, 1) := by decide +kernel
theorem dX7_sync_34 : decode cX7_sync 34 = .ok (.istore_n 3, 1) := by decide +kernel
theorem dX7_sync_35 : decode cX7_sync 35 = .ok (.iconst 0, 1) := by decide +kernel
theorem dX7_sync_36 : decode cX7_sync 36 = .ok (.istore 4, 2) := by decide +kernel
theorem dX7_sync_38 : decode cX7_sync 38 = .ok (.iload 4, 2) := by decide +kernel
theorem dX7_sync_40 : decode cX7_sync 40 = .ok (.aload_n 0, 1) := by decide +kernel
theorem dX7_sync_41 : decode cX7_sync 41 = .ok (.getfield 47, 3) := by decide +kernel
theorem dX7_sync_44 : decode cX7_sync 44 = .ok (.iload_n 1, 1) := by decide +kernel
theorem dX7_sync_45 : decode cX7_sync 45 = .ok (.iaload, 1) := by decide +kernel
theorem dX7_sync_46 : decode cX7_sync 46 = .ok (.if_icmp .ge 50, 3) := by decide +kernel
theorem dX7_sync_49 : decode cX7_sync 49 = .ok (.iload_n 1, 1) := by decide +kernel
theorem dX7_sync_50 : decode cX7_sync 50 = .ok (.iload_n 2, 1) := by decide +kernel
theorem dX7_sync_51 : decode cX7_sync 51 = .ok (.if_icmp .eq 45, 3) := by decide +kernel
theorem dX7_sync_54 : decode cX7_sync 54 = .ok (.aload_n 0, 1) := by decide +kernel
theorem dX7_sync_55 : decode cX7_sync 55 = .ok (.getfield 50, 3) := by decide +kernel
theorem dX7_sync_58 : decode cX7_sync 58 = .ok (.bipush 90, 2) := by decide +kernel
theorem dX7_sync_60 : decode cX7_sync 60 = .ok (.iload_n 1, 1) := by decide +kernel
theorem dX7_sync_61 : decode cX7_sync 61 = .ok (.imul, 1) := by decide +kernel
theorem dX7_sync_62 : decode cX7_sync 62 = .ok (.iload 4, 2) := by decide +kernel
theorem dX7_sync_64 : decode cX7_sync 64 = .ok (.iadd, 1) := by decide +kernel
theorem dX7_sync_65 : decode cX7_sync 65 = .ok (.iaload, 1) := by decide +kernel
theorem dX7_sync_66 : decode cX7_sync 66 = .ok (.istore 5, 2) := by decide +kernel
theorem dX7_sync_68 : decode cX7_sync 68 = .ok (.aload_n 0, 1) := by decide +kernel
theorem dX7_sync_69 : decode cX7_sync 69 = .ok (.getfield 53, 3) := by decide +kernel
theorem dX7_sync_72 : decode cX7_sync 72 = .ok (.bipush 90, 2) := by decide +kernel
theorem dX7_sync_74 : decode cX7_sync 74 = .ok (.iload_n 2, 1) := by decide +kernel
theorem dX7_sync_75 : decode cX7_sync 75 = .ok (.imul, 1) := by decide +kernel
theorem dX7_sync_76 : decode cX7_sync 76 = .ok (.iload 5, 2) := by decide +kernel
theorem dX7_sync_78 : decode cX7_sync 78 = .ok (.iadd, 1) := by decide +kernel
theorem dX7_sync_79 : decode cX7_sync 79 = .ok (.baload, 1) := by decide +kernel
theorem dX7_sync_80 : decode cX7_sync 80 = .ok (.ifCond .ne 10, 3) := by decide +kernel
theorem dX7_sync_83 : decode cX7_sync 83 = .ok (.aload_n 0, 1) := by decide +kernel
theorem dX7_sync_84 : decode cX7_sync 84 = .ok (.iload_n 2, 1) := by decide +kernel
theorem dX7_sync_85 : decode cX7_sync 85 = .ok (.iload 5, 2) := by decide +kernel
theorem dX7_sync_87 : decode cX7_sync 87 = .ok (.invokevirtual 97, 3) := by decide +kernel
theorem dX7_sync_90 : decode cX7_sync 90 = .ok (.iinc 4 1, 3) := by decide +kernel
theorem dX7_sync_93 : decode cX7_sync 93 = .ok (.goto (-55), 3) := by decide +kernel
theorem dX7_sync_96 : decode cX7_sync 96 = .ok (.aload_n 0, 1) := by decide +kernel
theorem dX7_sync_97 : decode cX7_sync 97 = .ok (.getfield 44, 3) := by decide +kernel
theorem dX7_sync_100 : decode cX7_sync 100 = .ok (.iload_n 2, 1) := by decide +kernel
theorem dX7_sync_101 : decode cX7_sync 101 = .ok (.aload_n 0, 1) := by decide +kernel
theorem dX7_sync_102 : decode cX7_sync 102 = .ok (.getfield 44, 3) := by decide +kernel
theorem dX7_sync_105 : decode cX7_sync 105 = .ok (.iload_n 1, 1) := by decide +kernel
theorem dX7_sync_106 : decode cX7_sync 106 = .ok (.iaload, 1) := by decide +kernel
theorem dX7_sync_107 : decode cX7_sync 107 = .ok (.aload_n 0, 1) := by decide +kernel
theorem dX7_sync_108 : decode cX7_sync 108 = .ok (.getfield 44, 3) := by decide +kernel
theorem dX7_sync_111 : decode cX7_sync 111 = .ok (.iload_n 2, 1) := by decide +kernel
theorem dX7_sync_112 : decode cX7_sync 112 = .ok (.iaload, 1) := by decide +kernel
theorem dX7_sync_113 : decode cX7_sync 113 = .ok (.if_icmp .le 12, 3) := by decide +kernel
theorem dX7_sync_116 : decode cX7_sync 116 = .ok (.aload_n 0, 1) := by decide +kernel
theorem dX7_sync_117 : decode cX7_sync 117 = .ok (.getfield 44, 3) := by decide +kernel
theorem dX7_sync_120 : decode cX7_sync 120 = .ok (.iload_n 1, 1) := by decide +kernel
theorem dX7_sync_121 : decode cX7_sync 121 = .ok (.iaload, 1) := by decide +kernel
theorem dX7_sync_122 : decode cX7_sync 122 = .ok (.goto 9, 3) := by decide +kernel
theorem dX7_sync_125 : decode cX7_sync 125 = .ok (.aload_n 0, 1) := by decide +kernel
theorem dX7_sync_126 : decode cX7_sync 126 = .ok (.getfield 44, 3) := by decide +kernel
theorem dX7_sync_129 : decode cX7_sync 129 = .ok (.iload_n 2, 1) := by decide +kernel
theorem dX7_sync_130 : decode cX7_sync 130 = .ok (.iaload, 1) := by decide +kernel
theorem dX7_sync_131 : decode cX7_sync 131 = .ok (.iastore, 1) := by decide +kernel
theorem dX7_sync_132 : decode cX7_sync 132 = .ok (.aload_n 0, 1) := by decide +kernel
theorem dX7_sync_133 : decode cX7_sync 133 = .ok (.getfield 47, 3) := by decide +kernel
theorem dX7_sync_136 : decode cX7_sync 136 = .ok (.iload_n 2, 1) := by decide +kernel
theorem dX7_sync_137 : decode cX7_sync 137 = .ok (.iaload, 1) := by decide +kernel
theorem dX7_sync_138 : decode cX7_sync 138 = .ok (.iload_n 3, 1) := by decide +kernel
theorem dX7_sync_139 : decode cX7_sync 139 = .ok (.isub, 1) := by decide +kernel
theorem dX7_sync_140 : decode cX7_sync 140 = .ok (.ireturn, 1) := by decide +kernel
theorem dX7_isGreater_0 : decode cX7_isGreater 0 = .ok (.aload_n 0, 1) := by decide +kernel
theorem dX7_isGreater_1 : decode cX7_isGreater 1 = .ok (.getfield 13, 3) := by decide +kernel
theorem dX7_isGreater_4 : decode cX7_isGreater 4 = .ok (.iload_n 1, 1) := by decide +kernel
theorem dX7_isGreater_5 : decode cX7_isGreater 5 = .ok (.iaload, 1) := by decide +kernel
theorem dX7_isGreater_6 : decode cX7_isGreater 6 = .ok (.aload_n 0, 1) := by decide +kernel
theorem dX7_isGreater_7 : decode cX7_isGreater 7 = .ok (.getfield 13, 3) := by decide +kernel
theorem dX7_isGreater_10 : decode cX7_isGreater 10 = .ok (.iload_n 2, 1) := by decide +kernel
theorem dX7_isGreater_11 : decode cX7_isGreater 11 = .ok (.iaload, 1) := by decide +kernel
theorem dX7_isGreater_12 : decode cX7_isGreater 12 = .ok (.if_icmp .eq 26, 3) := by decide +kernel
theorem dX7_isGreater_15 : decode cX7_isGreater 15 = .ok (.aload_n 0, 1) := by decide +kernel
theorem dX7_isGreater_16 : decode cX7_isGreater 16 = .ok (.getfield 13, 3) := by decide +kernel
theorem dX7_isGreater_19 : decode cX7_isGreater 19 = .ok (.iload_n 1, 1) := by decide +kernel
theorem dX7_isGreater_20 : decode cX7_isGreater 20 = .ok (.iaload, 1) := by decide +kernel
theorem dX7_isGreater_21 : decode cX7_isGreater 21 = .ok (.aload_n 0, 1) := by decide +kernel
theorem dX7_isGreater_22 : decode cX7_isGreater 22 = .ok (.getfield 13, 3) := by decide +kernel
theorem dX7_isGreater_25 : decode cX7_isGreater 25 = .ok (.iload_n 2, 1) := by decide +kernel
theorem dX7_isGreater_26 : decode cX7_isGreater 26 = .ok (.iaload, 1) := by decide +kernel
theorem dX7_isGreater_27 : decode cX7_isGreater 27 = .ok (.if_icmp .le 7, 3) := by decide +kernel
theorem dX7_isGreater_30 : decode cX7_isGreater 30 = .ok (.iconst 1, 1) := by decide +kernel
theorem dX7_isGreater_31 : decode cX7_isGreater 31 = .ok (.goto 27, 3) := by decide +kernel
theorem dX7_isGreater_34 : decode cX7_isGreater 34 = .ok (.iconst 0, 1) := by decide +kernel
theorem dX7_isGreater_35 : decode cX7_isGreater 35 = .ok (.goto 23, 3) := by decide +kernel
theorem dX7_isGreater_38 : decode cX7_isGreater 38 = .ok (.aload_n 0, 1) := by decide +kernel
theorem dX7_isGreater_39 : decode cX7_isGreater 39 = .ok (.getfield 16, 3) := by decide +kernel
theorem dX7_isGreater_42 : decode cX7_isGreater 42 = .ok (.iload_n 1, 1) := by decide +kernel
theorem dX7_isGreater_43 : decode cX7_isGreater 43 = .ok (.iaload, 1) := by decide +kernel
theorem dX7_isGreater_44 : decode cX7_isGreater 44 = .ok (.aload_n 0, 1) := by decide +kernel
theorem dX7_isGreater_45 : decode cX7_isGreater 45 = .ok (.getfield 16, 3) := by decide +kernel
theorem dX7_isGreater_48 : decode cX7_isGreater 48 = .ok (.iload_n 2, 1) := by decide +kernel
theorem dX7_isGreater_49 : decode cX7_isGreater 49 = .ok (.iaload, 1) := by decide +kernel
theorem dX7_isGreater_50 : decode cX7_isGreater 50 = .ok (.if_icmp .le 7, 3) := by decide +kernel
theorem dX7_isGreater_53 : decode cX7_isGreater 53 = .ok (.iconst 1, 1) := by decide +kernel
theorem dX7_isGreater_54 : decode cX7_isGreater 54 = .ok (.goto 4, 3) := by decide +kernel
theorem dX7_isGreater_57 : decode cX7_isGreater 57 = .ok (.iconst 0, 1) := by decide +kernel
theorem dX7_isGreater_58 : decode cX7_isGreater 58 = .ok (.ireturn, 1) := by decide +kernel
theorem dX7_pileUp_0 : decode cX7_pileUp 0 = .ok (.iload_n 3, 1) := by decide +kernel
theorem dX7_pileUp_1 : decode cX7_pileUp 1 = .ok (.istore 4, 2) := by decide +kernel
theorem dX7_pileUp_3 : decode cX7_pileUp 3 = .ok (.iconst 0, 1) := by decide +kernel
theorem dX7_pileUp_4 : decode cX7_pileUp 4 = .ok (.istore 5, 2) := by decide +kernel
theorem dX7_pileUp_6 : decode cX7_pileUp 6 = .ok (.iload 5, 2) := by decide +kernel
theorem dX7_pileUp_8 : decode cX7_pileUp 8 = .ok (.aload_n 0, 1) := by decide +kernel
theorem dX7_pileUp_9 : decode cX7_pileUp 9 = .ok (.getfield 88, 3) := by decide +kernel
theorem dX7_pileUp_12 : decode cX7_pileUp 12 = .ok (.if_icmp .ge 102, 3) := by decide +kernel
theorem dX7_pileUp_15 : decode cX7_pileUp 15 = .ok (.aload_n 0, 1) := by decide +kernel
theorem dX7_pileUp_16 : decode cX7_pileUp 16 = .ok (.iload_n 1, 1) := by decide +kernel
theorem dX7_pileUp_17 : decode cX7_pileUp 17 = .ok (.iload 5, 2) := by decide +kernel
theorem dX7_pileUp_19 : decode cX7_pileUp 19 = .ok (.invokevirtual 105, 3) := by decide +kernel
theorem dX7_pileUp_22 : decode cX7_pileUp 22 = .ok (.ifCond .eq 86, 3) := by decide +kernel
theorem dX7_pileUp_25 : decode cX7_pileUp 25 = .ok (.aload_n 0, 1) := by decide +kernel
theorem dX7_pileUp_26 : decode cX7_pileUp 26 = .ok (.getfield 28, 3) := by decide +kernel
theorem dX7_pileUp_29 : decode cX7_pileUp 29 = .ok (.iload 5, 2) := by decide +kernel
theorem dX7_pileUp_31 : decode cX7_pileUp 31 = .ok (.iaload, 1) := by decide +kernel
theorem dX7_pileUp_32 : decode cX7_pileUp 32 = .ok (.iload_n 2, 1) := by decide +kernel
theorem dX7_pileUp_33 : decode cX7_pileUp 33 = .ok (.if_icmp .ne 75, 3) := by decide +kernel
theorem dX7_pileUp_36 : decode cX7_pileUp 36 = .ok (.iload 4, 2) := by decide +kernel
theorem dX7_pileUp_38 : decode cX7_pileUp 38 = .ok (.istore 6, 2) := by decide +kernel
theorem dX7_pileUp_40 : decode cX7_pileUp 40 = .ok (.iload 6, 2) := by decide +kernel
theorem dX7_pileUp_42 : decode cX7_pileUp 42 = .ok (.iload_n 3, 1) := by decide +kernel
theorem dX7_pileUp_43 : decode cX7_pileUp 43 = .ok (.if_icmp .le 53, 3) := by decide +kernel
theorem dX7_pileUp_46 : decode cX7_pileUp 46 = .ok (.aload_n 0, 1) := by decide +kernel
theorem dX7_pileUp_47 : decode cX7_pileUp 47 = .ok (.aload_n 0, 1) := by decide +kernel
theorem dX7_pileUp_48 : decode cX7_pileUp 48 = .ok (.getfield 25, 3) := by decide +kernel
theorem dX7_pileUp_51 : decode cX7_pileUp 51 = .ok (.aload_n 0, 1) := by decide +kernel
theorem dX7_pileUp_52 : decode cX7_pileUp 52 = .ok (.getfield 68, 3) := by decide +kernel
theorem dX7_pileUp_55 : decode cX7_pileUp 55 = .ok (.iload 6, 2) := by decide +kernel
theorem dX7_pileUp_57 : decode cX7_pileUp 57 = .ok (.iconst 1, 1) := by decide +kernel
theorem dX7_pileUp_58 : decode cX7_pileUp 58 = .ok (.isub, 1) := by decide +kernel
theorem dX7_pileUp_59 : decode cX7_pileUp 59 = .ok (.iaload, 1) := by decide +kernel
theorem dX7_pileUp_60 : decode cX7_pileUp 60 = .ok (.iaload, 1) := by decide +kernel
theorem dX7_pileUp_61 : decode cX7_pileUp 61 = .ok (.aload_n 0, 1) := by decide +kernel
theorem dX7_pileUp_62 : decode cX7_pileUp 62 = .ok (.getfield 25, 3) := by decide +kernel
theorem dX7_pileUp_65 : decode cX7_pileUp 65 = .ok (.iload 5, 2) := by decide +kernel
theorem dX7_pileUp_67 : decode cX7_pileUp 67 = .ok (.iaload, 1) := by decide +kernel
theorem dX7_pileUp_68 : decode cX7_pileUp 68 = .ok (.invokevirtual 129, 3) := by decide +kernel
theorem dX7_pileUp_71 : decode cX7_pileUp 71 = .ok (.ifCond .eq 25, 3) := by decide +kernel
theorem dX7_pileUp_74 : decode cX7_pileUp 74 = .ok (.aload_n 0, 1) := by decide +kernel
theorem dX7_pileUp_75 : decode cX7_pileUp 75 = .ok (.getfield 68, 3) := by decide +kernel
theorem dX7_pileUp_78 : decode cX7_pileUp 78 = .ok (.iload 6, 2) := by decide +kernel
theorem dX7_pileUp_80 : decode cX7_pileUp 80 = .ok (.aload_n 0, 1) := by decide +kernel
theorem dX7_pileUp_81 : decode cX7_pileUp 81 = .ok (.getfield 68, 3) := by decide +kernel
theorem dX7_pileUp_84 : decode cX7_pileUp 84 = .ok (.iload 6, 2) := by decide +kernel
theorem dX7_pileUp_86 : decode cX7_pileUp 86 = .ok (.iconst 1, 1) := by decide +kernel
theorem dX7_pileUp_87 : decode cX7_pileUp 87 = .ok (.isub, 1) := by decide +kernel
theorem dX7_pileUp_88 : decode cX7_pileUp 88 = .ok (.iaload, 1) := by decide +kernel
theorem dX7_pileUp_89 : decode cX7_pileUp 89 = .ok (.iastore, 1) := by decide +kernel
theorem dX7_pileUp_90 : decode cX7_pileUp 90 = .ok (.iinc 6 (-1), 3) := by decide +kernel
theorem dX7_pileUp_93 : decode cX7_pileUp 93 = .ok (.goto (-53), 3) := by decide +kernel
theorem dX7_pileUp_96 : decode cX7_pileUp 96 = .ok (.aload_n 0, 1) := by decide +kernel
theorem dX7_pileUp_97 : decode cX7_pileUp 97 = .ok (.getfield 68, 3) := by decide +kernel
theorem dX7_pileUp_100 : decode cX7_pileUp 100 = .ok (.iload 6, 2) := by decide +kernel
theorem dX7_pileUp_102 : decode cX7_pileUp 102 = .ok (.iload 5, 2) := by decide +kernel
theorem dX7_pileUp_104 : decode cX7_pileUp 104 = .ok (.iastore, 1) := by decide +kernel
theorem dX7_pileUp_105 : decode cX7_pileUp 105 = .ok (.iinc 4 1, 3) := by decide +kernel
theorem dX7_pileUp_108 : decode cX7_pileUp 108 = .ok (.iinc 5 1, 3) := by decide +kernel
theorem dX7_pileUp_111 : decode cX7_pileUp 111 = .ok (.goto (-105), 3) := by decide +kernel
theorem dX7_pileUp_114 : decode cX7_pileUp 114 = .ok (.iload 4, 2) := by decide +kernel
theorem dX7_pileUp_116 : decode cX7_pileUp 116 = .ok (.ireturn, 1) := by decide +kernel
theorem dX7_arrange_0 : decode cX7_arrange 0 = .ok (.aload_n 0, 1) := by decide +kernel
theorem dX7_arrange_1 : decode cX7_arrange 1 = .ok (.iconst 0, 1) := by decide +kernel
theorem dX7_arrange_2 : decode cX7_arrange 2 = .ok (.putfield 132, 3) := by decide +kernel
theorem dX7_arrange_5 : decode cX7_arrange 5 = .ok (.aload_n 0, 1) := by decide +kernel
theorem dX7_arrange_6 : decode cX7_arrange 6 = .ok (.iconst 0, 1) := by decide +kernel
theorem dX7_arrange_7 : decode cX7_arrange 7 = .ok (.putfield 123, 3) := by decide +kernel
theorem dX7_arrange_10 : decode cX7_arrange 10 = .ok (.aload_n 0, 1) := by decide +kernel
theorem dX7_arrange_11 : decode cX7_arrange 11 = .ok (.iload_n 1, 1) := by decide +kernel
theorem dX7_arrange_12 : decode cX7_arrange 12 = .ok (.iconst (-1), 1) := by decide +kernel
theorem dX7_arrange_13 : decode cX7_arrange 13 = .ok (.iconst 0, 1) := by decide +kernel
theorem dX7_arrange_14 : decode cX7_arrange 14 = .ok (.invokevirtual 135, 3) := by decide +kernel
theorem dX7_arrange_17 : decode cX7_arrange 17 = .ok (.istore_n 2, 1) := by decide +kernel
theorem dX7_arrange_18 : decode cX7_arrange 18 = .ok (.iload_n 2, 1) := by decide +kernel
theorem dX7_arrange_19 : decode cX7_arrange 19 = .ok (.ifCond .le 73, 3) := by decide +kernel
theorem dX7_arrange_22 : decode cX7_arrange 22 = .ok (.iinc 2 (-1), 3) := by decide +kernel
theorem dX7_arrange_25 : decode cX7_arrange 25 = .ok (.aload_n 0, 1) := by decide +kernel
theorem dX7_arrange_26 : decode cX7_arrange 26 = .ok (.getfield 68, 3) := by decide +kernel
theorem dX7_arrange_29 : decode cX7_arrange 29 = .ok (.iload_n 2, 1) := by decide +kernel
theorem dX7_arrange_30 : decode cX7_arrange 30 = .ok (.iaload, 1) := by decide +kernel
theorem dX7_arrange_31 : decode cX7_arrange 31 = .ok (.istore_n 3, 1) := by decide +kernel
theorem dX7_arrange_32 : decode cX7_arrange 32 = .ok (.aload_n 0, 1) := by decide +kernel
theorem dX7_arrange_33 : decode cX7_arrange 33 = .ok (.getfield 65, 3) := by decide +kernel
theorem dX7_arrange_36 : decode cX7_arrange 36 = .ok (.aload_n 0, 1) := by decide +kernel
theorem dX7_arrange_37 : decode cX7_arrange 37 = .ok (.getfield 132, 3) := by decide +kernel
theorem dX7_arrange_40 : decode cX7_arrange 40 = .ok (.iload_n 3, 1) := by decide +kernel
theorem dX7_arrange_41 : decode cX7_arrange 41 = .ok (.iastore, 1) := by decide +kernel
theorem dX7_arrange_42 : decode cX7_arrange 42 = .ok (.aload_n 0, 1) := by decide +kernel
theorem dX7_arrange_43 : decode cX7_arrange 43 = .ok (.dup, 1) := by decide +kernel
theorem dX7_arrange_44 : decode cX7_arrange 44 = .ok (.getfield 132, 3) := by decide +kernel
theorem dX7_arrange_47 : decode cX7_arrange 47 = .ok (.iconst 1, 1) := by decide +kernel
theorem dX7_arrange_48 : decode cX7_arrange 48 = .ok (.iadd, 1) := by decide +kernel
theorem dX7_arrange_49 : decode cX7_arrange 49 = .ok (.putfield 132, 3) := by decide +kernel
theorem dX7_arrange_52 : decode cX7_arrange 52 = .ok (.aload_n 0, 1) := by decide +kernel
theorem dX7_arrange_53 : decode cX7_arrange 53 = .ok (.iload_n 1, 1) := by decide +kernel
theorem dX7_arrange_54 : decode cX7_arrange 54 = .ok (.iload_n 3, 1) := by decide +kernel
theorem dX7_arrange_55 : decode cX7_arrange 55 = .ok (.invokevirtual 116, 3) := by decide +kernel
theorem dX7_arrange_58 : decode cX7_arrange 58 = .ok (.ifCond .eq 23, 3) := by decide +kernel
theorem dX7_arrange_61 : decode cX7_arrange 61 = .ok (.aload_n 0, 1) := by decide +kernel
theorem dX7_arrange_62 : decode cX7_arrange 62 = .ok (.getfield 71, 3) := by decide +kernel
theorem dX7_arrange_65 : decode cX7_arrange 65 = .ok (.aload_n 0, 1) := by decide +kernel
theorem dX7_arrange_66 : decode cX7_arrange 66 = .ok (.getfield 123, 3) := by decide +kernel
theorem dX7_arrange_69 : decode cX7_arrange 69 = .ok (.iload_n 3, 1) := by decide +kernel
theorem dX7_arrange_70 : decode cX7_arrange 70 = .ok (.iastore, 1) := by decide +kernel
theorem dX7_arrange_71 : decode cX7_arrange 71 = .ok (.aload_n 0, 1) := by decide +kernel
theorem dX7_arrange_72 : decode cX7_arrange 72 = .ok (.dup, 1) := by decide +kernel
theorem dX7_arrange_73 : decode cX7_arrange 73 = .ok (.getfield 123, 3) := by decide +kernel
theorem dX7_arrange_76 : decode cX7_arrange 76 = .ok (.iconst 1, 1) := by decide +kernel
theorem dX7_arrange_77 : decode cX7_arrange 77 = .ok (.iadd, 1) := by decide +kernel
theorem dX7_arrange_78 : decode cX7_arrange 78 = .ok (.putfield 123, 3) := by decide +kernel
theorem dX7_arrange_81 : decode cX7_arrange 81 = .ok (.aload_n 0, 1) := by decide +kernel
theorem dX7_arrange_82 : decode cX7_arrange 82 = .ok (.iload_n 1, 1) := by decide +kernel
theorem dX7_arrange_83 : decode cX7_arrange 83 = .ok (.iload_n 3, 1) := by decide +kernel
theorem dX7_arrange_84 : decode cX7_arrange 84 = .ok (.iload_n 2, 1) := by decide +kernel
theorem dX7_arrange_85 : decode cX7_arrange 85 = .ok (.invokevirtual 135, 3) := by decide +kernel
theorem dX7_arrange_88 : decode cX7_arrange 88 = .ok (.istore_n 2, 1) := by decide +kernel
theorem dX7_arrange_89 : decode cX7_arrange 89 = .ok (.goto (-71), 3) := by decide +kernel
theorem dX7_arrange_92 : decode cX7_arrange 92 = .ok (.return_, 1) := by decide +kernel
theorem dX7_placeOf_0 : decode cX7_placeOf 0 = .ok (.aload_n 0, 1) := by decide +kernel
theorem dX7_placeOf_1 : decode cX7_placeOf 1 = .ok (.getfield 38, 3) := by decide +kernel
theorem dX7_placeOf_4 : decode cX7_placeOf 4 = .ok (.iload_n 2, 1) := by decide +kernel
theorem dX7_placeOf_5 : decode cX7_placeOf 5 = .ok (.iaload, 1) := by decide +kernel
theorem dX7_placeOf_6 : decode cX7_placeOf 6 = .ok (.istore_n 3, 1) := by decide +kernel
theorem dX7_placeOf_7 : decode cX7_placeOf 7 = .ok (.iconst 0, 1) := by decide +kernel
theorem dX7_placeOf_8 : decode cX7_placeOf 8 = .ok (.istore 4, 2) := by decide +kernel
theorem dX7_placeOf_10 : decode cX7_placeOf 10 = .ok (.iload 4, 2) := by decide +kernel
theorem dX7_placeOf_12 : decode cX7_placeOf 12 = .ok (.aload_n 0, 1) := by decide +kernel
theorem dX7_placeOf_13 : decode cX7_placeOf 13 = .ok (.getfield 94, 3) := by decide +kernel
theorem dX7_placeOf_16 : decode cX7_placeOf 16 = .ok (.if_icmp .ge 85, 3) := by decide +kernel
theorem dX7_placeOf_19 : decode cX7_placeOf 19 = .ok (.aload_n 0, 1) := by decide +kernel
theorem dX7_placeOf_20 : decode cX7_placeOf 20 = .ok (.getfield 53, 3) := by decide +kernel
theorem dX7_placeOf_23 : decode cX7_placeOf 23 = .ok (.bipush 90, 2) := by decide +kernel
theorem dX7_placeOf_25 : decode cX7_placeOf 25 = .ok (.iload_n 1, 1) := by decide +kernel
theorem dX7_placeOf_26 : decode cX7_placeOf 26 = .ok (.imul, 1) := by decide +kernel
theorem dX7_placeOf_27 : decode cX7_placeOf 27 = .ok (.iload 4, 2) := by decide +kernel
theorem dX7_placeOf_29 : decode cX7_placeOf 29 = .ok (.iadd, 1) := by decide +kernel
theorem dX7_placeOf_30 : decode cX7_placeOf 30 = .ok (.baload, 1) := by decide +kernel
theorem dX7_placeOf_31 : decode cX7_placeOf 31 = .ok (.ifCond .eq 29, 3) := by decide +kernel
theorem dX7_placeOf_34 : decode cX7_placeOf 34 = .ok (.aload_n 0, 1) := by decide +kernel
theorem dX7_placeOf_35 : decode cX7_placeOf 35 = .ok (.getfield 7, 3) := by decide +kernel
theorem dX7_placeOf_38 : decode cX7_placeOf 38 = .ok (.iload 4, 2) := by decide +kernel
theorem dX7_placeOf_40 : decode cX7_placeOf 40 = .ok (.iaload, 1) := by decide +kernel
theorem dX7_placeOf_41 : decode cX7_placeOf 41 = .ok (.iconst 3, 1) := by decide +kernel
theorem dX7_placeOf_42 : decode cX7_placeOf 42 = .ok (.if_icmp .ne 18, 3) := by decide +kernel
theorem dX7_placeOf_45 : decode cX7_placeOf 45 = .ok (.aload_n 0, 1) := by decide +kernel
theorem dX7_placeOf_46 : decode cX7_placeOf 46 = .ok (.getfield 22, 3) := by decide +kernel
theorem dX7_placeOf_49 : decode cX7_placeOf 49 = .ok (.iload 4, 2) := by decide +kernel
theorem dX7_placeOf_51 : decode cX7_placeOf 51 = .ok (.iaload, 1) := by decide +kernel
theorem dX7_placeOf_52 : decode cX7_placeOf 52 = .ok (.iload_n 2, 1) := by decide +kernel
theorem dX7_placeOf_53 : decode cX7_placeOf 53 = .ok (.if_icmp .ne 7, 3) := by decide +kernel
theorem dX7_placeOf_56 : decode cX7_placeOf 56 = .ok (.iconst 1, 1) := by decide +kernel
theorem dX7_placeOf_57 : decode cX7_placeOf 57 = .ok (.goto 4, 3) := by decide +kernel
theorem dX7_placeOf_60 : decode cX7_placeOf 60 = .ok (.iconst 0, 1) := by decide +kernel
theorem dX7_placeOf_61 : decode cX7_placeOf 61 = .ok (.istore 5, 2) := by decide +kernel
theorem dX7_placeOf_63 : decode cX7_placeOf 63 = .ok (.iload 5, 2) := by decide +kernel
theorem dX7_placeOf_65 : decode cX7_placeOf 65 = .ok (.ifCond .eq 28, 3) := by decide +kernel
theorem dX7_placeOf_68 : decode cX7_placeOf 68 = .ok (.aload_n 0, 1) := by decide +kernel
theorem dX7_placeOf_69 : decode cX7_placeOf 69 = .ok (.getfield 7, 3) := by decide +kernel
theorem dX7_placeOf_72 : decode cX7_placeOf 72 = .ok (.iload_n 3, 1) := by decide +kernel
theorem dX7_placeOf_73 : decode cX7_placeOf 73 = .ok (.iaload, 1) := by decide +kernel
theorem dX7_placeOf_74 : decode cX7_placeOf 74 = .ok (.iconst 2, 1) := by decide +kernel
theorem dX7_placeOf_75 : decode cX7_placeOf 75 = .ok (.if_icmp .eq 13, 3) := by decide +kernel
theorem dX7_placeOf_78 : decode cX7_placeOf 78 = .ok (.aload_n 0, 1) := by decide +kernel
theorem dX7_placeOf_79 : decode cX7_placeOf 79 = .ok (.iload 4, 2) := by decide +kernel
theorem dX7_placeOf_81 : decode cX7_placeOf 81 = .ok (.iload_n 3, 1) := by decide +kernel
theorem dX7_placeOf_82 : decode cX7_placeOf 82 = .ok (.invokevirtual 129, 3) := by decide +kernel
theorem dX7_placeOf_85 : decode cX7_placeOf 85 = .ok (.ifCond .eq 8, 3) := by decide +kernel
theorem dX7_placeOf_88 : decode cX7_placeOf 88 = .ok (.iload 4, 2) := by decide +kernel
theorem dX7_placeOf_90 : decode cX7_placeOf 90 = .ok (.goto 4, 3) := by decide +kernel
theorem dX7_placeOf_93 : decode cX7_placeOf 93 = .ok (.iload_n 3, 1) := by decide +kernel
theorem dX7_placeOf_94 : decode cX7_placeOf 94 = .ok (.istore_n 3, 1) := by decide +kernel
theorem dX7_placeOf_95 : decode cX7_placeOf 95 = .ok (.iinc 4 1, 3) := by decide +kernel
theorem dX7_placeOf_98 : decode cX7_placeOf 98 = .ok (.goto (-88), 3) := by decide +kernel
theorem dX7_placeOf_101 : decode cX7_placeOf 101 = .ok (.iconst (-1), 1) := by decide +kernel
theorem dX7_placeOf_102 : decode cX7_placeOf 102 = .ok (.istore 4, 2) := by decide +kernel
theorem dX7_placeOf_104 : decode cX7_placeOf 104 = .ok (.iconst 0, 1) := by decide +kernel
theorem dX7_placeOf_105 : decode cX7_placeOf 105 = .ok (.istore 5, 2) := by decide +kernel
theorem dX7_placeOf_107 : decode cX7_placeOf 107 = .ok (.iload 5, 2) := by decide +kernel
theorem dX7_placeOf_109 : decode cX7_placeOf 109 = .ok (.aload_n 0, 1) := by decide +kernel
theorem dX7_placeOf_110 : decode cX7_placeOf 110 = .ok (.getfield 132, 3) := by decide +kernel
theorem dX7_placeOf_113 : decode cX7_placeOf 113 = .ok (.if_icmp .ge 83, 3) := by decide +kernel
theorem dX7_placeOf_116 : decode cX7_placeOf 116 = .ok (.aload_n 0, 1) := by decide +kernel
theorem dX7_placeOf_117 : decode cX7_placeOf 117 = .ok (.iload_n 1, 1) := by decide +kernel
theorem dX7_placeOf_118 : decode cX7_placeOf 118 = .ok (.aload_n 0, 1) := by decide +kernel
theorem dX7_placeOf_119 : decode cX7_placeOf 119 = .ok (.getfield 65, 3) := by decide +kernel
theorem dX7_placeOf_122 : decode cX7_placeOf 122 = .ok (.iload 5, 2) := by decide +kernel
theorem dX7_placeOf_124 : decode cX7_placeOf 124 = .ok (.iaload, 1) := by decide +kernel
theorem dX7_placeOf_125 : decode cX7_placeOf 125 = .ok (.invokevirtual 116, 3) := by decide +kernel
theorem dX7_placeOf_128 : decode cX7_placeOf 128 = .ok (.ifCond .eq 13, 3) := by decide +kernel
theorem dX7_placeOf_131 : decode cX7_placeOf 131 = .ok (.aload_n 0, 1) := by decide +kernel
theorem dX7_placeOf_132 : decode cX7_placeOf 132 = .ok (.getfield 65, 3) := by decide +kernel
theorem dX7_placeOf_135 : decode cX7_placeOf 135 = .ok (.iload 5, 2) := by decide +kernel
theorem dX7_placeOf_137 : decode cX7_placeOf 137 = .ok (.iaload, 1) := by decide +kernel
theorem dX7_placeOf_138 : decode cX7_placeOf 138 = .ok (.goto 5, 3) := by decide +kernel
theorem dX7_placeOf_141 : decode cX7_placeOf 141 = .ok (.iload 4, 2) := by decide +kernel
theorem dX7_placeOf_143 : decode cX7_placeOf 143 = .ok (.istore 4, 2) := by decide +kernel
theorem dX7_placeOf_145 : decode cX7_placeOf 145 = .ok (.aload_n 0, 1) := by decide +kernel
theorem dX7_placeOf_146 : decode cX7_placeOf 146 = .ok (.getfield 65, 3) := by decide +kernel
theorem dX7_placeOf_149 : decode cX7_placeOf 149 = .ok (.iload 5, 2) := by decide +kernel
theorem dX7_placeOf_151 : decode cX7_placeOf 151 = .ok (.iaload, 1) := by decide +kernel
theorem dX7_placeOf_152 : decode cX7_placeOf 152 = .ok (.aload_n 0, 1) := by decide +kernel
theorem dX7_placeOf_153 : decode cX7_placeOf 153 = .ok (.getfield 19, 3) := by decide +kernel
theorem dX7_placeOf_156 : decode cX7_placeOf 156 = .ok (.iload_n 3, 1) := by decide +kernel
theorem dX7_placeOf_157 : decode cX7_placeOf 157 = .ok (.iaload, 1) := by decide +kernel
theorem dX7_placeOf_158 : decode cX7_placeOf 158 = .ok (.if_icmp .ne 32, 3) := by decide +kernel
theorem dX7_placeOf_161 : decode cX7_placeOf 161 = .ok (.iload 4, 2) := by decide +kernel
theorem dX7_placeOf_163 : decode cX7_placeOf 163 = .ok (.iconst (-1), 1) := by decide +kernel
theorem dX7_placeOf_164 : decode cX7_placeOf 164 = .ok (.if_icmp .eq 8, 3) := by decide +kernel
theorem dX7_placeOf_167 : decode cX7_placeOf 167 = .ok (.iload 4, 2) := by decide +kernel
theorem dX7_placeOf_169 : decode cX7_placeOf 169 = .ok (.goto 20, 3) := by decide +kernel
theorem dX7_placeOf_172 : decode cX7_placeOf 172 = .ok (.aload_n 0, 1) := by decide +kernel
theorem dX7_placeOf_173 : decode cX7_placeOf 173 = .ok (.getfield 123, 3) := by decide +kernel
theorem dX7_placeOf_176 : decode cX7_placeOf 176 = .ok (.ifCond .le 12, 3) := by decide +kernel
theorem dX7_placeOf_179 : decode cX7_placeOf 179 = .ok (.aload_n 0, 1) := by decide +kernel
theorem dX7_placeOf_180 : decode cX7_placeOf 180 = .ok (.getfield 71, 3) := by decide +kernel
theorem dX7_placeOf_183 : decode cX7_placeOf 183 = .ok (.iconst 0, 1) := by decide +kernel
theorem dX7_placeOf_184 : decode cX7_placeOf 184 = .ok (.iaload, 1) := by decide +kernel
theorem dX7_placeOf_185 : decode cX7_placeOf 185 = .ok (.goto 4, 3) := by decide +kernel
theorem dX7_placeOf_188 : decode cX7_placeOf 188 = .ok (.iconst (-1), 1) := by decide +kernel
theorem dX7_placeOf_189 : decode cX7_placeOf 189 = .ok (.ireturn, 1) := by decide +kernel
theorem dX7_placeOf_190 : decode cX7_placeOf 190 = .ok (.iinc 5 1, 3) := by decide +kernel
theorem dX7_placeOf_193 : decode cX7_placeOf 193 = .ok (.goto (-86), 3) := by decide +kernel
theorem dX7_placeOf_196 : decode cX7_placeOf 196 = .ok (.iconst (-1), 1) := by decide +kernel
theorem dX7_placeOf_197 : decode cX7_placeOf 197 = .ok (.ireturn, 1) := by decide +kernel
theorem dX7_layRows_0 : decode cX7_layRows 0 = .ok (.iconst 0, 1) := by decide +kernel
theorem dX7_layRows_1 : decode cX7_layRows 1 = .ok (.istore_n 2, 1) := by decide +kernel
theorem dX7_layRows_2 : decode cX7_layRows 2 = .ok (.iload_n 2, 1) := by decide +kernel
theorem dX7_layRows_3 : decode cX7_layRows 3 = .ok (.aload_n 0, 1) := by decide +kernel
theorem dX7_layRows_4 : decode cX7_layRows 4 = .ok (.getfield 123, 3) := by decide +kernel
theorem dX7_layRows_7 : decode cX7_layRows 7 = .ok (.if_icmp .ge 16, 3) := by decide +kernel
theorem dX7_layRows_10 : decode cX7_layRows 10 = .ok (.aload_n 0, 1) := by decide +kernel
theorem dX7_layRows_11 : decode cX7_layRows 11 = .ok (.getfield 74, 3) := by decide +kernel
theorem dX7_layRows_14 : decode cX7_layRows 14 = .ok (.iload_n 2, 1) := by decide +kernel
theorem dX7_layRows_15 : decode cX7_layRows 15 = .ok (.iconst 1, 1) := by decide +kernel
theorem dX7_layRows_16 : decode cX7_layRows 16 = .ok (.iastore, 1) := by decide +kernel
theorem dX7_layRows_17 : decode cX7_layRows 17 = .ok (.iinc 2 1, 3) := by decide +kernel
theorem dX7_layRows_20 : decode cX7_layRows 20 = .ok (.goto (-18), 3) := by decide +kernel
theorem dX7_layRows_23 : decode cX7_layRows 23 = .ok (.iconst 0, 1) := by decide +kernel
theorem dX7_layRows_24 : decode cX7_layRows 24 = .ok (.istore_n 2, 1) := by decide +kernel
theorem dX7_layRows_25 : decode cX7_layRows 25 = .ok (.iload_n 2, 1) := by decide +kernel
theorem dX7_layRows_26 : decode cX7_layRows 26 = .ok (.aload_n 0, 1) := by decide +kernel
theorem dX7_layRows_27 : decode cX7_layRows 27 = .ok (.getfield 91, 3) := by decide +kernel
theorem dX7_layRows_30 : decode cX7_layRows 30 = .ok (.if_icmp .ge 78, 3) := by decide +kernel
theorem dX7_layRows_33 : decode cX7_layRows 33 = .ok (.aload_n 0, 1) := by decide +kernel
theorem dX7_layRows_34 : decode cX7_layRows 34 = .ok (.iload_n 1, 1) := by decide +kernel
theorem dX7_layRows_35 : decode cX7_layRows 35 = .ok (.iload_n 2, 1) := by decide +kernel
theorem dX7_layRows_36 : decode cX7_layRows 36 = .ok (.invokevirtual 126, 3) := by decide +kernel
theorem dX7_layRows_39 : decode cX7_layRows 39 = .ok (.ifCond .eq 12, 3) := by decide +kernel
theorem dX7_layRows_42 : decode cX7_layRows 42 = .ok (.aload_n 0, 1) := by decide +kernel
theorem dX7_layRows_43 : decode cX7_layRows 43 = .ok (.iload_n 1, 1) := by decide +kernel
theorem dX7_layRows_44 : decode cX7_layRows 44 = .ok (.iload_n 2, 1) := by decide +kernel
theorem dX7_layRows_45 : decode cX7_layRows 45 = .ok (.invokevirtual 139, 3) := by decide +kernel
theorem dX7_layRows_48 : decode cX7_layRows 48 = .ok (.goto 4, 3) := by decide +kernel
end
section
theorem dX7_layRows_51 : decode cX7_layRows 51 = .ok (.iconst (-1), 1) := by decide +kernel
theorem dX7_layRows_52 : decode cX7_layRows 52 = .ok (.istore_n 3, 1) := by decide +kernel
theorem dX7_layRows_53 : decode cX7_layRows 53 = .ok (.iconst 0, 1) := by decide +kernel
theorem dX7_layRows_54 : decode cX7_layRows 54 = .ok (.istore 4, 2) := by decide +kernel
theorem dX7_layRows_56 : decode cX7_layRows 56 = .ok (.iload 4, 2) := by decide +kernel
theorem dX7_layRows_58 : decode cX7_layRows 58 = .ok (.aload_n 0, 1) := by decide +kernel
theorem dX7_layRows_59 : decode cX7_layRows 59 = .ok (.getfield 123, 3) := by decide +kernel
theorem dX7_layRows_62 : decode cX7_layRows 62 = .ok (.if_icmp .ge 40, 3) := by decide +kernel
theorem dX7_layRows_65 : decode cX7_layRows 65 = .ok (.aload_n 0, 1) := by decide +kernel
theorem dX7_layRows_66 : decode cX7_layRows 66 = .ok (.getfield 74, 3) := by decide +kernel
theorem dX7_layRows_69 : decode cX7_layRows 69 = .ok (.iload 4, 2) := by decide +kernel
theorem dX7_layRows_71 : decode cX7_layRows 71 = .ok (.dup2, 1) := by decide +kernel
theorem dX7_layRows_72 : decode cX7_layRows 72 = .ok (.iaload, 1) := by decide +kernel
theorem dX7_layRows_73 : decode cX7_layRows 73 = .ok (.aload_n 0, 1) := by decide +kernel
theorem dX7_layRows_74 : decode cX7_layRows 74 = .ok (.getfield 71, 3) := by decide +kernel
theorem dX7_layRows_77 : decode cX7_layRows 77 = .ok (.iload 4, 2) := by decide +kernel
theorem dX7_layRows_79 : decode cX7_layRows 79 = .ok (.iaload, 1) := by decide +kernel
theorem dX7_layRows_80 : decode cX7_layRows 80 = .ok (.iload_n 3, 1) := by decide +kernel
theorem dX7_layRows_81 : decode cX7_layRows 81 = .ok (.if_icmp .ne 12, 3) := by decide +kernel
theorem dX7_layRows_84 : decode cX7_layRows 84 = .ok (.aload_n 0, 1) := by decide +kernel
theorem dX7_layRows_85 : decode cX7_layRows 85 = .ok (.getfield 41, 3) := by decide +kernel
theorem dX7_layRows_88 : decode cX7_layRows 88 = .ok (.iload_n 2, 1) := by decide +kernel
theorem dX7_layRows_89 : decode cX7_layRows 89 = .ok (.iaload, 1) := by decide +kernel
theorem dX7_layRows_90 : decode cX7_layRows 90 = .ok (.goto 4, 3) := by decide +kernel
theorem dX7_layRows_93 : decode cX7_layRows 93 = .ok (.iconst 0, 1) := by decide +kernel
theorem dX7_layRows_94 : decode cX7_layRows 94 = .ok (.iadd, 1) := by decide +kernel
theorem dX7_layRows_95 : decode cX7_layRows 95 = .ok (.iastore, 1) := by decide +kernel
theorem dX7_layRows_96 : decode cX7_layRows 96 = .ok (.iinc 4 1, 3) := by decide +kernel
theorem dX7_layRows_99 : decode cX7_layRows 99 = .ok (.goto (-43), 3) := by decide +kernel
theorem dX7_layRows_102 : decode cX7_layRows 102 = .ok (.iinc 2 1, 3) := by decide +kernel
theorem dX7_layRows_105 : decode cX7_layRows 105 = .ok (.goto (-80), 3) := by decide +kernel
theorem dX7_layRows_108 : decode cX7_layRows 108 = .ok (.iconst 0, 1) := by decide +kernel
theorem dX7_layRows_109 : decode cX7_layRows 109 = .ok (.istore_n 2, 1) := by decide +kernel
theorem dX7_layRows_110 : decode cX7_layRows 110 = .ok (.iload_n 2, 1) := by decide +kernel
theorem dX7_layRows_111 : decode cX7_layRows 111 = .ok (.aload_n 0, 1) := by decide +kernel
theorem dX7_layRows_112 : decode cX7_layRows 112 = .ok (.getfield 123, 3) := by decide +kernel
theorem dX7_layRows_115 : decode cX7_layRows 115 = .ok (.if_icmp .ge 37, 3) := by decide +kernel
theorem dX7_layRows_118 : decode cX7_layRows 118 = .ok (.aload_n 0, 1) := by decide +kernel
theorem dX7_layRows_119 : decode cX7_layRows 119 = .ok (.getfield 74, 3) := by decide +kernel
theorem dX7_layRows_122 : decode cX7_layRows 122 = .ok (.iload_n 2, 1) := by decide +kernel
theorem dX7_layRows_123 : decode cX7_layRows 123 = .ok (.aload_n 0, 1) := by decide +kernel
theorem dX7_layRows_124 : decode cX7_layRows 124 = .ok (.getfield 74, 3) := by decide +kernel
theorem dX7_layRows_127 : decode cX7_layRows 127 = .ok (.iload_n 2, 1) := by decide +kernel
theorem dX7_layRows_128 : decode cX7_layRows 128 = .ok (.iaload, 1) := by decide +kernel
theorem dX7_layRows_129 : decode cX7_layRows 129 = .ok (.bipush 6, 2) := by decide +kernel
theorem dX7_layRows_131 : decode cX7_layRows 131 = .ok (.if_icmp .le 8, 3) := by decide +kernel
theorem dX7_layRows_134 : decode cX7_layRows 134 = .ok (.bipush 6, 2) := by decide +kernel
theorem dX7_layRows_136 : decode cX7_layRows 136 = .ok (.goto 9, 3) := by decide +kernel
theorem dX7_layRows_139 : decode cX7_layRows 139 = .ok (.aload_n 0, 1) := by decide +kernel
theorem dX7_layRows_140 : decode cX7_layRows 140 = .ok (.getfield 74, 3) := by decide +kernel
theorem dX7_layRows_143 : decode cX7_layRows 143 = .ok (.iload_n 2, 1) := by decide +kernel
theorem dX7_layRows_144 : decode cX7_layRows 144 = .ok (.iaload, 1) := by decide +kernel
theorem dX7_layRows_145 : decode cX7_layRows 145 = .ok (.iastore, 1) := by decide +kernel
theorem dX7_layRows_146 : decode cX7_layRows 146 = .ok (.iinc 2 1, 3) := by decide +kernel
theorem dX7_layRows_149 : decode cX7_layRows 149 = .ok (.goto (-39), 3) := by decide +kernel
theorem dX7_layRows_152 : decode cX7_layRows 152 = .ok (.return_, 1) := by decide +kernel
theorem dX7_isBegun_0 : decode cX7_isBegun 0 = .ok (.iload_n 1, 1) := by decide +kernel
theorem dX7_isBegun_1 : decode cX7_isBegun 1 = .ok (.ifCond .eq 17, 3) := by decide +kernel
theorem dX7_isBegun_4 : decode cX7_isBegun 4 = .ok (.aload_n 0, 1) := by decide +kernel
theorem dX7_isBegun_5 : decode cX7_isBegun 5 = .ok (.getfield 34, 3) := by decide +kernel
theorem dX7_isBegun_8 : decode cX7_isBegun 8 = .ok (.aload_n 0, 1) := by decide +kernel
theorem dX7_isBegun_9 : decode cX7_isBegun 9 = .ok (.getfield 71, 3) := by decide +kernel
theorem dX7_isBegun_12 : decode cX7_isBegun 12 = .ok (.iload_n 1, 1) := by decide +kernel
theorem dX7_isBegun_13 : decode cX7_isBegun 13 = .ok (.iaload, 1) := by decide +kernel
theorem dX7_isBegun_14 : decode cX7_isBegun 14 = .ok (.baload, 1) := by decide +kernel
theorem dX7_isBegun_15 : decode cX7_isBegun 15 = .ok (.ifCond .eq 7, 3) := by decide +kernel
theorem dX7_isBegun_18 : decode cX7_isBegun 18 = .ok (.iconst 1, 1) := by decide +kernel
theorem dX7_isBegun_19 : decode cX7_isBegun 19 = .ok (.goto 4, 3) := by decide +kernel
theorem dX7_isBegun_22 : decode cX7_isBegun 22 = .ok (.iconst 0, 1) := by decide +kernel
theorem dX7_isBegun_23 : decode cX7_isBegun 23 = .ok (.ireturn, 1) := by decide +kernel
theorem dX7_isBad_0 : decode cX7_isBad 0 = .ok (.iload_n 1, 1) := by decide +kernel
theorem dX7_isBad_1 : decode cX7_isBad 1 = .ok (.aload_n 0, 1) := by decide +kernel
theorem dX7_isBad_2 : decode cX7_isBad 2 = .ok (.getfield 123, 3) := by decide +kernel
theorem dX7_isBad_5 : decode cX7_isBad 5 = .ok (.iconst 1, 1) := by decide +kernel
theorem dX7_isBad_6 : decode cX7_isBad 6 = .ok (.isub, 1) := by decide +kernel
theorem dX7_isBad_7 : decode cX7_isBad 7 = .ok (.if_icmp .eq 27, 3) := by decide +kernel
theorem dX7_isBad_10 : decode cX7_isBad 10 = .ok (.aload_n 0, 1) := by decide +kernel
theorem dX7_isBad_11 : decode cX7_isBad 11 = .ok (.iload_n 1, 1) := by decide +kernel
theorem dX7_isBad_12 : decode cX7_isBad 12 = .ok (.iconst 1, 1) := by decide +kernel
theorem dX7_isBad_13 : decode cX7_isBad 13 = .ok (.iadd, 1) := by decide +kernel
theorem dX7_isBad_14 : decode cX7_isBad 14 = .ok (.aload_n 0, 1) := by decide +kernel
theorem dX7_isBad_15 : decode cX7_isBad 15 = .ok (.getfield 123, 3) := by decide +kernel
theorem dX7_isBad_18 : decode cX7_isBad 18 = .ok (.if_icmp .ge 9, 3) := by decide +kernel
theorem dX7_isBad_21 : decode cX7_isBad 21 = .ok (.iload_n 1, 1) := by decide +kernel
theorem dX7_isBad_22 : decode cX7_isBad 22 = .ok (.iconst 1, 1) := by decide +kernel
theorem dX7_isBad_23 : decode cX7_isBad 23 = .ok (.iadd, 1) := by decide +kernel
theorem dX7_isBad_24 : decode cX7_isBad 24 = .ok (.goto 4, 3) := by decide +kernel
theorem dX7_isBad_27 : decode cX7_isBad 27 = .ok (.iload_n 1, 1) := by decide +kernel
theorem dX7_isBad_28 : decode cX7_isBad 28 = .ok (.invokevirtual 143, 3) := by decide +kernel
theorem dX7_isBad_31 : decode cX7_isBad 31 = .ok (.ifCond .eq 7, 3) := by decide +kernel
theorem dX7_isBad_34 : decode cX7_isBad 34 = .ok (.iconst 1, 1) := by decide +kernel
theorem dX7_isBad_35 : decode cX7_isBad 35 = .ok (.goto 4, 3) := by decide +kernel
theorem dX7_isBad_38 : decode cX7_isBad 38 = .ok (.iconst 0, 1) := by decide +kernel
theorem dX7_isBad_39 : decode cX7_isBad 39 = .ok (.istore_n 2, 1) := by decide +kernel
theorem dX7_isBad_40 : decode cX7_isBad 40 = .ok (.aload_n 0, 1) := by decide +kernel
theorem dX7_isBad_41 : decode cX7_isBad 41 = .ok (.iload_n 1, 1) := by decide +kernel
theorem dX7_isBad_42 : decode cX7_isBad 42 = .ok (.invokevirtual 143, 3) := by decide +kernel
theorem dX7_isBad_45 : decode cX7_isBad 45 = .ok (.ifCond .ne 21, 3) := by decide +kernel
theorem dX7_isBad_48 : decode cX7_isBad 48 = .ok (.aload_n 0, 1) := by decide +kernel
theorem dX7_isBad_49 : decode cX7_isBad 49 = .ok (.iload_n 1, 1) := by decide +kernel
theorem dX7_isBad_50 : decode cX7_isBad 50 = .ok (.iconst 1, 1) := by decide +kernel
theorem dX7_isBad_51 : decode cX7_isBad 51 = .ok (.isub, 1) := by decide +kernel
theorem dX7_isBad_52 : decode cX7_isBad 52 = .ok (.invokevirtual 143, 3) := by decide +kernel
theorem dX7_isBad_55 : decode cX7_isBad 55 = .ok (.ifCond .ne 7, 3) := by decide +kernel
theorem dX7_isBad_58 : decode cX7_isBad 58 = .ok (.iload_n 2, 1) := by decide +kernel
theorem dX7_isBad_59 : decode cX7_isBad 59 = .ok (.ifCond .eq 7, 3) := by decide +kernel
theorem dX7_isBad_62 : decode cX7_isBad 62 = .ok (.iconst 1, 1) := by decide +kernel
theorem dX7_isBad_63 : decode cX7_isBad 63 = .ok (.goto 4, 3) := by decide +kernel
theorem dX7_isBad_66 : decode cX7_isBad 66 = .ok (.iconst 0, 1) := by decide +kernel
theorem dX7_isBad_67 : decode cX7_isBad 67 = .ok (.ireturn, 1) := by decide +kernel
theorem dX7_endOf_0 : decode cX7_endOf 0 = .ok (.iconst 0, 1) := by decide +kernel
theorem dX7_endOf_1 : decode cX7_endOf 1 = .ok (.istore_n 2, 1) := by decide +kernel
theorem dX7_endOf_2 : decode cX7_endOf 2 = .ok (.iload_n 1, 1) := by decide +kernel
theorem dX7_endOf_3 : decode cX7_endOf 3 = .ok (.istore_n 3, 1) := by decide +kernel
theorem dX7_endOf_4 : decode cX7_endOf 4 = .ok (.iload_n 3, 1) := by decide +kernel
theorem dX7_endOf_5 : decode cX7_endOf 5 = .ok (.aload_n 0, 1) := by decide +kernel
theorem dX7_endOf_6 : decode cX7_endOf 6 = .ok (.getfield 123, 3) := by decide +kernel
theorem dX7_endOf_9 : decode cX7_endOf 9 = .ok (.if_icmp .ge 31, 3) := by decide +kernel
theorem dX7_endOf_12 : decode cX7_endOf 12 = .ok (.iload_n 2, 1) := by decide +kernel
theorem dX7_endOf_13 : decode cX7_endOf 13 = .ok (.aload_n 0, 1) := by decide +kernel
theorem dX7_endOf_14 : decode cX7_endOf 14 = .ok (.getfield 74, 3) := by decide +kernel
theorem dX7_endOf_17 : decode cX7_endOf 17 = .ok (.iload_n 3, 1) := by decide +kernel
theorem dX7_endOf_18 : decode cX7_endOf 18 = .ok (.iaload, 1) := by decide +kernel
theorem dX7_endOf_19 : decode cX7_endOf 19 = .ok (.iadd, 1) := by decide +kernel
theorem dX7_endOf_20 : decode cX7_endOf 20 = .ok (.bipush 6, 2) := by decide +kernel
theorem dX7_endOf_22 : decode cX7_endOf 22 = .ok (.if_icmp .gt 18, 3) := by decide +kernel
theorem dX7_endOf_25 : decode cX7_endOf 25 = .ok (.iload_n 2, 1) := by decide +kernel
theorem dX7_endOf_26 : decode cX7_endOf 26 = .ok (.aload_n 0, 1) := by decide +kernel
theorem dX7_endOf_27 : decode cX7_endOf 27 = .ok (.getfield 74, 3) := by decide +kernel
theorem dX7_endOf_30 : decode cX7_endOf 30 = .ok (.iload_n 3, 1) := by decide +kernel
theorem dX7_endOf_31 : decode cX7_endOf 31 = .ok (.iaload, 1) := by decide +kernel
theorem dX7_endOf_32 : decode cX7_endOf 32 = .ok (.iadd, 1) := by decide +kernel
theorem dX7_endOf_33 : decode cX7_endOf 33 = .ok (.istore_n 2, 1) := by decide +kernel
theorem dX7_endOf_34 : decode cX7_endOf 34 = .ok (.iinc 3 1, 3) := by decide +kernel
theorem dX7_endOf_37 : decode cX7_endOf 37 = .ok (.goto (-33), 3) := by decide +kernel
theorem dX7_endOf_40 : decode cX7_endOf 40 = .ok (.iload_n 3, 1) := by decide +kernel
theorem dX7_endOf_41 : decode cX7_endOf 41 = .ok (.aload_n 0, 1) := by decide +kernel
theorem dX7_endOf_42 : decode cX7_endOf 42 = .ok (.getfield 123, 3) := by decide +kernel
theorem dX7_endOf_45 : decode cX7_endOf 45 = .ok (.if_icmp .ne 5, 3) := by decide +kernel
theorem dX7_endOf_48 : decode cX7_endOf 48 = .ok (.iload_n 3, 1) := by decide +kernel
theorem dX7_endOf_49 : decode cX7_endOf 49 = .ok (.ireturn, 1) := by decide +kernel
theorem dX7_endOf_50 : decode cX7_endOf 50 = .ok (.iload_n 3, 1) := by decide +kernel
theorem dX7_endOf_51 : decode cX7_endOf 51 = .ok (.istore 4, 2) := by decide +kernel
theorem dX7_endOf_53 : decode cX7_endOf 53 = .ok (.iload 4, 2) := by decide +kernel
theorem dX7_endOf_55 : decode cX7_endOf 55 = .ok (.iload_n 1, 1) := by decide +kernel
theorem dX7_endOf_56 : decode cX7_endOf 56 = .ok (.if_icmp .le 18, 3) := by decide +kernel
theorem dX7_endOf_59 : decode cX7_endOf 59 = .ok (.aload_n 0, 1) := by decide +kernel
theorem dX7_endOf_60 : decode cX7_endOf 60 = .ok (.iload 4, 2) := by decide +kernel
theorem dX7_endOf_62 : decode cX7_endOf 62 = .ok (.invokevirtual 146, 3) := by decide +kernel
theorem dX7_endOf_65 : decode cX7_endOf 65 = .ok (.ifCond .eq 9, 3) := by decide +kernel
theorem dX7_endOf_68 : decode cX7_endOf 68 = .ok (.iinc 4 (-1), 3) := by decide +kernel
theorem dX7_endOf_71 : decode cX7_endOf 71 = .ok (.goto (-18), 3) := by decide +kernel
theorem dX7_endOf_74 : decode cX7_endOf 74 = .ok (.iload 4, 2) := by decide +kernel
theorem dX7_endOf_76 : decode cX7_endOf 76 = .ok (.iload_n 1, 1) := by decide +kernel
theorem dX7_endOf_77 : decode cX7_endOf 77 = .ok (.if_icmp .le 8, 3) := by decide +kernel
theorem dX7_endOf_80 : decode cX7_endOf 80 = .ok (.iload 4, 2) := by decide +kernel
theorem dX7_endOf_82 : decode cX7_endOf 82 = .ok (.goto 4, 3) := by decide +kernel
theorem dX7_endOf_85 : decode cX7_endOf 85 = .ok (.iload_n 3, 1) := by decide +kernel
theorem dX7_endOf_86 : decode cX7_endOf 86 = .ok (.ireturn, 1) := by decide +kernel
theorem dX7_lay_0 : decode cX7_lay 0 = .ok (.aload_n 0, 1) := by decide +kernel
theorem dX7_lay_1 : decode cX7_lay 1 = .ok (.iload_n 1, 1) := by decide +kernel
theorem dX7_lay_2 : decode cX7_lay 2 = .ok (.invokevirtual 149, 3) := by decide +kernel
theorem dX7_lay_5 : decode cX7_lay 5 = .ok (.aload_n 0, 1) := by decide +kernel
theorem dX7_lay_6 : decode cX7_lay 6 = .ok (.iload_n 1, 1) := by decide +kernel
theorem dX7_lay_7 : decode cX7_lay 7 = .ok (.invokevirtual 152, 3) := by decide +kernel
theorem dX7_lay_10 : decode cX7_lay 10 = .ok (.aload_n 0, 1) := by decide +kernel
theorem dX7_lay_11 : decode cX7_lay 11 = .ok (.iconst 0, 1) := by decide +kernel
theorem dX7_lay_12 : decode cX7_lay 12 = .ok (.putfield 155, 3) := by decide +kernel
theorem dX7_lay_15 : decode cX7_lay 15 = .ok (.iconst 0, 1) := by decide +kernel
theorem dX7_lay_16 : decode cX7_lay 16 = .ok (.istore_n 2, 1) := by decide +kernel
theorem dX7_lay_17 : decode cX7_lay 17 = .ok (.iload_n 2, 1) := by decide +kernel
theorem dX7_lay_18 : decode cX7_lay 18 = .ok (.aload_n 0, 1) := by decide +kernel
theorem dX7_lay_19 : decode cX7_lay 19 = .ok (.getfield 123, 3) := by decide +kernel
theorem dX7_lay_22 : decode cX7_lay 22 = .ok (.if_icmp .ge 50, 3) := by decide +kernel
theorem dX7_lay_25 : decode cX7_lay 25 = .ok (.aload_n 0, 1) := by decide +kernel
theorem dX7_lay_26 : decode cX7_lay 26 = .ok (.iload_n 2, 1) := by decide +kernel
theorem dX7_lay_27 : decode cX7_lay 27 = .ok (.invokevirtual 158, 3) := by decide +kernel
theorem dX7_lay_30 : decode cX7_lay 30 = .ok (.istore_n 3, 1) := by decide +kernel
theorem dX7_lay_31 : decode cX7_lay 31 = .ok (.iload_n 2, 1) := by decide +kernel
theorem dX7_lay_32 : decode cX7_lay 32 = .ok (.istore 4, 2) := by decide +kernel
theorem dX7_lay_34 : decode cX7_lay 34 = .ok (.iload 4, 2) := by decide +kernel
theorem dX7_lay_36 : decode cX7_lay 36 = .ok (.iload_n 3, 1) := by decide +kernel
theorem dX7_lay_37 : decode cX7_lay 37 = .ok (.if_icmp .ge 20, 3) := by decide +kernel
theorem dX7_lay_40 : decode cX7_lay 40 = .ok (.aload_n 0, 1) := by decide +kernel
theorem dX7_lay_41 : decode cX7_lay 41 = .ok (.getfield 77, 3) := by decide +kernel
theorem dX7_lay_44 : decode cX7_lay 44 = .ok (.iload 4, 2) := by decide +kernel
theorem dX7_lay_46 : decode cX7_lay 46 = .ok (.aload_n 0, 1) := by decide +kernel
theorem dX7_lay_47 : decode cX7_lay 47 = .ok (.getfield 155, 3) := by decide +kernel
theorem dX7_lay_50 : decode cX7_lay 50 = .ok (.iastore, 1) := by decide +kernel
theorem dX7_lay_51 : decode cX7_lay 51 = .ok (.iinc 4 1, 3) := by decide +kernel
theorem dX7_lay_54 : decode cX7_lay 54 = .ok (.goto (-20), 3) := by decide +kernel
theorem dX7_lay_57 : decode cX7_lay 57 = .ok (.aload_n 0, 1) := by decide +kernel
theorem dX7_lay_58 : decode cX7_lay 58 = .ok (.dup, 1) := by decide +kernel
theorem dX7_lay_59 : decode cX7_lay 59 = .ok (.getfield 155, 3) := by decide +kernel
theorem dX7_lay_62 : decode cX7_lay 62 = .ok (.iconst 1, 1) := by decide +kernel
theorem dX7_lay_63 : decode cX7_lay 63 = .ok (.iadd, 1) := by decide +kernel
theorem dX7_lay_64 : decode cX7_lay 64 = .ok (.putfield 155, 3) := by decide +kernel
theorem dX7_lay_67 : decode cX7_lay 67 = .ok (.iload_n 3, 1) := by decide +kernel
theorem dX7_lay_68 : decode cX7_lay 68 = .ok (.istore_n 2, 1) := by decide +kernel
theorem dX7_lay_69 : decode cX7_lay 69 = .ok (.goto (-52), 3) := by decide +kernel
theorem dX7_lay_72 : decode cX7_lay 72 = .ok (.return_, 1) := by decide +kernel
theorem dX7_print_0 : decode cX7_print 0 = .ok (.aload_n 0, 1) := by decide +kernel
theorem dX7_print_1 : decode cX7_print 1 = .ok (.iconst 0, 1) := by decide +kernel
theorem dX7_print_2 : decode cX7_print 2 = .ok (.invokevirtual 119, 3) := by decide +kernel
theorem dX7_print_5 : decode cX7_print 5 = .ok (.aload_n 0, 1) := by decide +kernel
theorem dX7_print_6 : decode cX7_print 6 = .ok (.iconst 2, 1) := by decide +kernel
theorem dX7_print_7 : decode cX7_print 7 = .ok (.aload_n 0, 1) := by decide +kernel
theorem dX7_print_8 : decode cX7_print 8 = .ok (.getfield 162, 3) := by decide +kernel
theorem dX7_print_11 : decode cX7_print 11 = .ok (.imul, 1) := by decide +kernel
theorem dX7_print_12 : decode cX7_print 12 = .ok (.aload_n 0, 1) := by decide +kernel
theorem dX7_print_13 : decode cX7_print 13 = .ok (.getfield 155, 3) := by decide +kernel
theorem dX7_print_16 : decode cX7_print 16 = .ok (.if_icmp .lt 7, 3) := by decide +kernel
theorem dX7_print_19 : decode cX7_print 19 = .ok (.iconst 1, 1) := by decide +kernel
theorem dX7_print_20 : decode cX7_print 20 = .ok (.goto 4, 3) := by decide +kernel
theorem dX7_print_23 : decode cX7_print 23 = .ok (.iconst 0, 1) := by decide +kernel
theorem dX7_print_24 : decode cX7_print 24 = .ok (.invokevirtual 109, 3) := by decide +kernel
theorem dX7_print_27 : decode cX7_print 27 = .ok (.ifCond .ne 5, 3) := by decide +kernel
theorem dX7_print_30 : decode cX7_print 30 = .ok (.iconst 0, 1) := by decide +kernel
theorem dX7_print_31 : decode cX7_print 31 = .ok (.ireturn, 1) := by decide +kernel
theorem dX7_print_32 : decode cX7_print 32 = .ok (.iconst 0, 1) := by decide +kernel
theorem dX7_print_33 : decode cX7_print 33 = .ok (.istore_n 1, 1) := by decide +kernel
theorem dX7_print_34 : decode cX7_print 34 = .ok (.iconst 0, 1) := by decide +kernel
theorem dX7_print_35 : decode cX7_print 35 = .ok (.istore_n 2, 1) := by decide +kernel
theorem dX7_print_36 : decode cX7_print 36 = .ok (.iload_n 2, 1) := by decide +kernel
theorem dX7_print_37 : decode cX7_print 37 = .ok (.aload_n 0, 1) := by decide +kernel
theorem dX7_print_38 : decode cX7_print 38 = .ok (.getfield 123, 3) := by decide +kernel
theorem dX7_print_41 : decode cX7_print 41 = .ok (.if_icmp .ge 83, 3) := by decide +kernel
theorem dX7_print_44 : decode cX7_print 44 = .ok (.aload_n 0, 1) := by decide +kernel
theorem dX7_print_45 : decode cX7_print 45 = .ok (.getfield 77, 3) := by decide +kernel
theorem dX7_print_48 : decode cX7_print 48 = .ok (.iload_n 2, 1) := by decide +kernel
theorem dX7_print_49 : decode cX7_print 49 = .ok (.iaload, 1) := by decide +kernel
theorem dX7_print_50 : decode cX7_print 50 = .ok (.istore_n 3, 1) := by decide +kernel
theorem dX7_print_51 : decode cX7_print 51 = .ok (.iload_n 3, 1) := by decide +kernel
theorem dX7_print_52 : decode cX7_print 52 = .ok (.iconst 2, 1) := by decide +kernel
theorem dX7_print_53 : decode cX7_print 53 = .ok (.idiv, 1) := by decide +kernel
theorem dX7_print_54 : decode cX7_print 54 = .ok (.aload_n 0, 1) := by decide +kernel
theorem dX7_print_55 : decode cX7_print 55 = .ok (.getfield 162, 3) := by decide +kernel
theorem dX7_print_58 : decode cX7_print 58 = .ok (.if_icmp .ne 60, 3) := by decide +kernel
theorem dX7_print_61 : decode cX7_print 61 = .ok (.aload_n 0, 1) := by decide +kernel
theorem dX7_print_62 : decode cX7_print 62 = .ok (.getfield 59, 3) := by decide +kernel
theorem dX7_print_65 : decode cX7_print 65 = .ok (.bipush 6, 2) := by decide +kernel
theorem dX7_print_67 : decode cX7_print 67 = .ok (.iload_n 3, 1) := by decide +kernel
theorem dX7_print_68 : decode cX7_print 68 = .ok (.imul, 1) := by decide +kernel
theorem dX7_print_69 : decode cX7_print 69 = .ok (.aload_n 0, 1) := by decide +kernel
theorem dX7_print_70 : decode cX7_print 70 = .ok (.getfield 56, 3) := by decide +kernel
theorem dX7_print_73 : decode cX7_print 73 = .ok (.iload_n 3, 1) := by decide +kernel
theorem dX7_print_74 : decode cX7_print 74 = .ok (.iaload, 1) := by decide +kernel
theorem dX7_print_75 : decode cX7_print 75 = .ok (.iadd, 1) := by decide +kernel
theorem dX7_print_76 : decode cX7_print 76 = .ok (.aload_n 0, 1) := by decide +kernel
theorem dX7_print_77 : decode cX7_print 77 = .ok (.getfield 71, 3) := by decide +kernel
theorem dX7_print_80 : decode cX7_print 80 = .ok (.iload_n 2, 1) := by decide +kernel
theorem dX7_print_81 : decode cX7_print 81 = .ok (.iaload, 1) := by decide +kernel
theorem dX7_print_82 : decode cX7_print 82 = .ok (.iastore, 1) := by decide +kernel
theorem dX7_print_83 : decode cX7_print 83 = .ok (.aload_n 0, 1) := by decide +kernel
theorem dX7_print_84 : decode cX7_print 84 = .ok (.getfield 62, 3) := by decide +kernel
theorem dX7_print_87 : decode cX7_print 87 = .ok (.bipush 6, 2) := by decide +kernel
theorem dX7_print_89 : decode cX7_print 89 = .ok (.iload_n 3, 1) := by decide +kernel
theorem dX7_print_90 : decode cX7_print 90 = .ok (.imul, 1) := by decide +kernel
theorem dX7_print_91 : decode cX7_print 91 = .ok (.aload_n 0, 1) := by decide +kernel
theorem dX7_print_92 : decode cX7_print 92 = .ok (.getfield 56, 3) := by decide +kernel
theorem dX7_print_95 : decode cX7_print 95 = .ok (.iload_n 3, 1) := by decide +kernel
theorem dX7_print_96 : decode cX7_print 96 = .ok (.iaload, 1) := by decide +kernel
theorem dX7_print_97 : decode cX7_print 97 = .ok (.iadd, 1) := by decide +kernel
theorem dX7_print_98 : decode cX7_print 98 = .ok (.aload_n 0, 1) := by decide +kernel
theorem dX7_print_99 : decode cX7_print 99 = .ok (.getfield 74, 3) := by decide +kernel
theorem dX7_print_102 : decode cX7_print 102 = .ok (.iload_n 2, 1) := by decide +kernel
theorem dX7_print_103 : decode cX7_print 103 = .ok (.iaload, 1) := by decide +kernel
theorem dX7_print_104 : decode cX7_print 104 = .ok (.iastore, 1) := by decide +kernel
theorem dX7_print_105 : decode cX7_print 105 = .ok (.aload_n 0, 1) := by decide +kernel
theorem dX7_print_106 : decode cX7_print 106 = .ok (.getfield 56, 3) := by decide +kernel
theorem dX7_print_109 : decode cX7_print 109 = .ok (.iload_n 3, 1) := by decide +kernel
theorem dX7_print_110 : decode cX7_print 110 = .ok (.dup2, 1) := by decide +kernel
theorem dX7_print_111 : decode cX7_print 111 = .ok (.iaload, 1) := by decide +kernel
theorem dX7_print_112 : decode cX7_print 112 = .ok (.iconst 1, 1) := by decide +kernel
theorem dX7_print_113 : decode cX7_print 113 = .ok (.iadd, 1) := by decide +kernel
theorem dX7_print_114 : decode cX7_print 114 = .ok (.iastore, 1) := by decide +kernel
theorem dX7_print_115 : decode cX7_print 115 = .ok (.iinc 1 1, 3) := by decide +kernel
theorem dX7_print_118 : decode cX7_print 118 = .ok (.iinc 2 1, 3) := by decide +kernel
theorem dX7_print_121 : decode cX7_print 121 = .ok (.goto (-85), 3) := by decide +kernel
theorem dX7_print_124 : decode cX7_print 124 = .ok (.aload_n 0, 1) := by decide +kernel
theorem dX7_print_125 : decode cX7_print 125 = .ok (.dup, 1) := by decide +kernel
theorem dX7_print_126 : decode cX7_print 126 = .ok (.getfield 162, 3) := by decide +kernel
theorem dX7_print_129 : decode cX7_print 129 = .ok (.iconst 1, 1) := by decide +kernel
theorem dX7_print_130 : decode cX7_print 130 = .ok (.iadd, 1) := by decide +kernel
theorem dX7_print_131 : decode cX7_print 131 = .ok (.putfield 162, 3) := by decide +kernel
theorem dX7_print_134 : decode cX7_print 134 = .ok (.iload_n 1, 1) := by decide +kernel
theorem dX7_print_135 : decode cX7_print 135 = .ok (.ireturn, 1) := by decide +kernel
theorem dX7_sheets_0 : decode cX7_sheets 0 = .ok (.aload_n 0, 1) := by decide +kernel
theorem dX7_sheets_1 : decode cX7_sheets 1 = .ok (.iconst 0, 1) := by decide +kernel
theorem dX7_sheets_2 : decode cX7_sheets 2 = .ok (.putfield 80, 3) := by decide +kernel
theorem dX7_sheets_5 : decode cX7_sheets 5 = .ok (.aload_n 0, 1) := by decide +kernel
theorem dX7_sheets_6 : decode cX7_sheets 6 = .ok (.getfield 162, 3) := by decide +kernel
theorem dX7_sheets_9 : decode cX7_sheets 9 = .ok (.ireturn, 1) := by decide +kernel
theorem dX7_unlike_0 : decode cX7_unlike 0 = .ok (.iconst 0, 1) := by decide +kernel
theorem dX7_unlike_1 : decode cX7_unlike 1 = .ok (.istore_n 2, 1) := by decide +kernel
theorem dX7_unlike_2 : decode cX7_unlike 2 = .ok (.iconst 0, 1) := by decide +kernel
theorem dX7_unlike_3 : decode cX7_unlike 3 = .ok (.istore_n 3, 1) := by decide +kernel
theorem dX7_unlike_4 : decode cX7_unlike 4 = .ok (.iconst 0, 1) := by decide +kernel
theorem dX7_unlike_5 : decode cX7_unlike 5 = .ok (.istore 4, 2) := by decide +kernel
theorem dX7_unlike_7 : decode cX7_unlike 7 = .ok (.iload 4, 2) := by decide +kernel
theorem dX7_unlike_9 : decode cX7_unlike 9 = .ok (.aload_n 0, 1) := by decide +kernel
theorem dX7_unlike_10 : decode cX7_unlike 10 = .ok (.getfield 123, 3) := by decide +kernel
theorem dX7_unlike_13 : decode cX7_unlike 13 = .ok (.if_icmp .ge 129, 3) := by decide +kernel
theorem dX7_unlike_16 : decode cX7_unlike 16 = .ok (.aload_n 0, 1) := by decide +kernel
theorem dX7_unlike_17 : decode cX7_unlike 17 = .ok (.getfield 77, 3) := by decide +kernel
theorem dX7_unlike_20 : decode cX7_unlike 20 = .ok (.iload 4, 2) := by decide +kernel
theorem dX7_unlike_22 : decode cX7_unlike 22 = .ok (.iaload, 1) := by decide +kernel
theorem dX7_unlike_23 : decode cX7_unlike 23 = .ok (.iload_n 1, 1) := by decide +kernel
theorem dX7_unlike_24 : decode cX7_unlike 24 = .ok (.if_icmp .ne 7, 3) := by decide +kernel
theorem dX7_unlike_27 : decode cX7_unlike 27 = .ok (.iconst 1, 1) := by decide +kernel
theorem dX7_unlike_28 : decode cX7_unlike 28 = .ok (.goto 4, 3) := by decide +kernel
theorem dX7_unlike_31 : decode cX7_unlike 31 = .ok (.iconst 0, 1) := by decide +kernel
theorem dX7_unlike_32 : decode cX7_unlike 32 = .ok (.istore 5, 2) := by decide +kernel
theorem dX7_unlike_34 : decode cX7_unlike 34 = .ok (.iload_n 3, 1) := by decide +kernel
theorem dX7_unlike_35 : decode cX7_unlike 35 = .ok (.iload 5, 2) := by decide +kernel
theorem dX7_unlike_37 : decode cX7_unlike 37 = .ok (.ifCond .eq 7, 3) := by decide +kernel
theorem dX7_unlike_40 : decode cX7_unlike 40 = .ok (.iconst 1, 1) := by decide +kernel
theorem dX7_unlike_41 : decode cX7_unlike 41 = .ok (.goto 4, 3) := by decide +kernel
theorem dX7_unlike_44 : decode cX7_unlike 44 = .ok (.iconst 0, 1) := by decide +kernel
theorem dX7_unlike_45 : decode cX7_unlike 45 = .ok (.iadd, 1) := by decide +kernel
theorem dX7_unlike_46 : decode cX7_unlike 46 = .ok (.istore_n 3, 1) := by decide +kernel
theorem dX7_unlike_47 : decode cX7_unlike 47 = .ok (.iconst 0, 1) := by decide +kernel
theorem dX7_unlike_48 : decode cX7_unlike 48 = .ok (.istore 6, 2) := by decide +kernel
theorem dX7_unlike_50 : decode cX7_unlike 50 = .ok (.iload 6, 2) := by decide +kernel
theorem dX7_unlike_52 : decode cX7_unlike 52 = .ok (.aload_n 0, 1) := by decide +kernel
theorem dX7_unlike_53 : decode cX7_unlike 53 = .ok (.getfield 56, 3) := by decide +kernel
theorem dX7_unlike_56 : decode cX7_unlike 56 = .ok (.iload_n 1, 1) := by decide +kernel
theorem dX7_unlike_57 : decode cX7_unlike 57 = .ok (.iaload, 1) := by decide +kernel
theorem dX7_unlike_58 : decode cX7_unlike 58 = .ok (.if_icmp .ge 78, 3) := by decide +kernel
theorem dX7_unlike_61 : decode cX7_unlike 61 = .ok (.iload 5, 2) := by decide +kernel
theorem dX7_unlike_63 : decode cX7_unlike 63 = .ok (.ifCond .eq 73, 3) := by decide +kernel
theorem dX7_unlike_66 : decode cX7_unlike 66 = .ok (.aload_n 0, 1) := by decide +kernel
theorem dX7_unlike_67 : decode cX7_unlike 67 = .ok (.getfield 59, 3) := by decide +kernel
theorem dX7_unlike_70 : decode cX7_unlike 70 = .ok (.bipush 6, 2) := by decide +kernel
theorem dX7_unlike_72 : decode cX7_unlike 72 = .ok (.iload_n 1, 1) := by decide +kernel
theorem dX7_unlike_73 : decode cX7_unlike 73 = .ok (.imul, 1) := by decide +kernel
theorem dX7_unlike_74 : decode cX7_unlike 74 = .ok (.iload 6, 2) := by decide +kernel
theorem dX7_unlike_76 : decode cX7_unlike 76 = .ok (.iadd, 1) := by decide +kernel
theorem dX7_unlike_77 : decode cX7_unlike 77 = .ok (.iaload, 1) := by decide +kernel
theorem dX7_unlike_78 : decode cX7_unlike 78 = .ok (.aload_n 0, 1) := by decide +kernel
theorem dX7_unlike_79 : decode cX7_unlike 79 = .ok (.getfield 71, 3) := by decide +kernel
theorem dX7_unlike_82 : decode cX7_unlike 82 = .ok (.iload 4, 2) := by decide +kernel
theorem dX7_unlike_84 : decode cX7_unlike 84 = .ok (.iaload, 1) := by decide +kernel
theorem dX7_unlike_85 : decode cX7_unlike 85 = .ok (.if_icmp .ne 29, 3) := by decide +kernel
theorem dX7_unlike_88 : decode cX7_unlike 88 = .ok (.aload_n 0, 1) := by decide +kernel
theorem dX7_unlike_89 : decode cX7_unlike 89 = .ok (.getfield 62, 3) := by decide +kernel
theorem dX7_unlike_92 : decode cX7_unlike 92 = .ok (.bipush 6, 2) := by decide +kernel
theorem dX7_unlike_94 : decode cX7_unlike 94 = .ok (.iload_n 1, 1) := by decide +kernel
theorem dX7_unlike_95 : decode cX7_unlike 95 = .ok (.imul, 1) := by decide +kernel
theorem dX7_unlike_96 : decode cX7_unlike 96 = .ok (.iload 6, 2) := by decide +kernel
theorem dX7_unlike_98 : decode cX7_unlike 98 = .ok (.iadd, 1) := by decide +kernel
theorem dX7_unlike_99 : decode cX7_unlike 99 = .ok (.iaload, 1) := by decide +kernel
theorem dX7_unlike_100 : decode cX7_unlike 100 = .ok (.aload_n 0, 1) := by decide +kernel
theorem dX7_unlike_101 : decode cX7_unlike 101 = .ok (.getfield 74, 3) := by decide +kernel
theorem dX7_unlike_104 : decode cX7_unlike 104 = .ok (.iload 4, 2) := by decide +kernel
theorem dX7_unlike_106 : decode cX7_unlike 106 = .ok (.iaload, 1) := by decide +kernel
theorem dX7_unlike_107 : decode cX7_unlike 107 = .ok (.if_icmp .ne 7, 3) := by decide +kernel
theorem dX7_unlike_110 : decode cX7_unlike 110 = .ok (.iconst 1, 1) := by decide +kernel
theorem dX7_unlike_111 : decode cX7_unlike 111 = .ok (.goto 4, 3) := by decide +kernel
theorem dX7_unlike_114 : decode cX7_unlike 114 = .ok (.iconst 0, 1) := by decide +kernel
theorem dX7_unlike_115 : decode cX7_unlike 115 = .ok (.istore 7, 2) := by decide +kernel
theorem dX7_unlike_117 : decode cX7_unlike 117 = .ok (.iload_n 2, 1) := by decide +kernel
theorem dX7_unlike_118 : decode cX7_unlike 118 = .ok (.iload 7, 2) := by decide +kernel
theorem dX7_unlike_120 : decode cX7_unlike 120 = .ok (.ifCond .eq 7, 3) := by decide +kernel
theorem dX7_unlike_123 : decode cX7_unlike 123 = .ok (.iconst 1, 1) := by decide +kernel
theorem dX7_unlike_124 : decode cX7_unlike 124 = .ok (.goto 4, 3) := by decide +kernel
theorem dX7_unlike_127 : decode cX7_unlike 127 = .ok (.iconst 0, 1) := by decide +kernel
theorem dX7_unlike_128 : decode cX7_unlike 128 = .ok (.iadd, 1) := by decide +kernel
theorem dX7_unlike_129 : decode cX7_unlike 129 = .ok (.istore_n 2, 1) := by decide +kernel
theorem dX7_unlike_130 : decode cX7_unlike 130 = .ok (.iinc 6 1, 3) := by decide +kernel
theorem dX7_unlike_133 : decode cX7_unlike 133 = .ok (.goto (-83), 3) := by decide +kernel
theorem dX7_unlike_136 : decode cX7_unlike 136 = .ok (.iinc 4 1, 3) := by decide +kernel
theorem dX7_unlike_139 : decode cX7_unlike 139 = .ok (.goto (-132), 3) := by decide +kernel
theorem dX7_unlike_142 : decode cX7_unlike 142 = .ok (.aload_n 0, 1) := by decide +kernel
theorem dX7_unlike_143 : decode cX7_unlike 143 = .ok (.getfield 56, 3) := by decide +kernel
theorem dX7_unlike_146 : decode cX7_unlike 146 = .ok (.iload_n 1, 1) := by decide +kernel
theorem dX7_unlike_147 : decode cX7_unlike 147 = .ok (.iaload, 1) := by decide +kernel
theorem dX7_unlike_148 : decode cX7_unlike 148 = .ok (.iload_n 3, 1) := by decide +kernel
theorem dX7_unlike_149 : decode cX7_unlike 149 = .ok (.iadd, 1) := by decide +kernel
theorem dX7_unlike_150 : decode cX7_unlike 150 = .ok (.iconst 2, 1) := by decide +kernel
theorem dX7_unlike_151 : decode cX7_unlike 151 = .ok (.iload_n 2, 1) := by decide +kernel
theorem dX7_unlike_152 : decode cX7_unlike 152 = .ok (.imul, 1) := by decide +kernel
theorem dX7_unlike_153 : decode cX7_unlike 153 = .ok (.isub, 1) := by decide +kernel
theorem dX7_unlike_154 : decode cX7_unlike 154 = .ok (.ireturn, 1) := by decide +kernel
theorem dX7_differs_0 : decode cX7_differs 0 = .ok (.aload_n 0, 1) := by decide +kernel
theorem dX7_differs_1 : decode cX7_differs 1 = .ok (.iload_n 1, 1) := by decide +kernel
theorem dX7_differs_2 : decode cX7_differs 2 = .ok (.iconst 0, 1) := by decide +kernel
theorem dX7_differs_3 : decode cX7_differs 3 = .ok (.iconst 2, 1) := by decide +kernel
theorem dX7_differs_4 : decode cX7_differs 4 = .ok (.aload_n 0, 1) := by decide +kernel
theorem dX7_differs_5 : decode cX7_differs 5 = .ok (.getfield 162, 3) := by decide +kernel
theorem dX7_differs_8 : decode cX7_differs 8 = .ok (.imul, 1) := by decide +kernel
theorem dX7_differs_9 : decode cX7_differs 9 = .ok (.iconst 1, 1) := by decide +kernel
theorem dX7_differs_10 : decode cX7_differs 10 = .ok (.isub, 1) := by decide +kernel
theorem dX7_differs_11 : decode cX7_differs 11 = .ok (.invokestatic 84, 3) := by decide +kernel
theorem dX7_differs_14 : decode cX7_differs 14 = .ok (.ifCond .eq 7, 3) := by decide +kernel
theorem dX7_differs_17 : decode cX7_differs 17 = .ok (.iconst 0, 1) := by decide +kernel
theorem dX7_differs_18 : decode cX7_differs 18 = .ok (.goto 4, 3) := by decide +kernel
theorem dX7_differs_21 : decode cX7_differs 21 = .ok (.iconst 1, 1) := by decide +kernel
theorem dX7_differs_22 : decode cX7_differs 22 = .ok (.invokevirtual 109, 3) := by decide +kernel
theorem dX7_differs_25 : decode cX7_differs 25 = .ok (.ifCond .ne 5, 3) := by decide +kernel
theorem dX7_differs_28 : decode cX7_differs 28 = .ok (.iconst 0, 1) := by decide +kernel
theorem dX7_differs_29 : decode cX7_differs 29 = .ok (.ireturn, 1) := by decide +kernel
theorem dX7_differs_30 : decode cX7_differs 30 = .ok (.aload_n 0, 1) := by decide +kernel
theorem dX7_differs_31 : decode cX7_differs 31 = .ok (.iconst 0, 1) := by decide +kernel
theorem dX7_differs_32 : decode cX7_differs 32 = .ok (.invokevirtual 119, 3) := by decide +kernel
theorem dX7_differs_35 : decode cX7_differs 35 = .ok (.aload_n 0, 1) := by decide +kernel
theorem dX7_differs_36 : decode cX7_differs 36 = .ok (.iload_n 1, 1) := by decide +kernel
theorem dX7_differs_37 : decode cX7_differs 37 = .ok (.invokevirtual 165, 3) := by decide +kernel
theorem dX7_differs_40 : decode cX7_differs 40 = .ok (.ireturn, 1) := by decide +kernel
theorem dX7_cost_0 : decode cX7_cost 0 = .ok (.aload_n 0, 1) := by decide +kernel
theorem dX7_cost_1 : decode cX7_cost 1 = .ok (.iconst 0, 1) := by decide +kernel
theorem dX7_cost_2 : decode cX7_cost 2 = .ok (.putfield 80, 3) := by decide +kernel
theorem dX7_cost_5 : decode cX7_cost 5 = .ok (.aload_n 0, 1) := by decide +kernel
theorem dX7_cost_6 : decode cX7_cost 6 = .ok (.iconst 0, 1) := by decide +kernel
theorem dX7_cost_7 : decode cX7_cost 7 = .ok (.invokevirtual 119, 3) := by decide +kernel
theorem dX7_cost_10 : decode cX7_cost 10 = .ok (.iconst 0, 1) := by decide +kernel
theorem dX7_cost_11 : decode cX7_cost 11 = .ok (.istore_n 1, 1) := by decide +kernel
theorem dX7_cost_12 : decode cX7_cost 12 = .ok (.iconst 0, 1) := by decide +kernel
theorem dX7_cost_13 : decode cX7_cost 13 = .ok (.istore_n 2, 1) := by decide +kernel
theorem dX7_cost_14 : decode cX7_cost 14 = .ok (.iload_n 2, 1) := by decide +kernel
theorem dX7_cost_15 : decode cX7_cost 15 = .ok (.aload_n 0, 1) := by decide +kernel
theorem dX7_cost_16 : decode cX7_cost 16 = .ok (.getfield 162, 3) := by decide +kernel
theorem dX7_cost_19 : decode cX7_cost 19 = .ok (.if_icmp .ge 72, 3) := by decide +kernel
theorem dX7_cost_22 : decode cX7_cost 22 = .ok (.aload_n 0, 1) := by decide +kernel
theorem dX7_cost_23 : decode cX7_cost 23 = .ok (.iconst 2, 1) := by decide +kernel
theorem dX7_cost_24 : decode cX7_cost 24 = .ok (.iload_n 2, 1) := by decide +kernel
theorem dX7_cost_25 : decode cX7_cost 25 = .ok (.imul, 1) := by decide +kernel
theorem dX7_cost_26 : decode cX7_cost 26 = .ok (.invokevirtual 165, 3) := by decide +kernel
theorem dX7_cost_29 : decode cX7_cost 29 = .ok (.istore_n 3, 1) := by decide +kernel
theorem dX7_cost_30 : decode cX7_cost 30 = .ok (.aload_n 0, 1) := by decide +kernel
theorem dX7_cost_31 : decode cX7_cost 31 = .ok (.iconst 2, 1) := by decide +kernel
theorem dX7_cost_32 : decode cX7_cost 32 = .ok (.iload_n 2, 1) := by decide +kernel
theorem dX7_cost_33 : decode cX7_cost 33 = .ok (.imul, 1) := by decide +kernel
theorem dX7_cost_34 : decode cX7_cost 34 = .ok (.iconst 1, 1) := by decide +kernel
theorem dX7_cost_35 : decode cX7_cost 35 = .ok (.iadd, 1) := by decide +kernel
theorem dX7_cost_36 : decode cX7_cost 36 = .ok (.invokevirtual 165, 3) := by decide +kernel
theorem dX7_cost_39 : decode cX7_cost 39 = .ok (.istore 4, 2) := by decide +kernel
theorem dX7_cost_41 : decode cX7_cost 41 = .ok (.iload_n 3, 1) := by decide +kernel
theorem dX7_cost_42 : decode cX7_cost 42 = .ok (.ifCond .le 9, 3) := by decide +kernel
theorem dX7_cost_45 : decode cX7_cost 45 = .ok (.iconst 1, 1) := by decide +kernel
theorem dX7_cost_46 : decode cX7_cost 46 = .ok (.iload_n 3, 1) := by decide +kernel
theorem dX7_cost_47 : decode cX7_cost 47 = .ok (.iadd, 1) := by decide +kernel
theorem dX7_cost_48 : decode cX7_cost 48 = .ok (.goto 4, 3) := by decide +kernel
theorem dX7_cost_51 : decode cX7_cost 51 = .ok (.iconst 0, 1) := by decide +kernel
theorem dX7_cost_52 : decode cX7_cost 52 = .ok (.iload 4, 2) := by decide +kernel
theorem dX7_cost_54 : decode cX7_cost 54 = .ok (.ifCond .le 10, 3) := by decide +kernel
theorem dX7_cost_57 : decode cX7_cost 57 = .ok (.iconst 1, 1) := by decide +kernel
theorem dX7_cost_58 : decode cX7_cost 58 = .ok (.iload 4, 2) := by decide +kernel
theorem dX7_cost_60 : decode cX7_cost 60 = .ok (.iadd, 1) := by decide +kernel
theorem dX7_cost_61 : decode cX7_cost 61 = .ok (.goto 4, 3) := by decide +kernel
theorem dX7_cost_64 : decode cX7_cost 64 = .ok (.iconst 0, 1) := by decide +kernel
theorem dX7_cost_65 : decode cX7_cost 65 = .ok (.iadd, 1) := by decide +kernel
theorem dX7_cost_66 : decode cX7_cost 66 = .ok (.istore 5, 2) := by decide +kernel
theorem dX7_cost_68 : decode cX7_cost 68 = .ok (.iload_n 1, 1) := by decide +kernel
theorem dX7_cost_69 : decode cX7_cost 69 = .ok (.iload 5, 2) := by decide +kernel
theorem dX7_cost_71 : decode cX7_cost 71 = .ok (.bipush 10, 2) := by decide +kernel
theorem dX7_cost_73 : decode cX7_cost 73 = .ok (.if_icmp .ge 8, 3) := by decide +kernel
theorem dX7_cost_76 : decode cX7_cost 76 = .ok (.iload 5, 2) := by decide +kernel
theorem dX7_cost_78 : decode cX7_cost 78 = .ok (.goto 5, 3) := by decide +kernel
theorem dX7_cost_81 : decode cX7_cost 81 = .ok (.bipush 10, 2) := by decide +kernel
theorem dX7_cost_83 : decode cX7_cost 83 = .ok (.iadd, 1) := by decide +kernel
theorem dX7_cost_84 : decode cX7_cost 84 = .ok (.istore_n 1, 1) := by decide +kernel
theorem dX7_cost_85 : decode cX7_cost 85 = .ok (.iinc 2 1, 3) := by decide +kernel
theorem dX7_cost_88 : decode cX7_cost 88 = .ok (.goto (-74), 3) := by decide +kernel
theorem dX7_cost_91 : decode cX7_cost 91 = .ok (.iload_n 1, 1) := by decide +kernel
theorem dX7_cost_92 : decode cX7_cost 92 = .ok (.ireturn, 1) := by decide +kernel
theorem dX7_lines_0 : decode cX7_lines 0 = .ok (.aload_n 0, 1) := by decide +kernel
theorem dX7_lines_1 : decode cX7_lines 1 = .ok (.iload_n 1, 1) := by decide +kernel
theorem dX7_lines_2 : decode cX7_lines 2 = .ok (.invokestatic 101, 3) := by decide +kernel
theorem dX7_lines_5 : decode cX7_lines 5 = .ok (.ifCond .eq 7, 3) := by decide +kernel
theorem dX7_lines_8 : decode cX7_lines 8 = .ok (.iconst 0, 1) := by decide +kernel
theorem dX7_lines_9 : decode cX7_lines 9 = .ok (.goto 4, 3) := by decide +kernel
theorem dX7_lines_12 : decode cX7_lines 12 = .ok (.iconst 1, 1) := by decide +kernel
theorem dX7_lines_13 : decode cX7_lines 13 = .ok (.invokevirtual 109, 3) := by decide +kernel
theorem dX7_lines_16 : decode cX7_lines 16 = .ok (.ifCond .ne 5, 3) := by decide +kernel
theorem dX7_lines_19 : decode cX7_lines 19 = .ok (.iconst 0, 1) := by decide +kernel
theorem dX7_lines_20 : decode cX7_lines 20 = .ok (.ireturn, 1) := by decide +kernel
theorem dX7_lines_21 : decode cX7_lines 21 = .ok (.aload_n 0, 1) := by decide +kernel
theorem dX7_lines_22 : decode cX7_lines 22 = .ok (.iload_n 1, 1) := by decide +kernel
theorem dX7_lines_23 : decode cX7_lines 23 = .ok (.invokevirtual 149, 3) := by decide +kernel
theorem dX7_lines_26 : decode cX7_lines 26 = .ok (.aload_n 0, 1) := by decide +kernel
theorem dX7_lines_27 : decode cX7_lines 27 = .ok (.getfield 123, 3) := by decide +kernel
theorem dX7_lines_30 : decode cX7_lines 30 = .ok (.ireturn, 1) := by decide +kernel
theorem dX7_lineAt_0 : decode cX7_lineAt 0 = .ok (.iload_n 1, 1) := by decide +kernel
theorem dX7_lineAt_1 : decode cX7_lineAt 1 = .ok (.invokestatic 101, 3) := by decide +kernel
theorem dX7_lineAt_4 : decode cX7_lineAt 4 = .ok (.ifCond .eq 11, 3) := by decide +kernel
theorem dX7_lineAt_7 : decode cX7_lineAt 7 = .ok (.iload_n 2, 1) := by decide +kernel
theorem dX7_lineAt_8 : decode cX7_lineAt 8 = .ok (.ifCond .lt 7, 3) := by decide +kernel
theorem dX7_lineAt_11 : decode cX7_lineAt 11 = .ok (.iconst 1, 1) := by decide +kernel
theorem dX7_lineAt_12 : decode cX7_lineAt 12 = .ok (.goto 4, 3) := by decide +kernel
theorem dX7_lineAt_15 : decode cX7_lineAt 15 = .ok (.iconst 0, 1) := by decide +kernel
theorem dX7_lineAt_16 : decode cX7_lineAt 16 = .ok (.istore 4, 2) := by decide +kernel
theorem dX7_lineAt_18 : decode cX7_lineAt 18 = .ok (.aload_n 0, 1) := by decide +kernel
theorem dX7_lineAt_19 : decode cX7_lineAt 19 = .ok (.iload 4, 2) := by decide +kernel
theorem dX7_lineAt_21 : decode cX7_lineAt 21 = .ok (.ifCond .ne 7, 3) := by decide +kernel
theorem dX7_lineAt_24 : decode cX7_lineAt 24 = .ok (.iconst 1, 1) := by decide +kernel
theorem dX7_lineAt_25 : decode cX7_lineAt 25 = .ok (.goto 17, 3) := by decide +kernel
theorem dX7_lineAt_28 : decode cX7_lineAt 28 = .ok (.iload_n 3, 1) := by decide +kernel
theorem dX7_lineAt_29 : decode cX7_lineAt 29 = .ok (.iconst 0, 1) := by decide +kernel
theorem dX7_lineAt_30 : decode cX7_lineAt 30 = .ok (.iconst 4, 1) := by decide +kernel
theorem dX7_lineAt_31 : decode cX7_lineAt 31 = .ok (.invokestatic 84, 3) := by decide +kernel
theorem dX7_lineAt_34 : decode cX7_lineAt 34 = .ok (.ifCond .eq 7, 3) := by decide +kernel
theorem dX7_lineAt_37 : decode cX7_lineAt 37 = .ok (.iconst 0, 1) := by decide +kernel
theorem dX7_lineAt_38 : decode cX7_lineAt 38 = .ok (.goto 4, 3) := by decide +kernel
theorem dX7_lineAt_41 : decode cX7_lineAt 41 = .ok (.iconst 2, 1) := by decide +kernel
theorem dX7_lineAt_42 : decode cX7_lineAt 42 = .ok (.invokevirtual 109, 3) := by decide +kernel
theorem dX7_lineAt_45 : decode cX7_lineAt 45 = .ok (.ifCond .ne 5, 3) := by decide +kernel
theorem dX7_lineAt_48 : decode cX7_lineAt 48 = .ok (.iconst 0, 1) := by decide +kernel
theorem dX7_lineAt_49 : decode cX7_lineAt 49 = .ok (.ireturn, 1) := by decide +kernel
theorem dX7_lineAt_50 : decode cX7_lineAt 50 = .ok (.aload_n 0, 1) := by decide +kernel
theorem dX7_lineAt_51 : decode cX7_lineAt 51 = .ok (.iload_n 1, 1) := by decide +kernel
theorem dX7_lineAt_52 : decode cX7_lineAt 52 = .ok (.invokevirtual 119, 3) := by decide +kernel
theorem dX7_lineAt_55 : decode cX7_lineAt 55 = .ok (.iload_n 2, 1) := by decide +kernel
theorem dX7_lineAt_56 : decode cX7_lineAt 56 = .ok (.aload_n 0, 1) := by decide +kernel
theorem dX7_lineAt_57 : decode cX7_lineAt 57 = .ok (.getfield 123, 3) := by decide +kernel
theorem dX7_lineAt_60 : decode cX7_lineAt 60 = .ok (.if_icmp .lt 5, 3) := by decide +kernel
theorem dX7_lineAt_63 : decode cX7_lineAt 63 = .ok (.iconst (-1), 1) := by decide +kernel
theorem dX7_lineAt_64 : decode cX7_lineAt 64 = .ok (.ireturn, 1) := by decide +kernel
theorem dX7_lineAt_65 : decode cX7_lineAt 65 = .ok (.iload_n 3, 1) := by decide +kernel
theorem dX7_lineAt_66 : decode cX7_lineAt 66 = .ok (.ifCond .ne 12, 3) := by decide +kernel
theorem dX7_lineAt_69 : decode cX7_lineAt 69 = .ok (.aload_n 0, 1) := by decide +kernel
theorem dX7_lineAt_70 : decode cX7_lineAt 70 = .ok (.getfield 71, 3) := by decide +kernel
theorem dX7_lineAt_73 : decode cX7_lineAt 73 = .ok (.iload_n 2, 1) := by decide +kernel
theorem dX7_lineAt_74 : decode cX7_lineAt 74 = .ok (.iaload, 1) := by decide +kernel
theorem dX7_lineAt_75 : decode cX7_lineAt 75 = .ok (.goto 63, 3) := by decide +kernel
theorem dX7_lineAt_78 : decode cX7_lineAt 78 = .ok (.iload_n 3, 1) := by decide +kernel
theorem dX7_lineAt_79 : decode cX7_lineAt 79 = .ok (.iconst 1, 1) := by decide +kernel
theorem dX7_lineAt_80 : decode cX7_lineAt 80 = .ok (.if_icmp .ne 17, 3) := by decide +kernel
theorem dX7_lineAt_83 : decode cX7_lineAt 83 = .ok (.aload_n 0, 1) := by decide +kernel
theorem dX7_lineAt_84 : decode cX7_lineAt 84 = .ok (.getfield 31, 3) := by decide +kernel
theorem dX7_lineAt_87 : decode cX7_lineAt 87 = .ok (.aload_n 0, 1) := by decide +kernel
theorem dX7_lineAt_88 : decode cX7_lineAt 88 = .ok (.getfield 71, 3) := by decide +kernel
theorem dX7_lineAt_91 : decode cX7_lineAt 91 = .ok (.iload_n 2, 1) := by decide +kernel
theorem dX7_lineAt_92 : decode cX7_lineAt 92 = .ok (.iaload, 1) := by decide +kernel
theorem dX7_lineAt_93 : decode cX7_lineAt 93 = .ok (.iaload, 1) := by decide +kernel
theorem dX7_lineAt_94 : decode cX7_lineAt 94 = .ok (.goto 44, 3) := by decide +kernel
theorem dX7_lineAt_97 : decode cX7_lineAt 97 = .ok (.iload_n 3, 1) := by decide +kernel
theorem dX7_lineAt_98 : decode cX7_lineAt 98 = .ok (.iconst 2, 1) := by decide +kernel
theorem dX7_lineAt_99 : decode cX7_lineAt 99 = .ok (.if_icmp .ne 12, 3) := by decide +kernel
theorem dX7_lineAt_102 : decode cX7_lineAt 102 = .ok (.aload_n 0, 1) := by decide +kernel
theorem dX7_lineAt_103 : decode cX7_lineAt 103 = .ok (.getfield 74, 3) := by decide +kernel
theorem dX7_lineAt_106 : decode cX7_lineAt 106 = .ok (.iload_n 2, 1) := by decide +kernel
theorem dX7_lineAt_107 : decode cX7_lineAt 107 = .ok (.iaload, 1) := by decide +kernel
theorem dX7_lineAt_108 : decode cX7_lineAt 108 = .ok (.goto 30, 3) := by decide +kernel
theorem dX7_lineAt_111 : decode cX7_lineAt 111 = .ok (.iload_n 3, 1) := by decide +kernel
theorem dX7_lineAt_112 : decode cX7_lineAt 112 = .ok (.iconst 3, 1) := by decide +kernel
theorem dX7_lineAt_113 : decode cX7_lineAt 113 = .ok (.if_icmp .ne 19, 3) := by decide +kernel
theorem dX7_lineAt_116 : decode cX7_lineAt 116 = .ok (.aload_n 0, 1) := by decide +kernel
theorem dX7_lineAt_117 : decode cX7_lineAt 117 = .ok (.iload_n 2, 1) := by decide +kernel
theorem dX7_lineAt_118 : decode cX7_lineAt 118 = .ok (.invokevirtual 143, 3) := by decide +kernel
theorem dX7_lineAt_121 : decode cX7_lineAt 121 = .ok (.ifCond .eq 7, 3) := by decide +kernel
theorem dX7_lineAt_124 : decode cX7_lineAt 124 = .ok (.iconst 1, 1) := by decide +kernel
theorem dX7_lineAt_125 : decode cX7_lineAt 125 = .ok (.goto 13, 3) := by decide +kernel
theorem dX7_lineAt_128 : decode cX7_lineAt 128 = .ok (.iconst 0, 1) := by decide +kernel
theorem dX7_lineAt_129 : decode cX7_lineAt 129 = .ok (.goto 9, 3) := by decide +kernel
theorem dX7_lineAt_132 : decode cX7_lineAt 132 = .ok (.aload_n 0, 1) := by decide +kernel
theorem dX7_lineAt_133 : decode cX7_lineAt 133 = .ok (.getfield 77, 3) := by decide +kernel
theorem dX7_lineAt_136 : decode cX7_lineAt 136 = .ok (.iload_n 2, 1) := by decide +kernel
theorem dX7_lineAt_137 : decode cX7_lineAt 137 = .ok (.iaload, 1) := by decide +kernel
theorem dX7_lineAt_138 : decode cX7_lineAt 138 = .ok (.ireturn, 1) := by decide +kernel
theorem dX7_lineAnew_0 : decode cX7_lineAnew 0 = .ok (.aload_n 0, 1) := by decide +kernel
theorem dX7_lineAnew_1 : decode cX7_lineAnew 1 = .ok (.iload_n 1, 1) := by decide +kernel
theorem dX7_lineAnew_2 : decode cX7_lineAnew 2 = .ok (.invokestatic 101, 3) := by decide +kernel
theorem dX7_lineAnew_5 : decode cX7_lineAnew 5 = .ok (.ifCond .eq 11, 3) := by decide +kernel
theorem dX7_lineAnew_8 : decode cX7_lineAnew 8 = .ok (.iload_n 2, 1) := by decide +kernel
theorem dX7_lineAnew_9 : decode cX7_lineAnew 9 = .ok (.ifCond .lt 7, 3) := by decide +kernel
theorem dX7_lineAnew_12 : decode cX7_lineAnew 12 = .ok (.iconst 0, 1) := by decide +kernel
theorem dX7_lineAnew_13 : decode cX7_lineAnew 13 = .ok (.goto 4, 3) := by decide +kernel
theorem dX7_lineAnew_16 : decode cX7_lineAnew 16 = .ok (.iconst 1, 1) := by decide +kernel
theorem dX7_lineAnew_17 : decode cX7_lineAnew 17 = .ok (.invokevirtual 109, 3) := by decide +kernel
theorem dX7_lineAnew_20 : decode cX7_lineAnew 20 = .ok (.ifCond .ne 5, 3) := by decide +kernel
theorem dX7_lineAnew_23 : decode cX7_lineAnew 23 = .ok (.iconst 0, 1) := by decide +kernel
theorem dX7_lineAnew_24 : decode cX7_lineAnew 24 = .ok (.ireturn, 1) := by decide +kernel
theorem dX7_lineAnew_25 : decode cX7_lineAnew 25 = .ok (.aload_n 0, 1) := by decide +kernel
theorem dX7_lineAnew_26 : decode cX7_lineAnew 26 = .ok (.iload_n 1, 1) := by decide +kernel
theorem dX7_lineAnew_27 : decode cX7_lineAnew 27 = .ok (.invokevirtual 149, 3) := by decide +kernel
theorem dX7_lineAnew_30 : decode cX7_lineAnew 30 = .ok (.iload_n 2, 1) := by decide +kernel
theorem dX7_lineAnew_31 : decode cX7_lineAnew 31 = .ok (.aload_n 0, 1) := by decide +kernel
theorem dX7_lineAnew_32 : decode cX7_lineAnew 32 = .ok (.getfield 123, 3) := by decide +kernel
theorem dX7_lineAnew_35 : decode cX7_lineAnew 35 = .ok (.if_icmp .ge 12, 3) := by decide +kernel
theorem dX7_lineAnew_38 : decode cX7_lineAnew 38 = .ok (.aload_n 0, 1) := by decide +kernel
theorem dX7_lineAnew_39 : decode cX7_lineAnew 39 = .ok (.getfield 71, 3) := by decide +kernel
theorem dX7_lineAnew_42 : decode cX7_lineAnew 42 = .ok (.iload_n 2, 1) := by decide +kernel
theorem dX7_lineAnew_43 : decode cX7_lineAnew 43 = .ok (.iaload, 1) := by decide +kernel
theorem dX7_lineAnew_44 : decode cX7_lineAnew 44 = .ok (.goto 4, 3) := by decide +kernel
theorem dX7_lineAnew_47 : decode cX7_lineAnew 47 = .ok (.iconst (-1), 1) := by decide +kernel
theorem dX7_lineAnew_48 : decode cX7_lineAnew 48 = .ok (.ireturn, 1) := by decide +kernel
theorem dX7_noteAt_0 : decode cX7_noteAt 0 = .ok (.aload_n 0, 1) := by decide +kernel
theorem dX7_noteAt_1 : decode cX7_noteAt 1 = .ok (.iload_n 1, 1) := by decide +kernel
theorem dX7_noteAt_2 : decode cX7_noteAt 2 = .ok (.invokestatic 101, 3) := by decide +kernel
theorem dX7_noteAt_5 : decode cX7_noteAt 5 = .ok (.ifCond .eq 16, 3) := by decide +kernel
theorem dX7_noteAt_8 : decode cX7_noteAt 8 = .ok (.aload_n 0, 1) := by decide +kernel
theorem dX7_noteAt_9 : decode cX7_noteAt 9 = .ok (.iload_n 1, 1) := by decide +kernel
theorem dX7_noteAt_10 : decode cX7_noteAt 10 = .ok (.iload_n 2, 1) := by decide +kernel
theorem dX7_noteAt_11 : decode cX7_noteAt 11 = .ok (.invokevirtual 126, 3) := by decide +kernel
theorem dX7_noteAt_14 : decode cX7_noteAt 14 = .ok (.ifCond .eq 7, 3) := by decide +kernel
theorem dX7_noteAt_17 : decode cX7_noteAt 17 = .ok (.iconst 0, 1) := by decide +kernel
theorem dX7_noteAt_18 : decode cX7_noteAt 18 = .ok (.goto 4, 3) := by decide +kernel
theorem dX7_noteAt_21 : decode cX7_noteAt 21 = .ok (.iconst 1, 1) := by decide +kernel
theorem dX7_noteAt_22 : decode cX7_noteAt 22 = .ok (.invokevirtual 109, 3) := by decide +kernel
theorem dX7_noteAt_25 : decode cX7_noteAt 25 = .ok (.ifCond .ne 5, 3) := by decide +kernel
theorem dX7_noteAt_28 : decode cX7_noteAt 28 = .ok (.iconst 0, 1) := by decide +kernel
theorem dX7_noteAt_29 : decode cX7_noteAt 29 = .ok (.ireturn, 1) := by decide +kernel
theorem dX7_noteAt_30 : decode cX7_noteAt 30 = .ok (.aload_n 0, 1) := by decide +kernel
theorem dX7_noteAt_31 : decode cX7_noteAt 31 = .ok (.iload_n 1, 1) := by decide +kernel
theorem dX7_noteAt_32 : decode cX7_noteAt 32 = .ok (.invokevirtual 149, 3) := by decide +kernel
theorem dX7_noteAt_35 : decode cX7_noteAt 35 = .ok (.aload_n 0, 1) := by decide +kernel
theorem dX7_noteAt_36 : decode cX7_noteAt 36 = .ok (.iload_n 1, 1) := by decide +kernel
theorem dX7_noteAt_37 : decode cX7_noteAt 37 = .ok (.iload_n 2, 1) := by decide +kernel
theorem dX7_noteAt_38 : decode cX7_noteAt 38 = .ok (.invokevirtual 139, 3) := by decide +kernel
theorem dX7_noteAt_41 : decode cX7_noteAt 41 = .ok (.ireturn, 1) := by decide +kernel
theorem dX7_pages_0 : decode cX7_pages 0 = .ok (.aload_n 0, 1) := by decide +kernel
theorem dX7_pages_1 : decode cX7_pages 1 = .ok (.iload_n 1, 1) := by decide +kernel
theorem dX7_pages_2 : decode cX7_pages 2 = .ok (.invokestatic 101, 3) := by decide +kernel
theorem dX7_pages_5 : decode cX7_pages 5 = .ok (.ifCond .eq 7, 3) := by decide +kernel
theorem dX7_pages_8 : decode cX7_pages 8 = .ok (.iconst 0, 1) := by decide +kernel
theorem dX7_pages_9 : decode cX7_pages 9 = .ok (.goto 4, 3) := by decide +kernel
theorem dX7_pages_12 : decode cX7_pages 12 = .ok (.iconst 1, 1) := by decide +kernel
theorem dX7_pages_13 : decode cX7_pages 13 = .ok (.invokevirtual 109, 3) := by decide +kernel
theorem dX7_pages_16 : decode cX7_pages 16 = .ok (.ifCond .ne 5, 3) := by decide +kernel
theorem dX7_pages_19 : decode cX7_pages 19 = .ok (.iconst 0, 1) := by decide +kernel
theorem dX7_pages_20 : decode cX7_pages 20 = .ok (.ireturn, 1) := by decide +kernel
theorem dX7_pages_21 : decode cX7_pages 21 = .ok (.aload_n 0, 1) := by decide +kernel
theorem dX7_pages_22 : decode cX7_pages 22 = .ok (.iload_n 1, 1) := by decide +kernel
theorem dX7_pages_23 : decode cX7_pages 23 = .ok (.invokevirtual 119, 3) := by decide +kernel
theorem dX7_pages_26 : decode cX7_pages 26 = .ok (.aload_n 0, 1) := by decide +kernel
theorem dX7_pages_27 : decode cX7_pages 27 = .ok (.getfield 155, 3) := by decide +kernel
theorem dX7_pages_30 : decode cX7_pages 30 = .ok (.ireturn, 1) := by decide +kernel
theorem dX7_aheadAnew_0 : decode cX7_aheadAnew 0 = .ok (.aload_n 0, 1) := by decide +kernel
theorem dX7_aheadAnew_1 : decode cX7_aheadAnew 1 = .ok (.iload_n 1, 1) := by decide +kernel
theorem dX7_aheadAnew_2 : decode cX7_aheadAnew 2 = .ok (.invokestatic 101, 3) := by decide +kernel
theorem dX7_aheadAnew_5 : decode cX7_aheadAnew 5 = .ok (.ifCond .eq 11, 3) := by decide +kernel
theorem dX7_aheadAnew_8 : decode cX7_aheadAnew 8 = .ok (.iload_n 2, 1) := by decide +kernel
theorem dX7_aheadAnew_9 : decode cX7_aheadAnew 9 = .ok (.ifCond .lt 7, 3) := by decide +kernel
theorem dX7_aheadAnew_12 : decode cX7_aheadAnew 12 = .ok (.iconst 0, 1) := by decide +kernel
theorem dX7_aheadAnew_13 : decode cX7_aheadAnew 13 = .ok (.goto 4, 3) := by decide +kernel
theorem dX7_aheadAnew_16 : decode cX7_aheadAnew 16 = .ok (.iconst 1, 1) := by decide +kernel
theorem dX7_aheadAnew_17 : decode cX7_aheadAnew 17 = .ok (.invokevirtual 109, 3) := by decide +kernel
theorem dX7_aheadAnew_20 : decode cX7_aheadAnew 20 = .ok (.ifCond .ne 5, 3) := by decide +kernel
theorem dX7_aheadAnew_23 : decode cX7_aheadAnew 23 = .ok (.iconst 0, 1) := by decide +kernel
theorem dX7_aheadAnew_24 : decode cX7_aheadAnew 24 = .ok (.ireturn, 1) := by decide +kernel
theorem dX7_aheadAnew_25 : decode cX7_aheadAnew 25 = .ok (.aload_n 0, 1) := by decide +kernel
theorem dX7_aheadAnew_26 : decode cX7_aheadAnew 26 = .ok (.iload_n 1, 1) := by decide +kernel
theorem dX7_aheadAnew_27 : decode cX7_aheadAnew 27 = .ok (.invokevirtual 119, 3) := by decide +kernel
theorem dX7_aheadAnew_30 : decode cX7_aheadAnew 30 = .ok (.iconst 0, 1) := by decide +kernel
theorem dX7_aheadAnew_31 : decode cX7_aheadAnew 31 = .ok (.istore_n 3, 1) := by decide +kernel
theorem dX7_aheadAnew_32 : decode cX7_aheadAnew 32 = .ok (.iconst 0, 1) := by decide +kernel
theorem dX7_aheadAnew_33 : decode cX7_aheadAnew 33 = .ok (.istore 4, 2) := by decide +kernel
theorem dX7_aheadAnew_35 : decode cX7_aheadAnew 35 = .ok (.iload 4, 2) := by decide +kernel
theorem dX7_aheadAnew_37 : decode cX7_aheadAnew 37 = .ok (.aload_n 0, 1) := by decide +kernel
theorem dX7_aheadAnew_38 : decode cX7_aheadAnew 38 = .ok (.getfield 123, 3) := by decide +kernel
theorem dX7_aheadAnew_41 : decode cX7_aheadAnew 41 = .ok (.if_icmp .ge 28, 3) := by decide +kernel
theorem dX7_aheadAnew_44 : decode cX7_aheadAnew 44 = .ok (.iload_n 3, 1) := by decide +kernel
theorem dX7_aheadAnew_45 : decode cX7_aheadAnew 45 = .ok (.aload_n 0, 1) := by decide +kernel
theorem dX7_aheadAnew_46 : decode cX7_aheadAnew 46 = .ok (.getfield 77, 3) := by decide +kernel
theorem dX7_aheadAnew_49 : decode cX7_aheadAnew 49 = .ok (.iload 4, 2) := by decide +kernel
theorem dX7_aheadAnew_51 : decode cX7_aheadAnew 51 = .ok (.iaload, 1) := by decide +kernel
theorem dX7_aheadAnew_52 : decode cX7_aheadAnew 52 = .ok (.iload_n 2, 1) := by decide +kernel
theorem dX7_aheadAnew_53 : decode cX7_aheadAnew 53 = .ok (.if_icmp .ge 7, 3) := by decide +kernel
theorem dX7_aheadAnew_56 : decode cX7_aheadAnew 56 = .ok (.iconst 1, 1) := by decide +kernel
theorem dX7_aheadAnew_57 : decode cX7_aheadAnew 57 = .ok (.goto 4, 3) := by decide +kernel
theorem dX7_aheadAnew_60 : decode cX7_aheadAnew 60 = .ok (.iconst 0, 1) := by decide +kernel
theorem dX7_aheadAnew_61 : decode cX7_aheadAnew 61 = .ok (.iadd, 1) := by decide +kernel
theorem dX7_aheadAnew_62 : decode cX7_aheadAnew 62 = .ok (.istore_n 3, 1) := by decide +kernel
theorem dX7_aheadAnew_63 : decode cX7_aheadAnew 63 = .ok (.iinc 4 1, 3) := by decide +kernel
theorem dX7_aheadAnew_66 : decode cX7_aheadAnew 66 = .ok (.goto (-31), 3) := by decide +kernel
theorem dX7_aheadAnew_69 : decode cX7_aheadAnew 69 = .ok (.iload_n 3, 1) := by decide +kernel
theorem dX7_aheadAnew_70 : decode cX7_aheadAnew 70 = .ok (.ireturn, 1) := by decide +kernel
theorem dX7_known_0 : decode cX7_known 0 = .ok (.aload_n 0, 1) := by decide +kernel
theorem dX7_known_1 : decode cX7_known 1 = .ok (.iload_n 1, 1) := by decide +kernel
theorem dX7_known_2 : decode cX7_known 2 = .ok (.invokestatic 101, 3) := by decide +kernel
theorem dX7_known_5 : decode cX7_known 5 = .ok (.ifCond .eq 7, 3) := by decide +kernel
theorem dX7_known_8 : decode cX7_known 8 = .ok (.iconst 0, 1) := by decide +kernel
theorem dX7_known_9 : decode cX7_known 9 = .ok (.goto 4, 3) := by decide +kernel
theorem dX7_known_12 : decode cX7_known 12 = .ok (.iconst 1, 1) := by decide +kernel
theorem dX7_known_13 : decode cX7_known 13 = .ok (.invokevirtual 109, 3) := by decide +kernel
theorem dX7_known_16 : decode cX7_known 16 = .ok (.ifCond .eq 12, 3) := by decide +kernel
theorem dX7_known_19 : decode cX7_known 19 = .ok (.aload_n 0, 1) := by decide +kernel
theorem dX7_known_20 : decode cX7_known 20 = .ok (.getfield 47, 3) := by decide +kernel
theorem dX7_known_23 : decode cX7_known 23 = .ok (.iload_n 1, 1) := by decide +kernel
theorem dX7_known_24 : decode cX7_known 24 = .ok (.iaload, 1) := by decide +kernel
theorem dX7_known_25 : decode cX7_known 25 = .ok (.goto 4, 3) := by decide +kernel
theorem dX7_known_28 : decode cX7_known 28 = .ok (.iconst 0, 1) := by decide +kernel
theorem dX7_known_29 : decode cX7_known 29 = .ok (.ireturn, 1) := by decide +kernel
theorem dL_insert_0 : decode cL_insert 0 = .ok (.aload 5, 2) := by decide +kernel
theorem dL_insert_2 : decode cL_insert 2 = .ok (.iconst 0, 1) := by decide +kernel
theorem dL_insert_3 : decode cL_insert 3 = .ok (.aload_n 0, 1) := by decide +kernel
theorem dL_insert_4 : decode cL_insert 4 = .ok (.iload_n 1, 1) := by decide +kernel
theorem dL_insert_5 : decode cL_insert 5 = .ok (.iload_n 2, 1) := by decide +kernel
theorem dL_insert_6 : decode cL_insert 6 = .ok (.iload_n 3, 1) := by decide +kernel
theorem dL_insert_7 : decode cL_insert 7 = .ok (.iload 4, 2) := by decide +kernel
theorem dL_insert_9 : decode cL_insert 9 = .ok (.invokevirtual 7, 3) := by decide +kernel
theorem dL_insert_12 : decode cL_insert 12 = .ok (.i2l, 1) := by decide +kernel
theorem dL_insert_13 : decode cL_insert 13 = .ok (.lastore, 1) := by decide +kernel
theorem dL_insert_14 : decode cL_insert 14 = .ok (.goto 15, 3) := by decide +kernel
theorem dL_insert_17 : decode cL_insert 17 = .ok (.astore 6, 2) := by decide +kernel
theorem dL_insert_19 : decode cL_insert 19 = .ok (.iconst 1, 1) := by decide +kernel
theorem dL_insert_20 : decode cL_insert 20 = .ok (.ireturn, 1) := by decide +kernel
theorem dL_insert_21 : decode cL_insert 21 = .ok (.astore 6, 2) := by decide +kernel
theorem dL_insert_23 : decode cL_insert 23 = .ok (.iconst 2, 1) := by decide +kernel
theorem dL_insert_24 : decode cL_insert 24 = .ok (.ireturn, 1) := by decide +kernel
theorem dL_insert_25 : decode cL_insert 25 = .ok (.astore 6, 2) := by decide +kernel
theorem dL_insert_27 : decode cL_insert 27 = .ok (.iconst 3, 1) := by decide +kernel
theorem dL_insert_28 : decode cL_insert 28 = .ok (.ireturn, 1) := by decide +kernel
theorem dL_insert_29 : decode cL_insert 29 = .ok (.iconst 0, 1) := by decide +kernel
theorem dL_insert_30 : decode cL_insert 30 = .ok (.ireturn, 1) := by decide +kernel
theorem dL_remove_0 : decode cL_remove 0 = .ok (.aload_n 3, 1) := by decide +kernel
theorem dL_remove_1 : decode cL_remove 1 = .ok (.iconst 0, 1) := by decide +kernel
theorem dL_remove_2 : decode cL_remove 2 = .ok (.aload_n 0, 1) := by decide +kernel
theorem dL_remove_3 : decode cL_remove 3 = .ok (.iload_n 1, 1) := by decide +kernel
theorem dL_remove_4 : decode cL_remove 4 = .ok (.iload_n 2, 1) := by decide +kernel
theorem dL_remove_5 : decode cL_remove 5 = .ok (.invokevirtual 19, 3) := by decide +kernel
theorem dL_remove_8 : decode cL_remove 8 = .ok (.i2l, 1) := by decide +kernel
theorem dL_remove_9 : decode cL_remove 9 = .ok (.lastore, 1) := by decide +kernel
theorem dL_remove_10 : decode cL_remove 10 = .ok (.goto 15, 3) := by decide +kernel
theorem dL_remove_13 : decode cL_remove 13 = .ok (.astore 4, 2) := by decide +kernel
theorem dL_remove_15 : decode cL_remove 15 = .ok (.iconst 1, 1) := by decide +kernel
theorem dL_remove_16 : decode cL_remove 16 = .ok (.ireturn, 1) := by decide +kernel
theorem dL_remove_17 : decode cL_remove 17 = .ok (.astore 4, 2) := by decide +kernel
theorem dL_remove_19 : decode cL_remove 19 = .ok (.iconst 2, 1) := by decide +kernel
theorem dL_remove_20 : decode cL_remove 20 = .ok (.ireturn, 1) := by decide +kernel
theorem dL_remove_21 : decode cL_remove 21 = .ok (.astore 4, 2) := by decide +kernel
theorem dL_remove_23 : decode cL_remove 23 = .ok (.iconst 3, 1) := by decide +kernel
theorem dL_remove_24 : decode cL_remove 24 = .ok (.ireturn, 1) := by decide +kernel
theorem dL_remove_25 : decode cL_remove 25 = .ok (.iconst 0, 1) := by decide +kernel
theorem dL_remove_26 : decode cL_remove 26 = .ok (.ireturn, 1) := by decide +kernel
theorem dL_note_0 : decode cL_note 0 = .ok (.aload 4, 2) := by decide +kernel
theorem dL_note_2 : decode cL_note 2 = .ok (.iconst 0, 1) := by decide +kernel
theorem dL_note_3 : decode cL_note 3 = .ok (.aload_n 0, 1) := by decide +kernel
theorem dL_note_4 : decode cL_note 4 = .ok (.iload_n 1, 1) := by decide +kernel
theorem dL_note_5 : decode cL_note 5 = .ok (.iload_n 2, 1) := by decide +kernel
theorem dL_note_6 : decode cL_note 6 = .ok (.iload_n 3, 1) := by decide +kernel
theorem dL_note_7 : decode cL_note 7 = .ok (.invokevirtual 25, 3) := by decide +kernel
theorem dL_note_10 : decode cL_note 10 = .ok (.i2l, 1) := by decide +kernel
theorem dL_note_11 : decode cL_note 11 = .ok (.lastore, 1) := by decide +kernel
theorem dL_note_12 : decode cL_note 12 = .ok (.goto 19, 3) := by decide +kernel
theorem dL_note_15 : decode cL_note 15 = .ok (.astore 5, 2) := by decide +kernel
theorem dL_note_17 : decode cL_note 17 = .ok (.iconst 1, 1) := by decide +kernel
theorem dL_note_18 : decode cL_note 18 = .ok (.ireturn, 1) := by decide +kernel
theorem dL_note_19 : decode cL_note 19 = .ok (.astore 5, 2) := by decide +kernel
theorem dL_note_21 : decode cL_note 21 = .ok (.iconst 2, 1) := by decide +kernel
theorem dL_note_22 : decode cL_note 22 = .ok (.ireturn, 1) := by decide +kernel
theorem dL_note_23 : decode cL_note 23 = .ok (.astore 5, 2) := by decide +kernel
theorem dL_note_25 : decode cL_note 25 = .ok (.iconst 3, 1) := by decide +kernel
theorem dL_note_26 : decode cL_note 26 = .ok (.ireturn, 1) := by decide +kernel
theorem dL_note_27 : decode cL_note 27 = .ok (.astore 5, 2) := by decide +kernel
theorem dL_note_29 : decode cL_note 29 = .ok (.iconst 4, 1) := by decide +kernel
theorem dL_note_30 : decode cL_note 30 = .ok (.ireturn, 1) := by decide +kernel
theorem dL_note_31 : decode cL_note 31 = .ok (.iconst 0, 1) := by decide +kernel
theorem dL_note_32 : decode cL_note 32 = .ok (.ireturn, 1) := by decide +kernel
theorem dL_move_0 : decode cL_move 0 = .ok (.aload_n 0, 1) := by decide +kernel
theorem dL_move_1 : decode cL_move 1 = .ok (.iload_n 1, 1) := by decide +kernel
theorem dL_move_2 : decode cL_move 2 = .ok (.iload_n 2, 1) := by decide +kernel
theorem dL_move_3 : decode cL_move 3 = .ok (.iload_n 3, 1) := by decide +kernel
theorem dL_move_4 : decode cL_move 4 = .ok (.invokevirtual 29, 3) := by decide +kernel
theorem dL_move_7 : decode cL_move 7 = .ok (.goto 15, 3) := by decide +kernel
theorem dL_move_10 : decode cL_move 10 = .ok (.astore 4, 2) := by decide +kernel
theorem dL_move_12 : decode cL_move 12 = .ok (.iconst 1, 1) := by decide +kernel
theorem dL_move_13 : decode cL_move 13 = .ok (.ireturn, 1) := by decide +kernel
theorem dL_move_14 : decode cL_move 14 = .ok (.astore 4, 2) := by decide +kernel
theorem dL_move_16 : decode cL_move 16 = .ok (.iconst 2, 1) := by decide +kernel
theorem dL_move_17 : decode cL_move 17 = .ok (.ireturn, 1) := by decide +kernel
theorem dL_move_18 : decode cL_move 18 = .ok (.astore 4, 2) := by decide +kernel
theorem dL_move_20 : decode cL_move 20 = .ok (.iconst 3, 1) := by decide +kernel
theorem dL_move_21 : decode cL_move 21 = .ok (.ireturn, 1) := by decide +kernel
theorem dL_move_22 : decode cL_move 22 = .ok (.iconst 0, 1) := by decide +kernel
theorem dL_move_23 : decode cL_move 23 = .ok (.ireturn, 1) := by decide +kernel
theorem dL_sync_0 : decode cL_sync 0 = .ok (.aload_n 3, 1) := by decide +kernel
theorem dL_sync_1 : decode cL_sync 1 = .ok (.iconst 0, 1) := by decide +kernel
theorem dL_sync_2 : decode cL_sync 2 = .ok (.aload_n 0, 1) := by decide +kernel
theorem dL_sync_3 : decode cL_sync 3 = .ok (.iload_n 1, 1) := by decide +kernel
theorem dL_sync_4 : decode cL_sync 4 = .ok (.iload_n 2, 1) := by decide +kernel
theorem dL_sync_5 : decode cL_sync 5 = .ok (.invokevirtual 33, 3) := by decide +kernel
theorem dL_sync_8 : decode cL_sync 8 = .ok (.i2l, 1) := by decide +kernel
theorem dL_sync_9 : decode cL_sync 9 = .ok (.lastore, 1) := by decide +kernel
theorem dL_sync_10 : decode cL_sync 10 = .ok (.goto 7, 3) := by decide +kernel
theorem dL_sync_13 : decode cL_sync 13 = .ok (.astore 4, 2) := by decide +kernel
theorem dL_sync_15 : decode cL_sync 15 = .ok (.iconst 1, 1) := by decide +kernel
theorem dL_sync_16 : decode cL_sync 16 = .ok (.ireturn, 1) := by decide +kernel
theorem dL_sync_17 : decode cL_sync 17 = .ok (.iconst 0, 1) := by decide +kernel
theorem dL_sync_18 : decode cL_sync 18 = .ok (.ireturn, 1) := by decide +kernel
theorem dL_print_0 : decode cL_print 0 = .ok (.aload_n 1, 1) := by decide +kernel
theorem dL_print_1 : decode cL_print 1 = .ok (.iconst 0, 1) := by decide +kernel
theorem dL_print_2 : decode cL_print 2 = .ok (.aload_n 0, 1) := by decide +kernel
theorem dL_print_3 : decode cL_print 3 = .ok (.invokevirtual 36, 3) := by decide +kernel
theorem dL_print_6 : decode cL_print 6 = .ok (.i2l, 1) := by decide +kernel
theorem dL_print_7 : decode cL_print 7 = .ok (.lastore, 1) := by decide +kernel
theorem dL_print_8 : decode cL_print 8 = .ok (.goto 6, 3) := by decide +kernel
theorem dL_print_11 : decode cL_print 11 = .ok (.astore_n 2, 1) := by decide +kernel
theorem dL_print_12 : decode cL_print 12 = .ok (.iconst 1, 1) := by decide +kernel
theorem dL_print_13 : decode cL_print 13 = .ok (.ireturn, 1) := by decide +kernel
theorem dL_print_14 : decode cL_print 14 = .ok (.iconst 0, 1) := by decide +kernel
theorem dL_print_15 : decode cL_print 15 = .ok (.ireturn, 1) := by decide +kernel
theorem dL_differs_0 : decode cL_differs 0 = .ok (.aload_n 2, 1) := by decide +kernel
theorem dL_differs_1 : decode cL_differs 1 = .ok (.iconst 0, 1) := by decide +kernel
theorem dL_differs_2 : decode cL_differs 2 = .ok (.aload_n 0, 1) := by decide +kernel
theorem dL_differs_3 : decode cL_differs 3 = .ok (.iload_n 1, 1) := by decide +kernel
theorem dL_differs_4 : decode cL_differs 4 = .ok (.invokevirtual 40, 3) := by decide +kernel
theorem dL_differs_7 : decode cL_differs 7 = .ok (.i2l, 1) := by decide +kernel
theorem dL_differs_8 : decode cL_differs 8 = .ok (.lastore, 1) := by decide +kernel
theorem dL_differs_9 : decode cL_differs 9 = .ok (.goto 6, 3) := by decide +kernel
theorem dL_differs_12 : decode cL_differs 12 = .ok (.astore_n 3, 1) := by decide +kernel
theorem dL_differs_13 : decode cL_differs 13 = .ok (.iconst 1, 1) := by decide +kernel
theorem dL_differs_14 : decode cL_differs 14 = .ok (.ireturn, 1) := by decide +kernel
theorem dL_differs_15 : decode cL_differs 15 = .ok (.iconst 0, 1) := by decide +kernel
theorem dL_differs_16 : decode cL_differs 16 = .ok (.ireturn, 1) := by decide +kernel
theorem dL_lines_0 : decode cL_lines 0 = .ok (.aload_n 2, 1) := by decide +kernel
theorem dL_lines_1 : decode cL_lines 1 = .ok (.iconst 0, 1) := by decide +kernel
theorem dL_lines_2 : decode cL_lines 2 = .ok (.aload_n 0, 1) := by decide +kernel
theorem dL_lines_3 : decode cL_lines 3 = .ok (.iload_n 1, 1) := by decide +kernel
theorem dL_lines_4 : decode cL_lines 4 = .ok (.invokevirtual 44, 3) := by decide +kernel
theorem dL_lines_7 : decode cL_lines 7 = .ok (.i2l, 1) := by decide +kernel
theorem dL_lines_8 : decode cL_lines 8 = .ok (.lastore, 1) := by decide +kernel
theorem dL_lines_9 : decode cL_lines 9 = .ok (.goto 6, 3) := by decide +kernel
theorem dL_lines_12 : decode cL_lines 12 = .ok (.astore_n 3, 1) := by decide +kernel
theorem dL_lines_13 : decode cL_lines 13 = .ok (.iconst 1, 1) := by decide +kernel
theorem dL_lines_14 : decode cL_lines 14 = .ok (.ireturn, 1) := by decide +kernel
theorem dL_lines_15 : decode cL_lines 15 = .ok (.iconst 0, 1) := by decide +kernel
theorem dL_lines_16 : decode cL_lines 16 = .ok (.ireturn, 1) := by decide +kernel
theorem dL_lineAt_0 : decode cL_lineAt 0 = .ok (.aload 4, 2) := by decide +kernel
theorem dL_lineAt_2 : decode cL_lineAt 2 = .ok (.iconst 0, 1) := by decide +kernel
theorem dL_lineAt_3 : decode cL_lineAt 3 = .ok (.aload_n 0, 1) := by decide +kernel
theorem dL_lineAt_4 : decode cL_lineAt 4 = .ok (.iload_n 1, 1) := by decide +kernel
theorem dL_lineAt_5 : decode cL_lineAt 5 = .ok (.iload_n 2, 1) := by decide +kernel
theorem dL_lineAt_6 : decode cL_lineAt 6 = .ok (.iload_n 3, 1) := by decide +kernel
theorem dL_lineAt_7 : decode cL_lineAt 7 = .ok (.invokevirtual 47, 3) := by decide +kernel
theorem dL_lineAt_10 : decode cL_lineAt 10 = .ok (.i2l, 1) := by decide +kernel
theorem dL_lineAt_11 : decode cL_lineAt 11 = .ok (.lastore, 1) := by decide +kernel
theorem dL_lineAt_12 : decode cL_lineAt 12 = .ok (.goto 11, 3) := by decide +kernel
theorem dL_lineAt_15 : decode cL_lineAt 15 = .ok (.astore 5, 2) := by decide +kernel
theorem dL_lineAt_17 : decode cL_lineAt 17 = .ok (.iconst 1, 1) := by decide +kernel
theorem dL_lineAt_18 : decode cL_lineAt 18 = .ok (.ireturn, 1) := by decide +kernel
theorem dL_lineAt_19 : decode cL_lineAt 19 = .ok (.astore 5, 2) := by decide +kernel
theorem dL_lineAt_21 : decode cL_lineAt 21 = .ok (.iconst 2, 1) := by decide +kernel
theorem dL_lineAt_22 : decode cL_lineAt 22 = .ok (.ireturn, 1) := by decide +kernel
theorem dL_lineAt_23 : decode cL_lineAt 23 = .ok (.iconst 0, 1) := by decide +kernel
theorem dL_lineAt_24 : decode cL_lineAt 24 = .ok (.ireturn, 1) := by decide +kernel
theorem dL_lineAnew_0 : decode cL_lineAnew 0 = .ok (.aload_n 3, 1) := by decide +kernel
theorem dL_lineAnew_1 : decode cL_lineAnew 1 = .ok (.iconst 0, 1) := by decide +kernel
theorem dL_lineAnew_2 : decode cL_lineAnew 2 = .ok (.aload_n 0, 1) := by decide +kernel
theorem dL_lineAnew_3 : decode cL_lineAnew 3 = .ok (.iload_n 1, 1) := by decide +kernel
theorem dL_lineAnew_4 : decode cL_lineAnew 4 = .ok (.iload_n 2, 1) := by decide +kernel
theorem dL_lineAnew_5 : decode cL_lineAnew 5 = .ok (.invokevirtual 50, 3) := by decide +kernel
theorem dL_lineAnew_8 : decode cL_lineAnew 8 = .ok (.i2l, 1) := by decide +kernel
theorem dL_lineAnew_9 : decode cL_lineAnew 9 = .ok (.lastore, 1) := by decide +kernel
theorem dL_lineAnew_10 : decode cL_lineAnew 10 = .ok (.goto 7, 3) := by decide +kernel
theorem dL_lineAnew_13 : decode cL_lineAnew 13 = .ok (.astore 4, 2) := by decide +kernel
theorem dL_lineAnew_15 : decode cL_lineAnew 15 = .ok (.iconst 1, 1) := by decide +kernel
theorem dL_lineAnew_16 : decode cL_lineAnew 16 = .ok (.ireturn, 1) := by decide +kernel
theorem dL_lineAnew_17 : decode cL_lineAnew 17 = .ok (.iconst 0, 1) := by decide +kernel
theorem dL_lineAnew_18 : decode cL_lineAnew 18 = .ok (.ireturn, 1) := by decide +kernel
theorem dL_noteAt_0 : decode cL_noteAt 0 = .ok (.aload_n 3, 1) := by decide +kernel
theorem dL_noteAt_1 : decode cL_noteAt 1 = .ok (.iconst 0, 1) := by decide +kernel
theorem dL_noteAt_2 : decode cL_noteAt 2 = .ok (.aload_n 0, 1) := by decide +kernel
theorem dL_noteAt_3 : decode cL_noteAt 3 = .ok (.iload_n 1, 1) := by decide +kernel
theorem dL_noteAt_4 : decode cL_noteAt 4 = .ok (.iload_n 2, 1) := by decide +kernel
theorem dL_noteAt_5 : decode cL_noteAt 5 = .ok (.invokevirtual 53, 3) := by decide +kernel
theorem dL_noteAt_8 : decode cL_noteAt 8 = .ok (.i2l, 1) := by decide +kernel
theorem dL_noteAt_9 : decode cL_noteAt 9 = .ok (.lastore, 1) := by decide +kernel
theorem dL_noteAt_10 : decode cL_noteAt 10 = .ok (.goto 7, 3) := by decide +kernel
theorem dL_noteAt_13 : decode cL_noteAt 13 = .ok (.astore 4, 2) := by decide +kernel
theorem dL_noteAt_15 : decode cL_noteAt 15 = .ok (.iconst 1, 1) := by decide +kernel
theorem dL_noteAt_16 : decode cL_noteAt 16 = .ok (.ireturn, 1) := by decide +kernel
theorem dL_noteAt_17 : decode cL_noteAt 17 = .ok (.iconst 0, 1) := by decide +kernel
theorem dL_noteAt_18 : decode cL_noteAt 18 = .ok (.ireturn, 1) := by decide +kernel
theorem dL_pages_0 : decode cL_pages 0 = .ok (.aload_n 2, 1) := by decide +kernel
theorem dL_pages_1 : decode cL_pages 1 = .ok (.iconst 0, 1) := by decide +kernel
theorem dL_pages_2 : decode cL_pages 2 = .ok (.aload_n 0, 1) := by decide +kernel
theorem dL_pages_3 : decode cL_pages 3 = .ok (.iload_n 1, 1) := by decide +kernel
theorem dL_pages_4 : decode cL_pages 4 = .ok (.invokevirtual 56, 3) := by decide +kernel
theorem dL_pages_7 : decode cL_pages 7 = .ok (.i2l, 1) := by decide +kernel
theorem dL_pages_8 : decode cL_pages 8 = .ok (.lastore, 1) := by decide +kernel
theorem dL_pages_9 : decode cL_pages 9 = .ok (.goto 6, 3) := by decide +kernel
theorem dL_pages_12 : decode cL_pages 12 = .ok (.astore_n 3, 1) := by decide +kernel
theorem dL_pages_13 : decode cL_pages 13 = .ok (.iconst 1, 1) := by decide +kernel
theorem dL_pages_14 : decode cL_pages 14 = .ok (.ireturn, 1) := by decide +kernel
theorem dL_pages_15 : decode cL_pages 15 = .ok (.iconst 0, 1) := by decide +kernel
theorem dL_pages_16 : decode cL_pages 16 = .ok (.ireturn, 1) := by decide +kernel
theorem dL_aheadAnew_0 : decode cL_aheadAnew 0 = .ok (.aload_n 3, 1) := by decide +kernel
theorem dL_aheadAnew_1 : decode cL_aheadAnew 1 = .ok (.iconst 0, 1) := by decide +kernel
theorem dL_aheadAnew_2 : decode cL_aheadAnew 2 = .ok (.aload_n 0, 1) := by decide +kernel
theorem dL_aheadAnew_3 : decode cL_aheadAnew 3 = .ok (.iload_n 1, 1) := by decide +kernel
theorem dL_aheadAnew_4 : decode cL_aheadAnew 4 = .ok (.iload_n 2, 1) := by decide +kernel
theorem dL_aheadAnew_5 : decode cL_aheadAnew 5 = .ok (.invokevirtual 59, 3) := by decide +kernel
theorem dL_aheadAnew_8 : decode cL_aheadAnew 8 = .ok (.i2l, 1) := by decide +kernel
theorem dL_aheadAnew_9 : decode cL_aheadAnew 9 = .ok (.lastore, 1) := by decide +kernel
theorem dL_aheadAnew_10 : decode cL_aheadAnew 10 = .ok (.goto 7, 3) := by decide +kernel
theorem dL_aheadAnew_13 : decode cL_aheadAnew 13 = .ok (.astore 4, 2) := by decide +kernel
theorem dL_aheadAnew_15 : decode cL_aheadAnew 15 = .ok (.iconst 1, 1) := by decide +kernel
theorem dL_aheadAnew_16 : decode cL_aheadAnew 16 = .ok (.ireturn, 1) := by decide +kernel
theorem dL_aheadAnew_17 : decode cL_aheadAnew 17 = .ok (.iconst 0, 1) := by decide +kernel
theorem dL_aheadAnew_18 : decode cL_aheadAnew 18 = .ok (.ireturn, 1) := by decide +kernel
theorem dL_known_0 : decode cL_known 0 = .ok (.aload_n 2, 1) := by decide +kernel
theorem dL_known_1 : decode cL_known 1 = .ok (.iconst 0, 1) := by decide +kernel
theorem dL_known_2 : decode cL_known 2 = .ok (.aload_n 0, 1) := by decide +kernel
theorem dL_known_3 : decode cL_known 3 = .ok (.iload_n 1, 1) := by decide +kernel
theorem dL_known_4 : decode cL_known 4 = .ok (.invokevirtual 62, 3) := by decide +kernel
theorem dL_known_7 : decode cL_known 7 = .ok (.i2l, 1) := by decide +kernel
theorem dL_known_8 : decode cL_known 8 = .ok (.lastore, 1) := by decide +kernel
theorem dL_known_9 : decode cL_known 9 = .ok (.goto 6, 3) := by decide +kernel
end
section
theorem dL_known_12 : decode cL_known 12 = .ok (.astore_n 3, 1) := by decide +kernel
theorem dL_known_13 : decode cL_known 13 = .ok (.iconst 1, 1) := by decide +kernel
theorem dL_known_14 : decode cL_known 14 = .ok (.ireturn, 1) := by decide +kernel
theorem dL_known_15 : decode cL_known 15 = .ok (.iconst 0, 1) := by decide +kernel
theorem dL_known_16 : decode cL_known 16 = .ok (.ireturn, 1) := by decide +kernel
end
section
theorem dL_law_0 : decode cL_law 0 = .ok (.new 8, 3) := by decide +kernel
theorem dL_law_3 : decode cL_law 3 = .ok (.dup, 1) := by decide +kernel
theorem dL_law_4 : decode cL_law 4 = .ok (.invokespecial 65, 3) := by decide +kernel
theorem dL_law_7 : decode cL_law 7 = .ok (.astore_n 1, 1) := by decide +kernel
theorem dL_law_8 : decode cL_law 8 = .ok (.new 66, 3) := by decide +kernel
theorem dL_law_11 : decode cL_law 11 = .ok (.dup, 1) := by decide +kernel
theorem dL_law_12 : decode cL_law 12 = .ok (.invokespecial 68, 3) := by decide +kernel
theorem dL_law_15 : decode cL_law 15 = .ok (.astore_n 2, 1) := by decide +kernel
theorem dL_law_16 : decode cL_law 16 = .ok (.iconst 1, 1) := by decide +kernel
theorem dL_law_17 : decode cL_law 17 = .ok (.newarray .long, 2) := by decide +kernel
theorem dL_law_19 : decode cL_law 19 = .ok (.astore_n 3, 1) := by decide +kernel
theorem dL_law_20 : decode cL_law 20 = .ok (.iconst 0, 1) := by decide +kernel
theorem dL_law_21 : decode cL_law 21 = .ok (.istore 4, 2) := by decide +kernel
theorem dL_law_23 : decode cL_law 23 = .ok (.iload 4, 2) := by decide +kernel
theorem dL_law_25 : decode cL_law 25 = .ok (.aload_n 0, 1) := by decide +kernel
theorem dL_law_26 : decode cL_law 26 = .ok (.arraylength, 1) := by decide +kernel
theorem dL_law_27 : decode cL_law 27 = .ok (.iconst 5, 1) := by decide +kernel
theorem dL_law_28 : decode cL_law 28 = .ok (.isub, 1) := by decide +kernel
theorem dL_law_29 : decode cL_law 29 = .ok (.if_icmp .gt 1055, 3) := by decide +kernel
theorem dL_law_32 : decode cL_law 32 = .ok (.aload_n 0, 1) := by decide +kernel
theorem dL_law_33 : decode cL_law 33 = .ok (.iload 4, 2) := by decide +kernel
theorem dL_law_35 : decode cL_law 35 = .ok (.iaload, 1) := by decide +kernel
theorem dL_law_36 : decode cL_law 36 = .ok (.bipush 15, 2) := by decide +kernel
theorem dL_law_38 : decode cL_law 38 = .ok (.iand, 1) := by decide +kernel
theorem dL_law_39 : decode cL_law 39 = .ok (.tableswitch 1039 0 15 #[77, 185, 253, 333, 393, 461, 505, 518, 574, 587, 643, 723, 791, 859, 915, 983], 77) := by decide +kernel
theorem dL_law_116 : decode cL_law 116 = .ok (.aload_n 1, 1) := by decide +kernel
theorem dL_law_117 : decode cL_law 117 = .ok (.aload_n 0, 1) := by decide +kernel
theorem dL_law_118 : decode cL_law 118 = .ok (.iload 4, 2) := by decide +kernel
theorem dL_law_120 : decode cL_law 120 = .ok (.iconst 1, 1) := by decide +kernel
theorem dL_law_121 : decode cL_law 121 = .ok (.iadd, 1) := by decide +kernel
theorem dL_law_122 : decode cL_law 122 = .ok (.iaload, 1) := by decide +kernel
theorem dL_law_123 : decode cL_law 123 = .ok (.aload_n 0, 1) := by decide +kernel
theorem dL_law_124 : decode cL_law 124 = .ok (.iload 4, 2) := by decide +kernel
theorem dL_law_126 : decode cL_law 126 = .ok (.iconst 2, 1) := by decide +kernel
theorem dL_law_127 : decode cL_law 127 = .ok (.iadd, 1) := by decide +kernel
theorem dL_law_128 : decode cL_law 128 = .ok (.iaload, 1) := by decide +kernel
theorem dL_law_129 : decode cL_law 129 = .ok (.aload_n 0, 1) := by decide +kernel
theorem dL_law_130 : decode cL_law 130 = .ok (.iload 4, 2) := by decide +kernel
theorem dL_law_132 : decode cL_law 132 = .ok (.iconst 3, 1) := by decide +kernel
theorem dL_law_133 : decode cL_law 133 = .ok (.iadd, 1) := by decide +kernel
theorem dL_law_134 : decode cL_law 134 = .ok (.iaload, 1) := by decide +kernel
theorem dL_law_135 : decode cL_law 135 = .ok (.aload_n 0, 1) := by decide +kernel
theorem dL_law_136 : decode cL_law 136 = .ok (.iload 4, 2) := by decide +kernel
theorem dL_law_138 : decode cL_law 138 = .ok (.iconst 4, 1) := by decide +kernel
theorem dL_law_139 : decode cL_law 139 = .ok (.iadd, 1) := by decide +kernel
theorem dL_law_140 : decode cL_law 140 = .ok (.iaload, 1) := by decide +kernel
theorem dL_law_141 : decode cL_law 141 = .ok (.ifCond .eq 7, 3) := by decide +kernel
theorem dL_law_144 : decode cL_law 144 = .ok (.iconst 1, 1) := by decide +kernel
theorem dL_law_145 : decode cL_law 145 = .ok (.goto 4, 3) := by decide +kernel
theorem dL_law_148 : decode cL_law 148 = .ok (.iconst 0, 1) := by decide +kernel
theorem dL_law_149 : decode cL_law 149 = .ok (.aload_n 3, 1) := by decide +kernel
theorem dL_law_150 : decode cL_law 150 = .ok (.invokestatic 69, 3) := by decide +kernel
theorem dL_law_153 : decode cL_law 153 = .ok (.istore 5, 2) := by decide +kernel
theorem dL_law_155 : decode cL_law 155 = .ok (.aload_n 2, 1) := by decide +kernel
theorem dL_law_156 : decode cL_law 156 = .ok (.aload_n 0, 1) := by decide +kernel
theorem dL_law_157 : decode cL_law 157 = .ok (.iload 4, 2) := by decide +kernel
theorem dL_law_159 : decode cL_law 159 = .ok (.iconst 1, 1) := by decide +kernel
theorem dL_law_160 : decode cL_law 160 = .ok (.iadd, 1) := by decide +kernel
theorem dL_law_161 : decode cL_law 161 = .ok (.iaload, 1) := by decide +kernel
theorem dL_law_162 : decode cL_law 162 = .ok (.aload_n 0, 1) := by decide +kernel
theorem dL_law_163 : decode cL_law 163 = .ok (.iload 4, 2) := by decide +kernel
theorem dL_law_165 : decode cL_law 165 = .ok (.iconst 2, 1) := by decide +kernel
theorem dL_law_166 : decode cL_law 166 = .ok (.iadd, 1) := by decide +kernel
theorem dL_law_167 : decode cL_law 167 = .ok (.iaload, 1) := by decide +kernel
theorem dL_law_168 : decode cL_law 168 = .ok (.aload_n 0, 1) := by decide +kernel
theorem dL_law_169 : decode cL_law 169 = .ok (.iload 4, 2) := by decide +kernel
theorem dL_law_171 : decode cL_law 171 = .ok (.iconst 3, 1) := by decide +kernel
theorem dL_law_172 : decode cL_law 172 = .ok (.iadd, 1) := by decide +kernel
theorem dL_law_173 : decode cL_law 173 = .ok (.iaload, 1) := by decide +kernel
theorem dL_law_174 : decode cL_law 174 = .ok (.aload_n 0, 1) := by decide +kernel
theorem dL_law_175 : decode cL_law 175 = .ok (.iload 4, 2) := by decide +kernel
theorem dL_law_177 : decode cL_law 177 = .ok (.iconst 4, 1) := by decide +kernel
theorem dL_law_178 : decode cL_law 178 = .ok (.iadd, 1) := by decide +kernel
theorem dL_law_179 : decode cL_law 179 = .ok (.iaload, 1) := by decide +kernel
theorem dL_law_180 : decode cL_law 180 = .ok (.ifCond .eq 7, 3) := by decide +kernel
theorem dL_law_183 : decode cL_law 183 = .ok (.iconst 1, 1) := by decide +kernel
theorem dL_law_184 : decode cL_law 184 = .ok (.goto 4, 3) := by decide +kernel
theorem dL_law_187 : decode cL_law 187 = .ok (.iconst 0, 1) := by decide +kernel
theorem dL_law_188 : decode cL_law 188 = .ok (.invokevirtual 74, 3) := by decide +kernel
theorem dL_law_191 : decode cL_law 191 = .ok (.istore 6, 2) := by decide +kernel
theorem dL_law_193 : decode cL_law 193 = .ok (.aload_n 2, 1) := by decide +kernel
theorem dL_law_194 : decode cL_law 194 = .ok (.invokevirtual 75, 3) := by decide +kernel
theorem dL_law_197 : decode cL_law 197 = .ok (.iload 5, 2) := by decide +kernel
theorem dL_law_199 : decode cL_law 199 = .ok (.if_icmp .eq 5, 3) := by decide +kernel
theorem dL_law_202 : decode cL_law 202 = .ok (.iconst 0, 1) := by decide +kernel
theorem dL_law_203 : decode cL_law 203 = .ok (.ireturn, 1) := by decide +kernel
theorem dL_law_204 : decode cL_law 204 = .ok (.iload 5, 2) := by decide +kernel
theorem dL_law_206 : decode cL_law 206 = .ok (.ifCond .ne 15, 3) := by decide +kernel
theorem dL_law_209 : decode cL_law 209 = .ok (.aload_n 3, 1) := by decide +kernel
theorem dL_law_210 : decode cL_law 210 = .ok (.iconst 0, 1) := by decide +kernel
theorem dL_law_211 : decode cL_law 211 = .ok (.laload, 1) := by decide +kernel
theorem dL_law_212 : decode cL_law 212 = .ok (.iload 6, 2) := by decide +kernel
theorem dL_law_214 : decode cL_law 214 = .ok (.i2l, 1) := by decide +kernel
theorem dL_law_215 : decode cL_law 215 = .ok (.lcmp, 1) := by decide +kernel
theorem dL_law_216 : decode cL_law 216 = .ok (.ifCond .eq 5, 3) := by decide +kernel
theorem dL_law_219 : decode cL_law 219 = .ok (.iconst 0, 1) := by decide +kernel
theorem dL_law_220 : decode cL_law 220 = .ok (.ireturn, 1) := by decide +kernel
theorem dL_law_221 : decode cL_law 221 = .ok (.goto 857, 3) := by decide +kernel
theorem dL_law_224 : decode cL_law 224 = .ok (.aload_n 1, 1) := by decide +kernel
theorem dL_law_225 : decode cL_law 225 = .ok (.aload_n 0, 1) := by decide +kernel
theorem dL_law_226 : decode cL_law 226 = .ok (.iload 4, 2) := by decide +kernel
theorem dL_law_228 : decode cL_law 228 = .ok (.iconst 1, 1) := by decide +kernel
theorem dL_law_229 : decode cL_law 229 = .ok (.iadd, 1) := by decide +kernel
theorem dL_law_230 : decode cL_law 230 = .ok (.iaload, 1) := by decide +kernel
theorem dL_law_231 : decode cL_law 231 = .ok (.aload_n 0, 1) := by decide +kernel
theorem dL_law_232 : decode cL_law 232 = .ok (.iload 4, 2) := by decide +kernel
theorem dL_law_234 : decode cL_law 234 = .ok (.iconst 2, 1) := by decide +kernel
theorem dL_law_235 : decode cL_law 235 = .ok (.iadd, 1) := by decide +kernel
theorem dL_law_236 : decode cL_law 236 = .ok (.iaload, 1) := by decide +kernel
theorem dL_law_237 : decode cL_law 237 = .ok (.aload_n 3, 1) := by decide +kernel
theorem dL_law_238 : decode cL_law 238 = .ok (.invokestatic 78, 3) := by decide +kernel
theorem dL_law_241 : decode cL_law 241 = .ok (.istore 5, 2) := by decide +kernel
theorem dL_law_243 : decode cL_law 243 = .ok (.aload_n 2, 1) := by decide +kernel
theorem dL_law_244 : decode cL_law 244 = .ok (.aload_n 0, 1) := by decide +kernel
theorem dL_law_245 : decode cL_law 245 = .ok (.iload 4, 2) := by decide +kernel
theorem dL_law_247 : decode cL_law 247 = .ok (.iconst 1, 1) := by decide +kernel
theorem dL_law_248 : decode cL_law 248 = .ok (.iadd, 1) := by decide +kernel
theorem dL_law_249 : decode cL_law 249 = .ok (.iaload, 1) := by decide +kernel
theorem dL_law_250 : decode cL_law 250 = .ok (.aload_n 0, 1) := by decide +kernel
theorem dL_law_251 : decode cL_law 251 = .ok (.iload 4, 2) := by decide +kernel
theorem dL_law_253 : decode cL_law 253 = .ok (.iconst 2, 1) := by decide +kernel
theorem dL_law_254 : decode cL_law 254 = .ok (.iadd, 1) := by decide +kernel
theorem dL_law_255 : decode cL_law 255 = .ok (.iaload, 1) := by decide +kernel
theorem dL_law_256 : decode cL_law 256 = .ok (.invokevirtual 81, 3) := by decide +kernel
theorem dL_law_259 : decode cL_law 259 = .ok (.istore 6, 2) := by decide +kernel
theorem dL_law_261 : decode cL_law 261 = .ok (.aload_n 2, 1) := by decide +kernel
theorem dL_law_262 : decode cL_law 262 = .ok (.invokevirtual 75, 3) := by decide +kernel
theorem dL_law_265 : decode cL_law 265 = .ok (.iload 5, 2) := by decide +kernel
theorem dL_law_267 : decode cL_law 267 = .ok (.if_icmp .eq 5, 3) := by decide +kernel
theorem dL_law_270 : decode cL_law 270 = .ok (.iconst 0, 1) := by decide +kernel
theorem dL_law_271 : decode cL_law 271 = .ok (.ireturn, 1) := by decide +kernel
theorem dL_law_272 : decode cL_law 272 = .ok (.iload 5, 2) := by decide +kernel
theorem dL_law_274 : decode cL_law 274 = .ok (.ifCond .ne 15, 3) := by decide +kernel
theorem dL_law_277 : decode cL_law 277 = .ok (.aload_n 3, 1) := by decide +kernel
theorem dL_law_278 : decode cL_law 278 = .ok (.iconst 0, 1) := by decide +kernel
theorem dL_law_279 : decode cL_law 279 = .ok (.laload, 1) := by decide +kernel
theorem dL_law_280 : decode cL_law 280 = .ok (.iload 6, 2) := by decide +kernel
theorem dL_law_282 : decode cL_law 282 = .ok (.i2l, 1) := by decide +kernel
theorem dL_law_283 : decode cL_law 283 = .ok (.lcmp, 1) := by decide +kernel
theorem dL_law_284 : decode cL_law 284 = .ok (.ifCond .eq 5, 3) := by decide +kernel
theorem dL_law_287 : decode cL_law 287 = .ok (.iconst 0, 1) := by decide +kernel
theorem dL_law_288 : decode cL_law 288 = .ok (.ireturn, 1) := by decide +kernel
theorem dL_law_289 : decode cL_law 289 = .ok (.goto 789, 3) := by decide +kernel
theorem dL_law_292 : decode cL_law 292 = .ok (.aload_n 1, 1) := by decide +kernel
theorem dL_law_293 : decode cL_law 293 = .ok (.aload_n 0, 1) := by decide +kernel
theorem dL_law_294 : decode cL_law 294 = .ok (.iload 4, 2) := by decide +kernel
theorem dL_law_296 : decode cL_law 296 = .ok (.iconst 1, 1) := by decide +kernel
theorem dL_law_297 : decode cL_law 297 = .ok (.iadd, 1) := by decide +kernel
theorem dL_law_298 : decode cL_law 298 = .ok (.iaload, 1) := by decide +kernel
theorem dL_law_299 : decode cL_law 299 = .ok (.aload_n 0, 1) := by decide +kernel
theorem dL_law_300 : decode cL_law 300 = .ok (.iload 4, 2) := by decide +kernel
theorem dL_law_302 : decode cL_law 302 = .ok (.iconst 2, 1) := by decide +kernel
theorem dL_law_303 : decode cL_law 303 = .ok (.iadd, 1) := by decide +kernel
theorem dL_law_304 : decode cL_law 304 = .ok (.iaload, 1) := by decide +kernel
theorem dL_law_305 : decode cL_law 305 = .ok (.aload_n 0, 1) := by decide +kernel
theorem dL_law_306 : decode cL_law 306 = .ok (.iload 4, 2) := by decide +kernel
theorem dL_law_308 : decode cL_law 308 = .ok (.iconst 3, 1) := by decide +kernel
theorem dL_law_309 : decode cL_law 309 = .ok (.iadd, 1) := by decide +kernel
theorem dL_law_310 : decode cL_law 310 = .ok (.iaload, 1) := by decide +kernel
theorem dL_law_311 : decode cL_law 311 = .ok (.aload_n 3, 1) := by decide +kernel
theorem dL_law_312 : decode cL_law 312 = .ok (.invokestatic 82, 3) := by decide +kernel
theorem dL_law_315 : decode cL_law 315 = .ok (.istore 5, 2) := by decide +kernel
theorem dL_law_317 : decode cL_law 317 = .ok (.aload_n 2, 1) := by decide +kernel
theorem dL_law_318 : decode cL_law 318 = .ok (.aload_n 0, 1) := by decide +kernel
theorem dL_law_319 : decode cL_law 319 = .ok (.iload 4, 2) := by decide +kernel
theorem dL_law_321 : decode cL_law 321 = .ok (.iconst 1, 1) := by decide +kernel
theorem dL_law_322 : decode cL_law 322 = .ok (.iadd, 1) := by decide +kernel
theorem dL_law_323 : decode cL_law 323 = .ok (.iaload, 1) := by decide +kernel
theorem dL_law_324 : decode cL_law 324 = .ok (.aload_n 0, 1) := by decide +kernel
theorem dL_law_325 : decode cL_law 325 = .ok (.iload 4, 2) := by decide +kernel
end
section
theorem dL_law_327 : decode cL_law 327 = .ok (.iconst 2, 1) := by decide +kernel
theorem dL_law_328 : decode cL_law 328 = .ok (.iadd, 1) := by decide +kernel
theorem dL_law_329 : decode cL_law 329 = .ok (.iaload, 1) := by decide +kernel
theorem dL_law_330 : decode cL_law 330 = .ok (.aload_n 0, 1) := by decide +kernel
theorem dL_law_331 : decode cL_law 331 = .ok (.iload 4, 2) := by decide +kernel
theorem dL_law_333 : decode cL_law 333 = .ok (.iconst 3, 1) := by decide +kernel
theorem dL_law_334 : decode cL_law 334 = .ok (.iadd, 1) := by decide +kernel
theorem dL_law_335 : decode cL_law 335 = .ok (.iaload, 1) := by decide +kernel
theorem dL_law_336 : decode cL_law 336 = .ok (.invokevirtual 85, 3) := by decide +kernel
theorem dL_law_339 : decode cL_law 339 = .ok (.istore 6, 2) := by decide +kernel
theorem dL_law_341 : decode cL_law 341 = .ok (.aload_n 2, 1) := by decide +kernel
theorem dL_law_342 : decode cL_law 342 = .ok (.invokevirtual 75, 3) := by decide +kernel
theorem dL_law_345 : decode cL_law 345 = .ok (.iload 5, 2) := by decide +kernel
theorem dL_law_347 : decode cL_law 347 = .ok (.if_icmp .eq 5, 3) := by decide +kernel
theorem dL_law_350 : decode cL_law 350 = .ok (.iconst 0, 1) := by decide +kernel
theorem dL_law_351 : decode cL_law 351 = .ok (.ireturn, 1) := by decide +kernel
theorem dL_law_352 : decode cL_law 352 = .ok (.iload 5, 2) := by decide +kernel
theorem dL_law_354 : decode cL_law 354 = .ok (.ifCond .ne 15, 3) := by decide +kernel
theorem dL_law_357 : decode cL_law 357 = .ok (.aload_n 3, 1) := by decide +kernel
theorem dL_law_358 : decode cL_law 358 = .ok (.iconst 0, 1) := by decide +kernel
theorem dL_law_359 : decode cL_law 359 = .ok (.laload, 1) := by decide +kernel
theorem dL_law_360 : decode cL_law 360 = .ok (.iload 6, 2) := by decide +kernel
theorem dL_law_362 : decode cL_law 362 = .ok (.i2l, 1) := by decide +kernel
theorem dL_law_363 : decode cL_law 363 = .ok (.lcmp, 1) := by decide +kernel
theorem dL_law_364 : decode cL_law 364 = .ok (.ifCond .eq 5, 3) := by decide +kernel
theorem dL_law_367 : decode cL_law 367 = .ok (.iconst 0, 1) := by decide +kernel
theorem dL_law_368 : decode cL_law 368 = .ok (.ireturn, 1) := by decide +kernel
theorem dL_law_369 : decode cL_law 369 = .ok (.goto 709, 3) := by decide +kernel
theorem dL_law_372 : decode cL_law 372 = .ok (.aload_n 1, 1) := by decide +kernel
theorem dL_law_373 : decode cL_law 373 = .ok (.aload_n 0, 1) := by decide +kernel
theorem dL_law_374 : decode cL_law 374 = .ok (.iload 4, 2) := by decide +kernel
theorem dL_law_376 : decode cL_law 376 = .ok (.iconst 1, 1) := by decide +kernel
theorem dL_law_377 : decode cL_law 377 = .ok (.iadd, 1) := by decide +kernel
theorem dL_law_378 : decode cL_law 378 = .ok (.iaload, 1) := by decide +kernel
theorem dL_law_379 : decode cL_law 379 = .ok (.aload_n 0, 1) := by decide +kernel
theorem dL_law_380 : decode cL_law 380 = .ok (.iload 4, 2) := by decide +kernel
theorem dL_law_382 : decode cL_law 382 = .ok (.iconst 2, 1) := by decide +kernel
theorem dL_law_383 : decode cL_law 383 = .ok (.iadd, 1) := by decide +kernel
theorem dL_law_384 : decode cL_law 384 = .ok (.iaload, 1) := by decide +kernel
theorem dL_law_385 : decode cL_law 385 = .ok (.aload_n 0, 1) := by decide +kernel
theorem dL_law_386 : decode cL_law 386 = .ok (.iload 4, 2) := by decide +kernel
theorem dL_law_388 : decode cL_law 388 = .ok (.iconst 3, 1) := by decide +kernel
theorem dL_law_389 : decode cL_law 389 = .ok (.iadd, 1) := by decide +kernel
theorem dL_law_390 : decode cL_law 390 = .ok (.iaload, 1) := by decide +kernel
theorem dL_law_391 : decode cL_law 391 = .ok (.invokestatic 86, 3) := by decide +kernel
theorem dL_law_394 : decode cL_law 394 = .ok (.istore 5, 2) := by decide +kernel
theorem dL_law_396 : decode cL_law 396 = .ok (.aload_n 2, 1) := by decide +kernel
theorem dL_law_397 : decode cL_law 397 = .ok (.aload_n 0, 1) := by decide +kernel
theorem dL_law_398 : decode cL_law 398 = .ok (.iload 4, 2) := by decide +kernel
theorem dL_law_400 : decode cL_law 400 = .ok (.iconst 1, 1) := by decide +kernel
theorem dL_law_401 : decode cL_law 401 = .ok (.iadd, 1) := by decide +kernel
theorem dL_law_402 : decode cL_law 402 = .ok (.iaload, 1) := by decide +kernel
theorem dL_law_403 : decode cL_law 403 = .ok (.aload_n 0, 1) := by decide +kernel
theorem dL_law_404 : decode cL_law 404 = .ok (.iload 4, 2) := by decide +kernel
theorem dL_law_406 : decode cL_law 406 = .ok (.iconst 2, 1) := by decide +kernel
theorem dL_law_407 : decode cL_law 407 = .ok (.iadd, 1) := by decide +kernel
theorem dL_law_408 : decode cL_law 408 = .ok (.iaload, 1) := by decide +kernel
theorem dL_law_409 : decode cL_law 409 = .ok (.aload_n 0, 1) := by decide +kernel
theorem dL_law_410 : decode cL_law 410 = .ok (.iload 4, 2) := by decide +kernel
theorem dL_law_412 : decode cL_law 412 = .ok (.iconst 3, 1) := by decide +kernel
theorem dL_law_413 : decode cL_law 413 = .ok (.iadd, 1) := by decide +kernel
theorem dL_law_414 : decode cL_law 414 = .ok (.iaload, 1) := by decide +kernel
theorem dL_law_415 : decode cL_law 415 = .ok (.invokevirtual 89, 3) := by decide +kernel
theorem dL_law_418 : decode cL_law 418 = .ok (.aload_n 2, 1) := by decide +kernel
theorem dL_law_419 : decode cL_law 419 = .ok (.invokevirtual 75, 3) := by decide +kernel
theorem dL_law_422 : decode cL_law 422 = .ok (.iload 5, 2) := by decide +kernel
theorem dL_law_424 : decode cL_law 424 = .ok (.if_icmp .eq 5, 3) := by decide +kernel
theorem dL_law_427 : decode cL_law 427 = .ok (.iconst 0, 1) := by decide +kernel
theorem dL_law_428 : decode cL_law 428 = .ok (.ireturn, 1) := by decide +kernel
theorem dL_law_429 : decode cL_law 429 = .ok (.goto 649, 3) := by decide +kernel
theorem dL_law_432 : decode cL_law 432 = .ok (.aload_n 1, 1) := by decide +kernel
theorem dL_law_433 : decode cL_law 433 = .ok (.aload_n 0, 1) := by decide +kernel
theorem dL_law_434 : decode cL_law 434 = .ok (.iload 4, 2) := by decide +kernel
theorem dL_law_436 : decode cL_law 436 = .ok (.iconst 1, 1) := by decide +kernel
theorem dL_law_437 : decode cL_law 437 = .ok (.iadd, 1) := by decide +kernel
theorem dL_law_438 : decode cL_law 438 = .ok (.iaload, 1) := by decide +kernel
theorem dL_law_439 : decode cL_law 439 = .ok (.aload_n 0, 1) := by decide +kernel
theorem dL_law_440 : decode cL_law 440 = .ok (.iload 4, 2) := by decide +kernel
theorem dL_law_442 : decode cL_law 442 = .ok (.iconst 2, 1) := by decide +kernel
theorem dL_law_443 : decode cL_law 443 = .ok (.iadd, 1) := by decide +kernel
theorem dL_law_444 : decode cL_law 444 = .ok (.iaload, 1) := by decide +kernel
theorem dL_law_445 : decode cL_law 445 = .ok (.aload_n 3, 1) := by decide +kernel
theorem dL_law_446 : decode cL_law 446 = .ok (.invokestatic 90, 3) := by decide +kernel
theorem dL_law_449 : decode cL_law 449 = .ok (.istore 5, 2) := by decide +kernel
theorem dL_law_451 : decode cL_law 451 = .ok (.aload_n 2, 1) := by decide +kernel
theorem dL_law_452 : decode cL_law 452 = .ok (.aload_n 0, 1) := by decide +kernel
theorem dL_law_453 : decode cL_law 453 = .ok (.iload 4, 2) := by decide +kernel
theorem dL_law_455 : decode cL_law 455 = .ok (.iconst 1, 1) := by decide +kernel
theorem dL_law_456 : decode cL_law 456 = .ok (.iadd, 1) := by decide +kernel
theorem dL_law_457 : decode cL_law 457 = .ok (.iaload, 1) := by decide +kernel
theorem dL_law_458 : decode cL_law 458 = .ok (.aload_n 0, 1) := by decide +kernel
theorem dL_law_459 : decode cL_law 459 = .ok (.iload 4, 2) := by decide +kernel
theorem dL_law_461 : decode cL_law 461 = .ok (.iconst 2, 1) := by decide +kernel
theorem dL_law_462 : decode cL_law 462 = .ok (.iadd, 1) := by decide +kernel
theorem dL_law_463 : decode cL_law 463 = .ok (.iaload, 1) := by decide +kernel
theorem dL_law_464 : decode cL_law 464 = .ok (.invokevirtual 92, 3) := by decide +kernel
theorem dL_law_467 : decode cL_law 467 = .ok (.istore 6, 2) := by decide +kernel
theorem dL_law_469 : decode cL_law 469 = .ok (.aload_n 2, 1) := by decide +kernel
theorem dL_law_470 : decode cL_law 470 = .ok (.invokevirtual 75, 3) := by decide +kernel
theorem dL_law_473 : decode cL_law 473 = .ok (.iload 5, 2) := by decide +kernel
theorem dL_law_475 : decode cL_law 475 = .ok (.if_icmp .eq 5, 3) := by decide +kernel
theorem dL_law_478 : decode cL_law 478 = .ok (.iconst 0, 1) := by decide +kernel
theorem dL_law_479 : decode cL_law 479 = .ok (.ireturn, 1) := by decide +kernel
theorem dL_law_480 : decode cL_law 480 = .ok (.iload 5, 2) := by decide +kernel
theorem dL_law_482 : decode cL_law 482 = .ok (.ifCond .ne 15, 3) := by decide +kernel
theorem dL_law_485 : decode cL_law 485 = .ok (.aload_n 3, 1) := by decide +kernel
theorem dL_law_486 : decode cL_law 486 = .ok (.iconst 0, 1) := by decide +kernel
theorem dL_law_487 : decode cL_law 487 = .ok (.laload, 1) := by decide +kernel
theorem dL_law_488 : decode cL_law 488 = .ok (.iload 6, 2) := by decide +kernel
theorem dL_law_490 : decode cL_law 490 = .ok (.i2l, 1) := by decide +kernel
theorem dL_law_491 : decode cL_law 491 = .ok (.lcmp, 1) := by decide +kernel
theorem dL_law_492 : decode cL_law 492 = .ok (.ifCond .eq 5, 3) := by decide +kernel
theorem dL_law_495 : decode cL_law 495 = .ok (.iconst 0, 1) := by decide +kernel
theorem dL_law_496 : decode cL_law 496 = .ok (.ireturn, 1) := by decide +kernel
theorem dL_law_497 : decode cL_law 497 = .ok (.goto 581, 3) := by decide +kernel
theorem dL_law_500 : decode cL_law 500 = .ok (.aload_n 1, 1) := by decide +kernel
theorem dL_law_501 : decode cL_law 501 = .ok (.aload_n 3, 1) := by decide +kernel
theorem dL_law_502 : decode cL_law 502 = .ok (.invokestatic 93, 3) := by decide +kernel
theorem dL_law_505 : decode cL_law 505 = .ok (.istore 5, 2) := by decide +kernel
theorem dL_law_507 : decode cL_law 507 = .ok (.aload_n 2, 1) := by decide +kernel
theorem dL_law_508 : decode cL_law 508 = .ok (.invokevirtual 96, 3) := by decide +kernel
theorem dL_law_511 : decode cL_law 511 = .ok (.istore 6, 2) := by decide +kernel
theorem dL_law_513 : decode cL_law 513 = .ok (.aload_n 2, 1) := by decide +kernel
theorem dL_law_514 : decode cL_law 514 = .ok (.invokevirtual 75, 3) := by decide +kernel
theorem dL_law_517 : decode cL_law 517 = .ok (.iload 5, 2) := by decide +kernel
theorem dL_law_519 : decode cL_law 519 = .ok (.if_icmp .eq 5, 3) := by decide +kernel
theorem dL_law_522 : decode cL_law 522 = .ok (.iconst 0, 1) := by decide +kernel
theorem dL_law_523 : decode cL_law 523 = .ok (.ireturn, 1) := by decide +kernel
theorem dL_law_524 : decode cL_law 524 = .ok (.iload 5, 2) := by decide +kernel
theorem dL_law_526 : decode cL_law 526 = .ok (.ifCond .ne 15, 3) := by decide +kernel
theorem dL_law_529 : decode cL_law 529 = .ok (.aload_n 3, 1) := by decide +kernel
theorem dL_law_530 : decode cL_law 530 = .ok (.iconst 0, 1) := by decide +kernel
theorem dL_law_531 : decode cL_law 531 = .ok (.laload, 1) := by decide +kernel
theorem dL_law_532 : decode cL_law 532 = .ok (.iload 6, 2) := by decide +kernel
theorem dL_law_534 : decode cL_law 534 = .ok (.i2l, 1) := by decide +kernel
theorem dL_law_535 : decode cL_law 535 = .ok (.lcmp, 1) := by decide +kernel
theorem dL_law_536 : decode cL_law 536 = .ok (.ifCond .eq 5, 3) := by decide +kernel
theorem dL_law_539 : decode cL_law 539 = .ok (.iconst 0, 1) := by decide +kernel
theorem dL_law_540 : decode cL_law 540 = .ok (.ireturn, 1) := by decide +kernel
theorem dL_law_541 : decode cL_law 541 = .ok (.goto 537, 3) := by decide +kernel
theorem dL_law_544 : decode cL_law 544 = .ok (.aload_n 1, 1) := by decide +kernel
theorem dL_law_545 : decode cL_law 545 = .ok (.invokevirtual 97, 3) := by decide +kernel
theorem dL_law_548 : decode cL_law 548 = .ok (.aload_n 2, 1) := by decide +kernel
theorem dL_law_549 : decode cL_law 549 = .ok (.invokevirtual 100, 3) := by decide +kernel
theorem dL_law_552 : decode cL_law 552 = .ok (.if_icmp .eq 526, 3) := by decide +kernel
theorem dL_law_555 : decode cL_law 555 = .ok (.iconst 0, 1) := by decide +kernel
theorem dL_law_556 : decode cL_law 556 = .ok (.ireturn, 1) := by decide +kernel
theorem dL_law_557 : decode cL_law 557 = .ok (.aload_n 1, 1) := by decide +kernel
theorem dL_law_558 : decode cL_law 558 = .ok (.aload_n 0, 1) := by decide +kernel
theorem dL_law_559 : decode cL_law 559 = .ok (.iload 4, 2) := by decide +kernel
theorem dL_law_561 : decode cL_law 561 = .ok (.iconst 1, 1) := by decide +kernel
theorem dL_law_562 : decode cL_law 562 = .ok (.iadd, 1) := by decide +kernel
theorem dL_law_563 : decode cL_law 563 = .ok (.iaload, 1) := by decide +kernel
theorem dL_law_564 : decode cL_law 564 = .ok (.aload_n 3, 1) := by decide +kernel
theorem dL_law_565 : decode cL_law 565 = .ok (.invokestatic 101, 3) := by decide +kernel
theorem dL_law_568 : decode cL_law 568 = .ok (.istore 5, 2) := by decide +kernel
theorem dL_law_570 : decode cL_law 570 = .ok (.aload_n 2, 1) := by decide +kernel
theorem dL_law_571 : decode cL_law 571 = .ok (.aload_n 0, 1) := by decide +kernel
theorem dL_law_572 : decode cL_law 572 = .ok (.iload 4, 2) := by decide +kernel
theorem dL_law_574 : decode cL_law 574 = .ok (.iconst 1, 1) := by decide +kernel
theorem dL_law_575 : decode cL_law 575 = .ok (.iadd, 1) := by decide +kernel
theorem dL_law_576 : decode cL_law 576 = .ok (.iaload, 1) := by decide +kernel
theorem dL_law_577 : decode cL_law 577 = .ok (.invokevirtual 104, 3) := by decide +kernel
theorem dL_law_580 : decode cL_law 580 = .ok (.istore 6, 2) := by decide +kernel
theorem dL_law_582 : decode cL_law 582 = .ok (.aload_n 2, 1) := by decide +kernel
theorem dL_law_583 : decode cL_law 583 = .ok (.invokevirtual 75, 3) := by decide +kernel
theorem dL_law_586 : decode cL_law 586 = .ok (.iload 5, 2) := by decide +kernel
theorem dL_law_588 : decode cL_law 588 = .ok (.if_icmp .eq 5, 3) := by decide +kernel
theorem dL_law_591 : decode cL_law 591 = .ok (.iconst 0, 1) := by decide +kernel
theorem dL_law_592 : decode cL_law 592 = .ok (.ireturn, 1) := by decide +kernel
end
section
theorem dL_law_593 : decode cL_law 593 = .ok (.iload 5, 2) := by decide +kernel
theorem dL_law_595 : decode cL_law 595 = .ok (.ifCond .ne 15, 3) := by decide +kernel
theorem dL_law_598 : decode cL_law 598 = .ok (.aload_n 3, 1) := by decide +kernel
theorem dL_law_599 : decode cL_law 599 = .ok (.iconst 0, 1) := by decide +kernel
theorem dL_law_600 : decode cL_law 600 = .ok (.laload, 1) := by decide +kernel
theorem dL_law_601 : decode cL_law 601 = .ok (.iload 6, 2) := by decide +kernel
theorem dL_law_603 : decode cL_law 603 = .ok (.i2l, 1) := by decide +kernel
theorem dL_law_604 : decode cL_law 604 = .ok (.lcmp, 1) := by decide +kernel
theorem dL_law_605 : decode cL_law 605 = .ok (.ifCond .eq 5, 3) := by decide +kernel
theorem dL_law_608 : decode cL_law 608 = .ok (.iconst 0, 1) := by decide +kernel
theorem dL_law_609 : decode cL_law 609 = .ok (.ireturn, 1) := by decide +kernel
theorem dL_law_610 : decode cL_law 610 = .ok (.goto 468, 3) := by decide +kernel
theorem dL_law_613 : decode cL_law 613 = .ok (.aload_n 1, 1) := by decide +kernel
theorem dL_law_614 : decode cL_law 614 = .ok (.invokevirtual 105, 3) := by decide +kernel
theorem dL_law_617 : decode cL_law 617 = .ok (.aload_n 2, 1) := by decide +kernel
theorem dL_law_618 : decode cL_law 618 = .ok (.invokevirtual 108, 3) := by decide +kernel
theorem dL_law_621 : decode cL_law 621 = .ok (.if_icmp .eq 457, 3) := by decide +kernel
theorem dL_law_624 : decode cL_law 624 = .ok (.iconst 0, 1) := by decide +kernel
theorem dL_law_625 : decode cL_law 625 = .ok (.ireturn, 1) := by decide +kernel
theorem dL_law_626 : decode cL_law 626 = .ok (.aload_n 1, 1) := by decide +kernel
theorem dL_law_627 : decode cL_law 627 = .ok (.aload_n 0, 1) := by decide +kernel
theorem dL_law_628 : decode cL_law 628 = .ok (.iload 4, 2) := by decide +kernel
theorem dL_law_630 : decode cL_law 630 = .ok (.iconst 1, 1) := by decide +kernel
theorem dL_law_631 : decode cL_law 631 = .ok (.iadd, 1) := by decide +kernel
theorem dL_law_632 : decode cL_law 632 = .ok (.iaload, 1) := by decide +kernel
theorem dL_law_633 : decode cL_law 633 = .ok (.aload_n 3, 1) := by decide +kernel
theorem dL_law_634 : decode cL_law 634 = .ok (.invokestatic 109, 3) := by decide +kernel
theorem dL_law_637 : decode cL_law 637 = .ok (.istore 5, 2) := by decide +kernel
theorem dL_law_639 : decode cL_law 639 = .ok (.aload_n 2, 1) := by decide +kernel
theorem dL_law_640 : decode cL_law 640 = .ok (.aload_n 0, 1) := by decide +kernel
theorem dL_law_641 : decode cL_law 641 = .ok (.iload 4, 2) := by decide +kernel
theorem dL_law_643 : decode cL_law 643 = .ok (.iconst 1, 1) := by decide +kernel
theorem dL_law_644 : decode cL_law 644 = .ok (.iadd, 1) := by decide +kernel
theorem dL_law_645 : decode cL_law 645 = .ok (.iaload, 1) := by decide +kernel
theorem dL_law_646 : decode cL_law 646 = .ok (.invokevirtual 111, 3) := by decide +kernel
theorem dL_law_649 : decode cL_law 649 = .ok (.istore 6, 2) := by decide +kernel
theorem dL_law_651 : decode cL_law 651 = .ok (.aload_n 2, 1) := by decide +kernel
theorem dL_law_652 : decode cL_law 652 = .ok (.invokevirtual 75, 3) := by decide +kernel
theorem dL_law_655 : decode cL_law 655 = .ok (.iload 5, 2) := by decide +kernel
theorem dL_law_657 : decode cL_law 657 = .ok (.if_icmp .eq 5, 3) := by decide +kernel
theorem dL_law_660 : decode cL_law 660 = .ok (.iconst 0, 1) := by decide +kernel
theorem dL_law_661 : decode cL_law 661 = .ok (.ireturn, 1) := by decide +kernel
theorem dL_law_662 : decode cL_law 662 = .ok (.iload 5, 2) := by decide +kernel
theorem dL_law_664 : decode cL_law 664 = .ok (.ifCond .ne 15, 3) := by decide +kernel
theorem dL_law_667 : decode cL_law 667 = .ok (.aload_n 3, 1) := by decide +kernel
theorem dL_law_668 : decode cL_law 668 = .ok (.iconst 0, 1) := by decide +kernel
theorem dL_law_669 : decode cL_law 669 = .ok (.laload, 1) := by decide +kernel
theorem dL_law_670 : decode cL_law 670 = .ok (.iload 6, 2) := by decide +kernel
theorem dL_law_672 : decode cL_law 672 = .ok (.i2l, 1) := by decide +kernel
theorem dL_law_673 : decode cL_law 673 = .ok (.lcmp, 1) := by decide +kernel
theorem dL_law_674 : decode cL_law 674 = .ok (.ifCond .eq 5, 3) := by decide +kernel
theorem dL_law_677 : decode cL_law 677 = .ok (.iconst 0, 1) := by decide +kernel
theorem dL_law_678 : decode cL_law 678 = .ok (.ireturn, 1) := by decide +kernel
theorem dL_law_679 : decode cL_law 679 = .ok (.goto 399, 3) := by decide +kernel
theorem dL_law_682 : decode cL_law 682 = .ok (.aload_n 1, 1) := by decide +kernel
theorem dL_law_683 : decode cL_law 683 = .ok (.aload_n 0, 1) := by decide +kernel
theorem dL_law_684 : decode cL_law 684 = .ok (.iload 4, 2) := by decide +kernel
theorem dL_law_686 : decode cL_law 686 = .ok (.iconst 1, 1) := by decide +kernel
theorem dL_law_687 : decode cL_law 687 = .ok (.iadd, 1) := by decide +kernel
theorem dL_law_688 : decode cL_law 688 = .ok (.iaload, 1) := by decide +kernel
theorem dL_law_689 : decode cL_law 689 = .ok (.aload_n 0, 1) := by decide +kernel
theorem dL_law_690 : decode cL_law 690 = .ok (.iload 4, 2) := by decide +kernel
theorem dL_law_692 : decode cL_law 692 = .ok (.iconst 2, 1) := by decide +kernel
theorem dL_law_693 : decode cL_law 693 = .ok (.iadd, 1) := by decide +kernel
theorem dL_law_694 : decode cL_law 694 = .ok (.iaload, 1) := by decide +kernel
theorem dL_law_695 : decode cL_law 695 = .ok (.aload_n 0, 1) := by decide +kernel
theorem dL_law_696 : decode cL_law 696 = .ok (.iload 4, 2) := by decide +kernel
theorem dL_law_698 : decode cL_law 698 = .ok (.iconst 3, 1) := by decide +kernel
theorem dL_law_699 : decode cL_law 699 = .ok (.iadd, 1) := by decide +kernel
theorem dL_law_700 : decode cL_law 700 = .ok (.iaload, 1) := by decide +kernel
theorem dL_law_701 : decode cL_law 701 = .ok (.aload_n 3, 1) := by decide +kernel
theorem dL_law_702 : decode cL_law 702 = .ok (.invokestatic 112, 3) := by decide +kernel
theorem dL_law_705 : decode cL_law 705 = .ok (.istore 5, 2) := by decide +kernel
theorem dL_law_707 : decode cL_law 707 = .ok (.aload_n 2, 1) := by decide +kernel
theorem dL_law_708 : decode cL_law 708 = .ok (.aload_n 0, 1) := by decide +kernel
theorem dL_law_709 : decode cL_law 709 = .ok (.iload 4, 2) := by decide +kernel
theorem dL_law_711 : decode cL_law 711 = .ok (.iconst 1, 1) := by decide +kernel
theorem dL_law_712 : decode cL_law 712 = .ok (.iadd, 1) := by decide +kernel
theorem dL_law_713 : decode cL_law 713 = .ok (.iaload, 1) := by decide +kernel
theorem dL_law_714 : decode cL_law 714 = .ok (.aload_n 0, 1) := by decide +kernel
theorem dL_law_715 : decode cL_law 715 = .ok (.iload 4, 2) := by decide +kernel
theorem dL_law_717 : decode cL_law 717 = .ok (.iconst 2, 1) := by decide +kernel
theorem dL_law_718 : decode cL_law 718 = .ok (.iadd, 1) := by decide +kernel
theorem dL_law_719 : decode cL_law 719 = .ok (.iaload, 1) := by decide +kernel
theorem dL_law_720 : decode cL_law 720 = .ok (.aload_n 0, 1) := by decide +kernel
theorem dL_law_721 : decode cL_law 721 = .ok (.iload 4, 2) := by decide +kernel
theorem dL_law_723 : decode cL_law 723 = .ok (.iconst 3, 1) := by decide +kernel
theorem dL_law_724 : decode cL_law 724 = .ok (.iadd, 1) := by decide +kernel
theorem dL_law_725 : decode cL_law 725 = .ok (.iaload, 1) := by decide +kernel
theorem dL_law_726 : decode cL_law 726 = .ok (.invokevirtual 114, 3) := by decide +kernel
theorem dL_law_729 : decode cL_law 729 = .ok (.istore 6, 2) := by decide +kernel
theorem dL_law_731 : decode cL_law 731 = .ok (.aload_n 2, 1) := by decide +kernel
theorem dL_law_732 : decode cL_law 732 = .ok (.invokevirtual 75, 3) := by decide +kernel
theorem dL_law_735 : decode cL_law 735 = .ok (.iload 5, 2) := by decide +kernel
theorem dL_law_737 : decode cL_law 737 = .ok (.if_icmp .eq 5, 3) := by decide +kernel
theorem dL_law_740 : decode cL_law 740 = .ok (.iconst 0, 1) := by decide +kernel
theorem dL_law_741 : decode cL_law 741 = .ok (.ireturn, 1) := by decide +kernel
theorem dL_law_742 : decode cL_law 742 = .ok (.iload 5, 2) := by decide +kernel
theorem dL_law_744 : decode cL_law 744 = .ok (.ifCond .ne 15, 3) := by decide +kernel
theorem dL_law_747 : decode cL_law 747 = .ok (.aload_n 3, 1) := by decide +kernel
theorem dL_law_748 : decode cL_law 748 = .ok (.iconst 0, 1) := by decide +kernel
theorem dL_law_749 : decode cL_law 749 = .ok (.laload, 1) := by decide +kernel
theorem dL_law_750 : decode cL_law 750 = .ok (.iload 6, 2) := by decide +kernel
theorem dL_law_752 : decode cL_law 752 = .ok (.i2l, 1) := by decide +kernel
theorem dL_law_753 : decode cL_law 753 = .ok (.lcmp, 1) := by decide +kernel
theorem dL_law_754 : decode cL_law 754 = .ok (.ifCond .eq 5, 3) := by decide +kernel
theorem dL_law_757 : decode cL_law 757 = .ok (.iconst 0, 1) := by decide +kernel
theorem dL_law_758 : decode cL_law 758 = .ok (.ireturn, 1) := by decide +kernel
theorem dL_law_759 : decode cL_law 759 = .ok (.goto 319, 3) := by decide +kernel
theorem dL_law_762 : decode cL_law 762 = .ok (.aload_n 1, 1) := by decide +kernel
theorem dL_law_763 : decode cL_law 763 = .ok (.aload_n 0, 1) := by decide +kernel
theorem dL_law_764 : decode cL_law 764 = .ok (.iload 4, 2) := by decide +kernel
theorem dL_law_766 : decode cL_law 766 = .ok (.iconst 1, 1) := by decide +kernel
theorem dL_law_767 : decode cL_law 767 = .ok (.iadd, 1) := by decide +kernel
theorem dL_law_768 : decode cL_law 768 = .ok (.iaload, 1) := by decide +kernel
theorem dL_law_769 : decode cL_law 769 = .ok (.aload_n 0, 1) := by decide +kernel
theorem dL_law_770 : decode cL_law 770 = .ok (.iload 4, 2) := by decide +kernel
theorem dL_law_772 : decode cL_law 772 = .ok (.iconst 2, 1) := by decide +kernel
theorem dL_law_773 : decode cL_law 773 = .ok (.iadd, 1) := by decide +kernel
theorem dL_law_774 : decode cL_law 774 = .ok (.iaload, 1) := by decide +kernel
theorem dL_law_775 : decode cL_law 775 = .ok (.aload_n 3, 1) := by decide +kernel
theorem dL_law_776 : decode cL_law 776 = .ok (.invokestatic 115, 3) := by decide +kernel
theorem dL_law_779 : decode cL_law 779 = .ok (.istore 5, 2) := by decide +kernel
theorem dL_law_781 : decode cL_law 781 = .ok (.aload_n 2, 1) := by decide +kernel
theorem dL_law_782 : decode cL_law 782 = .ok (.aload_n 0, 1) := by decide +kernel
theorem dL_law_783 : decode cL_law 783 = .ok (.iload 4, 2) := by decide +kernel
theorem dL_law_785 : decode cL_law 785 = .ok (.iconst 1, 1) := by decide +kernel
theorem dL_law_786 : decode cL_law 786 = .ok (.iadd, 1) := by decide +kernel
theorem dL_law_787 : decode cL_law 787 = .ok (.iaload, 1) := by decide +kernel
theorem dL_law_788 : decode cL_law 788 = .ok (.aload_n 0, 1) := by decide +kernel
theorem dL_law_789 : decode cL_law 789 = .ok (.iload 4, 2) := by decide +kernel
theorem dL_law_791 : decode cL_law 791 = .ok (.iconst 2, 1) := by decide +kernel
theorem dL_law_792 : decode cL_law 792 = .ok (.iadd, 1) := by decide +kernel
theorem dL_law_793 : decode cL_law 793 = .ok (.iaload, 1) := by decide +kernel
theorem dL_law_794 : decode cL_law 794 = .ok (.invokevirtual 117, 3) := by decide +kernel
theorem dL_law_797 : decode cL_law 797 = .ok (.istore 6, 2) := by decide +kernel
theorem dL_law_799 : decode cL_law 799 = .ok (.aload_n 2, 1) := by decide +kernel
theorem dL_law_800 : decode cL_law 800 = .ok (.invokevirtual 75, 3) := by decide +kernel
theorem dL_law_803 : decode cL_law 803 = .ok (.iload 5, 2) := by decide +kernel
theorem dL_law_805 : decode cL_law 805 = .ok (.if_icmp .eq 5, 3) := by decide +kernel
theorem dL_law_808 : decode cL_law 808 = .ok (.iconst 0, 1) := by decide +kernel
theorem dL_law_809 : decode cL_law 809 = .ok (.ireturn, 1) := by decide +kernel
theorem dL_law_810 : decode cL_law 810 = .ok (.iload 5, 2) := by decide +kernel
theorem dL_law_812 : decode cL_law 812 = .ok (.ifCond .ne 15, 3) := by decide +kernel
theorem dL_law_815 : decode cL_law 815 = .ok (.aload_n 3, 1) := by decide +kernel
theorem dL_law_816 : decode cL_law 816 = .ok (.iconst 0, 1) := by decide +kernel
theorem dL_law_817 : decode cL_law 817 = .ok (.laload, 1) := by decide +kernel
theorem dL_law_818 : decode cL_law 818 = .ok (.iload 6, 2) := by decide +kernel
theorem dL_law_820 : decode cL_law 820 = .ok (.i2l, 1) := by decide +kernel
theorem dL_law_821 : decode cL_law 821 = .ok (.lcmp, 1) := by decide +kernel
theorem dL_law_822 : decode cL_law 822 = .ok (.ifCond .eq 5, 3) := by decide +kernel
theorem dL_law_825 : decode cL_law 825 = .ok (.iconst 0, 1) := by decide +kernel
theorem dL_law_826 : decode cL_law 826 = .ok (.ireturn, 1) := by decide +kernel
theorem dL_law_827 : decode cL_law 827 = .ok (.goto 251, 3) := by decide +kernel
theorem dL_law_830 : decode cL_law 830 = .ok (.aload_n 1, 1) := by decide +kernel
theorem dL_law_831 : decode cL_law 831 = .ok (.aload_n 0, 1) := by decide +kernel
theorem dL_law_832 : decode cL_law 832 = .ok (.iload 4, 2) := by decide +kernel
theorem dL_law_834 : decode cL_law 834 = .ok (.iconst 1, 1) := by decide +kernel
theorem dL_law_835 : decode cL_law 835 = .ok (.iadd, 1) := by decide +kernel
theorem dL_law_836 : decode cL_law 836 = .ok (.iaload, 1) := by decide +kernel
theorem dL_law_837 : decode cL_law 837 = .ok (.aload_n 0, 1) := by decide +kernel
theorem dL_law_838 : decode cL_law 838 = .ok (.iload 4, 2) := by decide +kernel
theorem dL_law_840 : decode cL_law 840 = .ok (.iconst 2, 1) := by decide +kernel
theorem dL_law_841 : decode cL_law 841 = .ok (.iadd, 1) := by decide +kernel
theorem dL_law_842 : decode cL_law 842 = .ok (.iaload, 1) := by decide +kernel
theorem dL_law_843 : decode cL_law 843 = .ok (.aload_n 3, 1) := by decide +kernel
theorem dL_law_844 : decode cL_law 844 = .ok (.invokestatic 118, 3) := by decide +kernel
theorem dL_law_847 : decode cL_law 847 = .ok (.istore 5, 2) := by decide +kernel
theorem dL_law_849 : decode cL_law 849 = .ok (.aload_n 2, 1) := by decide +kernel
theorem dL_law_850 : decode cL_law 850 = .ok (.aload_n 0, 1) := by decide +kernel
end
section
theorem dL_law_851 : decode cL_law 851 = .ok (.iload 4, 2) := by decide +kernel
theorem dL_law_853 : decode cL_law 853 = .ok (.iconst 1, 1) := by decide +kernel
theorem dL_law_854 : decode cL_law 854 = .ok (.iadd, 1) := by decide +kernel
theorem dL_law_855 : decode cL_law 855 = .ok (.iaload, 1) := by decide +kernel
theorem dL_law_856 : decode cL_law 856 = .ok (.aload_n 0, 1) := by decide +kernel
theorem dL_law_857 : decode cL_law 857 = .ok (.iload 4, 2) := by decide +kernel
theorem dL_law_859 : decode cL_law 859 = .ok (.iconst 2, 1) := by decide +kernel
theorem dL_law_860 : decode cL_law 860 = .ok (.iadd, 1) := by decide +kernel
theorem dL_law_861 : decode cL_law 861 = .ok (.iaload, 1) := by decide +kernel
theorem dL_law_862 : decode cL_law 862 = .ok (.invokevirtual 120, 3) := by decide +kernel
theorem dL_law_865 : decode cL_law 865 = .ok (.istore 6, 2) := by decide +kernel
theorem dL_law_867 : decode cL_law 867 = .ok (.aload_n 2, 1) := by decide +kernel
theorem dL_law_868 : decode cL_law 868 = .ok (.invokevirtual 75, 3) := by decide +kernel
theorem dL_law_871 : decode cL_law 871 = .ok (.iload 5, 2) := by decide +kernel
theorem dL_law_873 : decode cL_law 873 = .ok (.if_icmp .eq 5, 3) := by decide +kernel
theorem dL_law_876 : decode cL_law 876 = .ok (.iconst 0, 1) := by decide +kernel
theorem dL_law_877 : decode cL_law 877 = .ok (.ireturn, 1) := by decide +kernel
theorem dL_law_878 : decode cL_law 878 = .ok (.iload 5, 2) := by decide +kernel
theorem dL_law_880 : decode cL_law 880 = .ok (.ifCond .ne 15, 3) := by decide +kernel
theorem dL_law_883 : decode cL_law 883 = .ok (.aload_n 3, 1) := by decide +kernel
theorem dL_law_884 : decode cL_law 884 = .ok (.iconst 0, 1) := by decide +kernel
theorem dL_law_885 : decode cL_law 885 = .ok (.laload, 1) := by decide +kernel
theorem dL_law_886 : decode cL_law 886 = .ok (.iload 6, 2) := by decide +kernel
theorem dL_law_888 : decode cL_law 888 = .ok (.i2l, 1) := by decide +kernel
theorem dL_law_889 : decode cL_law 889 = .ok (.lcmp, 1) := by decide +kernel
theorem dL_law_890 : decode cL_law 890 = .ok (.ifCond .eq 5, 3) := by decide +kernel
theorem dL_law_893 : decode cL_law 893 = .ok (.iconst 0, 1) := by decide +kernel
theorem dL_law_894 : decode cL_law 894 = .ok (.ireturn, 1) := by decide +kernel
theorem dL_law_895 : decode cL_law 895 = .ok (.goto 183, 3) := by decide +kernel
theorem dL_law_898 : decode cL_law 898 = .ok (.aload_n 1, 1) := by decide +kernel
theorem dL_law_899 : decode cL_law 899 = .ok (.aload_n 0, 1) := by decide +kernel
theorem dL_law_900 : decode cL_law 900 = .ok (.iload 4, 2) := by decide +kernel
theorem dL_law_902 : decode cL_law 902 = .ok (.iconst 1, 1) := by decide +kernel
theorem dL_law_903 : decode cL_law 903 = .ok (.iadd, 1) := by decide +kernel
theorem dL_law_904 : decode cL_law 904 = .ok (.iaload, 1) := by decide +kernel
theorem dL_law_905 : decode cL_law 905 = .ok (.aload_n 3, 1) := by decide +kernel
theorem dL_law_906 : decode cL_law 906 = .ok (.invokestatic 121, 3) := by decide +kernel
theorem dL_law_909 : decode cL_law 909 = .ok (.istore 5, 2) := by decide +kernel
theorem dL_law_911 : decode cL_law 911 = .ok (.aload_n 2, 1) := by decide +kernel
theorem dL_law_912 : decode cL_law 912 = .ok (.aload_n 0, 1) := by decide +kernel
theorem dL_law_913 : decode cL_law 913 = .ok (.iload 4, 2) := by decide +kernel
theorem dL_law_915 : decode cL_law 915 = .ok (.iconst 1, 1) := by decide +kernel
theorem dL_law_916 : decode cL_law 916 = .ok (.iadd, 1) := by decide +kernel
theorem dL_law_917 : decode cL_law 917 = .ok (.iaload, 1) := by decide +kernel
theorem dL_law_918 : decode cL_law 918 = .ok (.invokevirtual 123, 3) := by decide +kernel
theorem dL_law_921 : decode cL_law 921 = .ok (.istore 6, 2) := by decide +kernel
theorem dL_law_923 : decode cL_law 923 = .ok (.aload_n 2, 1) := by decide +kernel
theorem dL_law_924 : decode cL_law 924 = .ok (.invokevirtual 75, 3) := by decide +kernel
theorem dL_law_927 : decode cL_law 927 = .ok (.iload 5, 2) := by decide +kernel
theorem dL_law_929 : decode cL_law 929 = .ok (.if_icmp .eq 5, 3) := by decide +kernel
theorem dL_law_932 : decode cL_law 932 = .ok (.iconst 0, 1) := by decide +kernel
theorem dL_law_933 : decode cL_law 933 = .ok (.ireturn, 1) := by decide +kernel
theorem dL_law_934 : decode cL_law 934 = .ok (.iload 5, 2) := by decide +kernel
theorem dL_law_936 : decode cL_law 936 = .ok (.ifCond .ne 15, 3) := by decide +kernel
theorem dL_law_939 : decode cL_law 939 = .ok (.aload_n 3, 1) := by decide +kernel
theorem dL_law_940 : decode cL_law 940 = .ok (.iconst 0, 1) := by decide +kernel
theorem dL_law_941 : decode cL_law 941 = .ok (.laload, 1) := by decide +kernel
theorem dL_law_942 : decode cL_law 942 = .ok (.iload 6, 2) := by decide +kernel
theorem dL_law_944 : decode cL_law 944 = .ok (.i2l, 1) := by decide +kernel
theorem dL_law_945 : decode cL_law 945 = .ok (.lcmp, 1) := by decide +kernel
theorem dL_law_946 : decode cL_law 946 = .ok (.ifCond .eq 5, 3) := by decide +kernel
theorem dL_law_949 : decode cL_law 949 = .ok (.iconst 0, 1) := by decide +kernel
theorem dL_law_950 : decode cL_law 950 = .ok (.ireturn, 1) := by decide +kernel
theorem dL_law_951 : decode cL_law 951 = .ok (.goto 127, 3) := by decide +kernel
theorem dL_law_954 : decode cL_law 954 = .ok (.aload_n 1, 1) := by decide +kernel
theorem dL_law_955 : decode cL_law 955 = .ok (.aload_n 0, 1) := by decide +kernel
theorem dL_law_956 : decode cL_law 956 = .ok (.iload 4, 2) := by decide +kernel
theorem dL_law_958 : decode cL_law 958 = .ok (.iconst 1, 1) := by decide +kernel
theorem dL_law_959 : decode cL_law 959 = .ok (.iadd, 1) := by decide +kernel
theorem dL_law_960 : decode cL_law 960 = .ok (.iaload, 1) := by decide +kernel
theorem dL_law_961 : decode cL_law 961 = .ok (.aload_n 0, 1) := by decide +kernel
theorem dL_law_962 : decode cL_law 962 = .ok (.iload 4, 2) := by decide +kernel
theorem dL_law_964 : decode cL_law 964 = .ok (.iconst 2, 1) := by decide +kernel
theorem dL_law_965 : decode cL_law 965 = .ok (.iadd, 1) := by decide +kernel
theorem dL_law_966 : decode cL_law 966 = .ok (.iaload, 1) := by decide +kernel
theorem dL_law_967 : decode cL_law 967 = .ok (.aload_n 3, 1) := by decide +kernel
theorem dL_law_968 : decode cL_law 968 = .ok (.invokestatic 124, 3) := by decide +kernel
theorem dL_law_971 : decode cL_law 971 = .ok (.istore 5, 2) := by decide +kernel
theorem dL_law_973 : decode cL_law 973 = .ok (.aload_n 2, 1) := by decide +kernel
theorem dL_law_974 : decode cL_law 974 = .ok (.aload_n 0, 1) := by decide +kernel
theorem dL_law_975 : decode cL_law 975 = .ok (.iload 4, 2) := by decide +kernel
theorem dL_law_977 : decode cL_law 977 = .ok (.iconst 1, 1) := by decide +kernel
theorem dL_law_978 : decode cL_law 978 = .ok (.iadd, 1) := by decide +kernel
theorem dL_law_979 : decode cL_law 979 = .ok (.iaload, 1) := by decide +kernel
theorem dL_law_980 : decode cL_law 980 = .ok (.aload_n 0, 1) := by decide +kernel
theorem dL_law_981 : decode cL_law 981 = .ok (.iload 4, 2) := by decide +kernel
theorem dL_law_983 : decode cL_law 983 = .ok (.iconst 2, 1) := by decide +kernel
theorem dL_law_984 : decode cL_law 984 = .ok (.iadd, 1) := by decide +kernel
theorem dL_law_985 : decode cL_law 985 = .ok (.iaload, 1) := by decide +kernel
theorem dL_law_986 : decode cL_law 986 = .ok (.invokevirtual 126, 3) := by decide +kernel
theorem dL_law_989 : decode cL_law 989 = .ok (.istore 6, 2) := by decide +kernel
theorem dL_law_991 : decode cL_law 991 = .ok (.aload_n 2, 1) := by decide +kernel
theorem dL_law_992 : decode cL_law 992 = .ok (.invokevirtual 75, 3) := by decide +kernel
theorem dL_law_995 : decode cL_law 995 = .ok (.iload 5, 2) := by decide +kernel
theorem dL_law_997 : decode cL_law 997 = .ok (.if_icmp .eq 5, 3) := by decide +kernel
theorem dL_law_1000 : decode cL_law 1000 = .ok (.iconst 0, 1) := by decide +kernel
theorem dL_law_1001 : decode cL_law 1001 = .ok (.ireturn, 1) := by decide +kernel
theorem dL_law_1002 : decode cL_law 1002 = .ok (.iload 5, 2) := by decide +kernel
theorem dL_law_1004 : decode cL_law 1004 = .ok (.ifCond .ne 15, 3) := by decide +kernel
theorem dL_law_1007 : decode cL_law 1007 = .ok (.aload_n 3, 1) := by decide +kernel
theorem dL_law_1008 : decode cL_law 1008 = .ok (.iconst 0, 1) := by decide +kernel
theorem dL_law_1009 : decode cL_law 1009 = .ok (.laload, 1) := by decide +kernel
theorem dL_law_1010 : decode cL_law 1010 = .ok (.iload 6, 2) := by decide +kernel
theorem dL_law_1012 : decode cL_law 1012 = .ok (.i2l, 1) := by decide +kernel
theorem dL_law_1013 : decode cL_law 1013 = .ok (.lcmp, 1) := by decide +kernel
theorem dL_law_1014 : decode cL_law 1014 = .ok (.ifCond .eq 5, 3) := by decide +kernel
theorem dL_law_1017 : decode cL_law 1017 = .ok (.iconst 0, 1) := by decide +kernel
theorem dL_law_1018 : decode cL_law 1018 = .ok (.ireturn, 1) := by decide +kernel
theorem dL_law_1019 : decode cL_law 1019 = .ok (.goto 59, 3) := by decide +kernel
theorem dL_law_1022 : decode cL_law 1022 = .ok (.aload_n 1, 1) := by decide +kernel
theorem dL_law_1023 : decode cL_law 1023 = .ok (.aload_n 0, 1) := by decide +kernel
theorem dL_law_1024 : decode cL_law 1024 = .ok (.iload 4, 2) := by decide +kernel
theorem dL_law_1026 : decode cL_law 1026 = .ok (.iconst 1, 1) := by decide +kernel
theorem dL_law_1027 : decode cL_law 1027 = .ok (.iadd, 1) := by decide +kernel
theorem dL_law_1028 : decode cL_law 1028 = .ok (.iaload, 1) := by decide +kernel
theorem dL_law_1029 : decode cL_law 1029 = .ok (.aload_n 3, 1) := by decide +kernel
theorem dL_law_1030 : decode cL_law 1030 = .ok (.invokestatic 127, 3) := by decide +kernel
theorem dL_law_1033 : decode cL_law 1033 = .ok (.istore 5, 2) := by decide +kernel
theorem dL_law_1035 : decode cL_law 1035 = .ok (.aload_n 2, 1) := by decide +kernel
theorem dL_law_1036 : decode cL_law 1036 = .ok (.aload_n 0, 1) := by decide +kernel
theorem dL_law_1037 : decode cL_law 1037 = .ok (.iload 4, 2) := by decide +kernel
theorem dL_law_1039 : decode cL_law 1039 = .ok (.iconst 1, 1) := by decide +kernel
theorem dL_law_1040 : decode cL_law 1040 = .ok (.iadd, 1) := by decide +kernel
theorem dL_law_1041 : decode cL_law 1041 = .ok (.iaload, 1) := by decide +kernel
theorem dL_law_1042 : decode cL_law 1042 = .ok (.invokevirtual 129, 3) := by decide +kernel
theorem dL_law_1045 : decode cL_law 1045 = .ok (.istore 6, 2) := by decide +kernel
theorem dL_law_1047 : decode cL_law 1047 = .ok (.aload_n 2, 1) := by decide +kernel
theorem dL_law_1048 : decode cL_law 1048 = .ok (.invokevirtual 75, 3) := by decide +kernel
theorem dL_law_1051 : decode cL_law 1051 = .ok (.iload 5, 2) := by decide +kernel
theorem dL_law_1053 : decode cL_law 1053 = .ok (.if_icmp .eq 5, 3) := by decide +kernel
theorem dL_law_1056 : decode cL_law 1056 = .ok (.iconst 0, 1) := by decide +kernel
theorem dL_law_1057 : decode cL_law 1057 = .ok (.ireturn, 1) := by decide +kernel
theorem dL_law_1058 : decode cL_law 1058 = .ok (.iload 5, 2) := by decide +kernel
theorem dL_law_1060 : decode cL_law 1060 = .ok (.ifCond .ne 15, 3) := by decide +kernel
theorem dL_law_1063 : decode cL_law 1063 = .ok (.aload_n 3, 1) := by decide +kernel
theorem dL_law_1064 : decode cL_law 1064 = .ok (.iconst 0, 1) := by decide +kernel
theorem dL_law_1065 : decode cL_law 1065 = .ok (.laload, 1) := by decide +kernel
theorem dL_law_1066 : decode cL_law 1066 = .ok (.iload 6, 2) := by decide +kernel
theorem dL_law_1068 : decode cL_law 1068 = .ok (.i2l, 1) := by decide +kernel
theorem dL_law_1069 : decode cL_law 1069 = .ok (.lcmp, 1) := by decide +kernel
theorem dL_law_1070 : decode cL_law 1070 = .ok (.ifCond .eq 5, 3) := by decide +kernel
theorem dL_law_1073 : decode cL_law 1073 = .ok (.iconst 0, 1) := by decide +kernel
theorem dL_law_1074 : decode cL_law 1074 = .ok (.ireturn, 1) := by decide +kernel
theorem dL_law_1075 : decode cL_law 1075 = .ok (.goto 3, 3) := by decide +kernel
theorem dL_law_1078 : decode cL_law 1078 = .ok (.iinc 4 5, 3) := by decide +kernel
theorem dL_law_1081 : decode cL_law 1081 = .ok (.goto (-1058), 3) := by decide +kernel
theorem dL_law_1084 : decode cL_law 1084 = .ok (.iconst 1, 1) := by decide +kernel
theorem dL_law_1085 : decode cL_law 1085 = .ok (.ireturn, 1) := by decide +kernel
end
section
/-! THE STATE: int fields and int rows by keys; a loop as a function; the class's world as a list of cells at fixed places behind one address -/
abbrev St : Type := (Nat → Int32) × (Nat → Nat → Int32)
def gi (S : St) (k : Nat) : Int32 := S.1 k
def ga (S : St) (k : Nat) : Nat → Int32 := S.2 k
def si (S : St) (k : Nat) (v : Int32) : St := (fun j => if j = k then v else S.1 j, S.2)
def sa (S : St) (k i : Nat) (v : Int32) : St := (S.1, fun j => if j = k then upd (S.2 j) i v else S.2 j)
theorem gi_si (S : St) (k j : Nat) (v : Int32) : gi (si S k v) j = if j = k then v else gi S j := rfl
theorem ga_si (S : St) (k j : Nat) (v : Int32) : ga (si S k v) j = ga S j := rfl
theorem gi_sa (S : St) (k i j : Nat) (v : Int32) : gi (sa S k i v) j = gi S j := rfl
theorem ga_sa (S : St) (k i j : Nat) (v : Int32) : ga (sa S k i v) j = if j = k then upd (ga S j) i v else ga S j := rfl
-- combinators
def Lp1 {α R : Type} (body : α → (α → Option R) → Option R) : Nat → α → Option R
  | 0, _ => none
  | n + 1, a => body a (Lp1 body n)
def Lp2 {α β R : Type} (body : α → β → (α → β → Option R) → Option R) : Nat → α → β → Option R
  | 0, _, _ => none
  | n + 1, a, b => body a b (Lp2 body n)
def Lp3 {α β γ R : Type} (body : α → β → γ → (α → β → γ → Option R) → Option R) : Nat → α → β → γ → Option R
  | 0, _, _, _ => none
  | n + 1, a, b, c => body a b c (Lp3 body n)
def Lp4 {α β γ δ R : Type} (body : α → β → γ → δ → (α → β → γ → δ → Option R) → Option R) : Nat → α → β → γ → δ → Option R
  | 0, _, _, _, _ => none
  | n + 1, a, b, c, d => body a b c d (Lp4 body n)
def Lp5 {α β γ δ ε R : Type} (body : α → β → γ → δ → ε → (α → β → γ → δ → ε → Option R) → Option R) : Nat → α → β → γ → δ → ε → Option R
  | 0, _, _, _, _, _ => none
  | n + 1, a, b, c, d, f => body a b c d f (Lp5 body n)
theorem Lp1_ind {α R : Type} {body : α → (α → Option R) → Option R} {r : R} {P : α → Prop} (h : ∀ (next : α → Option R) (a : α), (∀ a', next a' = some r → P a') → body a next = some r → P a) : ∀ n a, Lp1 body n a = some r → P a := by
  intro n
  induction n with
  | zero => intro a h0; cases h0
  | succ n ih => intro a h0; exact h _ a ih h0
theorem Lp2_ind {α β R : Type} {body : α → β → (α → β → Option R) → Option R} {r : R} {P : α → β → Prop} (h : ∀ (next : α → β → Option R) (a : α) (b : β), (∀ a' b', next a' b' = some r → P a' b') → body a b next = some r → P a b) : ∀ n a b, Lp2 body n a b = some r → P a b := by
  intro n
  induction n with
  | zero => intro a b h0; cases h0
  | succ n ih => intro a b h0; exact h _ a b ih h0
theorem Lp3_ind {α β γ R : Type} {body : α → β → γ → (α → β → γ → Option R) → Option R} {r : R} {P : α → β → γ → Prop} (h : ∀ (next : α → β → γ → Option R) (a : α) (b : β) (c : γ), (∀ a' b' c', next a' b' c' = some r → P a' b' c') → body a b c next = some r → P a b c) : ∀ n a b c, Lp3 body n a b c = some r → P a b c := by
  intro n
  induction n with
  | zero => intro a b c h0; cases h0
  | succ n ih => intro a b c h0; exact h _ a b c ih h0
theorem Lp4_ind {α β γ δ R : Type} {body : α → β → γ → δ → (α → β → γ → δ → Option R) → Option R} {r : R} {P : α → β → γ → δ → Prop} (h : ∀ (next : α → β → γ → δ → Option R) (a : α) (b : β) (c : γ) (d : δ), (∀ a' b' c' d', next a' b' c' d' = some r → P a' b' c' d') → body a b c d next = some r → P a b c d) : ∀ n a b c d, Lp4 body n a b c d = some r → P a b c d := by
  intro n
  induction n with
  | zero => intro a b c d h0; cases h0
  | succ n ih => intro a b c d h0; exact h _ a b c d ih h0
theorem Lp5_ind {α β γ δ ε R : Type} {body : α → β → γ → δ → ε → (α → β → γ → δ → ε → Option R) → Option R} {r : R} {P : α → β → γ → δ → ε → Prop} (h : ∀ (next : α → β → γ → δ → ε → Option R) (a : α) (b : β) (c : γ) (d : δ) (f : ε), (∀ a' b' c' d' f', next a' b' c' d' f' = some r → P a' b' c' d' f') → body a b c d f next = some r → P a b c d f) : ∀ n a b c d f, Lp5 body n a b c d f = some r → P a b c d f := by
  intro n
  induction n with
  | zero => intro a b c d f h0; cases h0
  | succ n ih => intro a b c d f h0; exact h _ a b c d f ih h0
def jn {α R : Type} (k : α) (body : α → Option R) : Option R := body k
theorem jn_some {α R : Type} {k : α} {body : α → Option R} {r : R} (h : jn k body = some r) : ∃ J, J = k ∧ body J = some r := ⟨k, rfl, h⟩
theorem ite_t {c : Prop} {d : Decidable c} {R : Type} {a b : Option R} {r : R} (h : c) (hf : @ite _ c d a b = some r) : a = some r := by rwa [if_pos h] at hf
theorem ite_f {c : Prop} {d : Decidable c} {R : Type} {a b : Option R} {r : R} (h : ¬ c) (hf : @ite _ c d a b = some r) : b = some r := by rwa [if_neg h] at hf
def ck {R : Type} (i : Int32) (n : Nat) (k : Option R) : Option R := if i < 0 ∨ n ≤ i.toNatClampNeg then none else k
theorem ck_some {R : Type} {i : Int32} {n : Nat} {k : Option R} {r : R} (h : ck i n k = some r) : vp_in i n ∧ k = some r := by
  unfold ck at h
  split at h
  · cases h
  · rename_i q
    exact ⟨q, h⟩
def nz {R : Type} (y : Int32) (k : Option R) : Option R := if y = 0 then none else k
theorem nz_some {R : Type} {y : Int32} {k : Option R} {r : R} (h : nz y k = some r) : ¬ y = 0 ∧ k = some r := by
  unfold nz at h
  split at h
  · cases h
  · rename_i q
    exact ⟨q, h⟩
def bz {R : Type} (y : Int32) (k : Option R) : Option R := if y = 0 ∨ y = 1 then k else none
theorem bz_some {R : Type} {y : Int32} {k : Option R} {r : R} (h : bz y k = some r) : narrow .boolean (.int y) = .int y ∧ k = some r := by
  unfold bz at h
  split at h
  · rename_i q
    refine ⟨?_, h⟩
    rcases q with q | q <;> subst q <;> rfl
  · cases h
def cl {α R : Type} (x : Option α) (k : α → Option R) : Option R := x.bind k
theorem cl_some {α R : Type} {x : Option α} {k : α → Option R} {r : R} (h : cl x k = some r) : ∃ a, x = some a ∧ k a = some r := Option.bind_eq_some_iff.mp h
def cl2 {α β R : Type} (x : Option (α × β)) (k : α → β → Option R) : Option R := x.bind (fun q => k q.1 q.2)
theorem cl2_some {α β R : Type} {x : Option (α × β)} {k : α → β → Option R} {r : R} (h : cl2 x k = some r) : ∃ a b, x = some (a, b) ∧ k a b = some r := by
  obtain ⟨⟨a, b⟩, h1, h2⟩ := Option.bind_eq_some_iff.mp h
  exact ⟨a, b, h1, h2⟩
/-- a callee that may throw: what it threw, or what it answered -/
def cx {α R : Type} (x : Option (Nat ⊕ α)) (kt : Nat → Option R) (k : α → Option R) : Option R := x.bind (fun q => q.elim kt k)
theorem cx_some {α R : Type} {x : Option (Nat ⊕ α)} {kt : Nat → Option R} {k : α → Option R} {r : R} (h : cx x kt k = some r) : (∃ e, x = some (.inl e) ∧ kt e = some r) ∨ (∃ a, x = some (.inr a) ∧ k a = some r) := by
  obtain ⟨q, h1, h2⟩ := Option.bind_eq_some_iff.mp h
  cases q with
  | inl e => exact Or.inl ⟨e, h1, h2⟩
  | inr a => exact Or.inr ⟨a, h1, h2⟩
def exN : Nat → String
  | 1 => "java/lang/IndexOutOfBoundsException"
  | 2 => "java/lang/IllegalArgumentException"
  | 3 => "java/lang/IllegalStateException"
  | _ => "java/util/NoSuchElementException"
-- places of the class's cells
def oS (s : Nat) : Nat := 21 + 27 * s
def oT (s : Nat) : Nat := oS s + 5
def oL (s : Nat) : Nat := oS s + 18
def kdL : List Nat := [6, 1, 2,8,2,8,2,8,2,8,2,8,2,8,2,8,2,8,2,8, 10, 4,2,8,2,8,5,2,8,2,8,2,8,2,8,2,8,2,8,0,2,8,2,8,2,8,2,8, 4,2,8,2,8,5,2,8,2,8,2,8,2,8,2,8,2,8,0,2,8,2,8,2,8,2,8, 4,2,8,2,8,5,2,8,2,8,2,8,2,8,2,8,2,8,0,2,8,2,8,2,8,2,8, 4,2,8,2,8,5,2,8,2,8,2,8,2,8,2,8,2,8,0,2,8,2,8,2,8,2,8, 3,2,8,2,8,2,8]
def kd (k : Nat) : Nat := kdL.getD k 99
def nK (k : Nat) : Bool := kd k == 2
def ln (k : Nat) : Nat := if k = 132 ∨ k = 134 then 540 else 90
theorem kdL_len : kdL.length = 136 := by decide +kernel
theorem nK_lt {k : Nat} (h : nK k = true) : k + 1 < 136 ∧ kd k = 2 ∧ kd (k + 1) = 8 := by
  have h2 : kd k = 2 := by simpa [nK] using h
  have h3 : k < 136 := by
    rcases Nat.lt_or_ge k 136 with q | q
    · exact q
    · exfalso
      have : kd k = 99 := by unfold kd; rw [List.getD_eq_getElem?_getD, List.getElem?_eq_none (by rw [kdL_len]; exact q)]; rfl
      omega
  have h4 : ∀ k, k < 136 → kd k = 2 → k + 1 < 136 ∧ kd (k + 1) = 8 := by decide +kernel
  exact ⟨(h4 k h3 h2).1, h2, (h4 k h3 h2).2⟩
def cellC (cI cO : ClassId) (b : Nat) (S : St) (k : Nat) : va_E :=
  if kd k = 2 then .inr (2, [.ref (b + (k + 1)), .int (gi S k)])
  else if kd k = 8 then .inl (cI, ln (k - 1), .inl (ga S (k - 1)))
  else if kd k = 4 then .inr (4, [.ref (b + (k + 5)), .ref (b + (k + 18)), .int (nI ((k - 21) / 27)), .ref (b + (k + 1)), .ref (b + (k + 3)), .int (gi S k)])
  else if kd k = 5 then .inr (5, [.ref (b + 1), .ref (b + (k + 1)), .ref (b + (k + 3)), .ref (b + (k + 5)), .ref (b + (k + 7)), .ref (b + (k + 9)), .ref (b + (k + 11))])
  else if kd k = 0 then .inr (0, [.ref (b + 1), .ref (b + (k - 13)), .ref (b + (k + 1)), .ref (b + (k + 3)), .ref (b + (k + 5)), .ref (b + (k + 7))])
  else if kd k = 1 then .inr (1, [.ref (b + 2), .ref (b + 4), .ref (b + 6), .ref (b + 8), .ref (b + 10), .ref (b + 12), .ref (b + 14), .ref (b + 16), .ref (b + 18)])
  else if kd k = 3 then .inr (3, [.ref (b + oL 0), .ref (b + 130), .ref (b + 132), .ref (b + 134)])
  else if kd k = 6 then .inr (6, [.ref (b + 1), .ref (b + 20), .ref (b + 129)])
  else .inl (cO, 4, .inr (.inr (.inr (.inr (fun j => some (b + oS j))))))
def wC (cI cO : ClassId) (b : Nat) (S : St) : va_W := (List.range 136).map (fun k => (b + k, cellC cI cO b S k))
def AC (b : Nat) : Nat → Prop := fun q => b ≤ q ∧ q < b + 136
theorem wC_at {cI cO : ClassId} {b : Nat} {S : St} {k : Nat} (h : k < 136) : (wC cI cO b S)[k]? = some (b + k, cellC cI cO b S k) := by
  unfold wC
  rw [List.getElem?_map, List.getElem?_range h]
  rfl
theorem wC_len {cI cO : ClassId} {b : Nat} {S : St} : (wC cI cO b S).length = 136 := by simp [wC]
theorem wC_D {cI cO : ClassId} {b : Nat} {S : St} : va_D (AC b) (wC cI cO b S) := by
  have key : ∀ (k : Nat) (q : Nat × va_E), (wC cI cO b S)[k]? = some q → k < 136 ∧ q.1 = b + k := by
    intro k q h
    have hk : k < 136 := by rw [← wC_len (cI := cI) (cO := cO) (b := b) (S := S)]; exact (List.getElem?_eq_some_iff.mp h).1
    rw [wC_at hk] at h
    cases h
    exact ⟨hk, rfl⟩
  refine ⟨fun i j p q hi hj hpq => ?_, fun k q h => ?_⟩
  · have h1 := (key i p hi).2
    have h2 := (key j q hj).2
    omega
  · obtain ⟨h1, h2⟩ := key k q h
    show b ≤ q.1 ∧ q.1 < b + 136
    omega
theorem wC_N {cI cO : ClassId} {b : Nat} {S : St} {k : Nat} (h : nK k = true) : (wC cI cO b S)[k]? = some (b + k, .inr (2, [.ref (b + (k + 1)), .int (gi S k)])) := by
  obtain ⟨h1, h2, h3⟩ := nK_lt h
  rw [wC_at (by omega), cellC, if_pos h2]
theorem wC_A {cI cO : ClassId} {b : Nat} {S : St} {k : Nat} (h : nK k = true) : (wC cI cO b S)[k + 1]? = some (b + (k + 1), .inl (cI, ln k, .inl (ga S k))) := by
  obtain ⟨h1, h2, h3⟩ := nK_lt h
  rw [wC_at h1, cellC, if_neg (by omega), if_pos h3, Nat.add_sub_cancel]
theorem kd_S : ∀ s, s < 4 → kd (oS s) = 4 ∧ kd (oT s) = 5 ∧ kd (oL s) = 0 ∧ oS s < 136 ∧ oT s < 136 ∧ oL s < 136 := by decide +kernel
theorem wC_S {cI cO : ClassId} {b : Nat} {S : St} {s : Nat} (h : s < 4) : (wC cI cO b S)[oS s]? = some (b + oS s, .inr (4, [.ref (b + oT s), .ref (b + oL s), .int (nI s), .ref (b + (oS s + 1)), .ref (b + (oS s + 3)), .int (gi S (oS s))])) := by
  obtain ⟨h1, h2, h3, h4, h5, h6⟩ := kd_S s h
  have e : (oS s - 21) / 27 = s := by unfold oS; omega
  rw [wC_at h4, cellC, if_neg (by omega), if_neg (by omega), if_pos h1, e]
  rfl
theorem wC_T {cI cO : ClassId} {b : Nat} {S : St} {s : Nat} (h : s < 4) : (wC cI cO b S)[oT s]? = some (b + oT s, .inr (5, [.ref (b + 1), .ref (b + (oT s + 1)), .ref (b + (oT s + 3)), .ref (b + (oT s + 5)), .ref (b + (oT s + 7)), .ref (b + (oT s + 9)), .ref (b + (oT s + 11))])) := by
  obtain ⟨h1, h2, h3, h4, h5, h6⟩ := kd_S s h
  rw [wC_at h5, cellC, if_neg (by omega), if_neg (by omega), if_neg (by omega), if_pos h2]
theorem wC_L {cI cO : ClassId} {b : Nat} {S : St} {s : Nat} (h : s < 4) : (wC cI cO b S)[oL s]? = some (b + oL s, .inr (0, [.ref (b + 1), .ref (b + oT s), .ref (b + (oL s + 1)), .ref (b + (oL s + 3)), .ref (b + (oL s + 5)), .ref (b + (oL s + 7))])) := by
  obtain ⟨h1, h2, h3, h4, h5, h6⟩ := kd_S s h
  have e : oL s - 13 = oT s := by unfold oL oT; omega
  rw [wC_at h6, cellC, if_neg (by omega), if_neg (by omega), if_neg (by omega), if_neg (by omega), if_pos h3, e]
theorem wC_G {cI cO : ClassId} {b : Nat} {S : St} : (wC cI cO b S)[1]? = some (b + 1, .inr (1, [.ref (b + 2), .ref (b + 4), .ref (b + 6), .ref (b + 8), .ref (b + 10), .ref (b + 12), .ref (b + 14), .ref (b + 16), .ref (b + 18)])) := by
  rw [wC_at (by omega)]; rfl
theorem wC_P {cI cO : ClassId} {b : Nat} {S : St} : (wC cI cO b S)[129]? = some (b + 129, .inr (3, [.ref (b + oL 0), .ref (b + 130), .ref (b + 132), .ref (b + 134)])) := by
  rw [wC_at (by omega)]; rfl
theorem wC_M {cI cO : ClassId} {b : Nat} {S : St} : (wC cI cO b S)[0]? = some (b + 0, .inr (6, [.ref (b + 1), .ref (b + 20), .ref (b + 129)])) := by
  rw [wC_at (by omega)]; rfl
theorem wC_AA {cI cO : ClassId} {b : Nat} {S : St} : (wC cI cO b S)[20]? = some (b + 20, .inl (cO, 4, .inr (.inr (.inr (.inr (fun j => some (b + oS j))))))) := by
  rw [wC_at (by omega)]; rfl
theorem nKT : ∀ s, s < 4 → nK (oT s + 1) = true ∧ nK (oT s + 3) = true ∧ nK (oT s + 5) = true ∧ nK (oT s + 7) = true ∧ nK (oT s + 9) = true ∧ nK (oT s + 11) = true := by decide +kernel
theorem nKL : ∀ s, s < 4 → nK (oL s + 1) = true ∧ nK (oL s + 3) = true ∧ nK (oL s + 5) = true ∧ nK (oL s + 7) = true := by decide +kernel
theorem nKS : ∀ s, s < 4 → nK (oS s + 1) = true ∧ nK (oS s + 3) = true := by decide +kernel
theorem nK_S0 : ∀ s, s < 4 → ∀ j, j < 4 → nK (oS j) = false := by decide +kernel
/-- a world whose function of places agrees but at one -/
theorem wC_set {cI cO : ClassId} {b : Nat} {S S1 : St} {k : Nat} {e1 : va_E} (hk : k < 136) (h1 : cellC cI cO b S1 k = e1) (h2 : ∀ j, j ≠ k → cellC cI cO b S1 j = cellC cI cO b S j) : (wC cI cO b S).set k (b + k, e1) = wC cI cO b S1 := by
  refine List.ext_getElem? (fun j => ?_)
  by_cases hj : j = k
  · subst hj
    rw [List.getElem?_set_self (by rw [wC_len]; exact hk), wC_at hk, h1]
  · rw [List.getElem?_set_ne (Ne.symm hj)]
    by_cases hl : j < 136
    · rw [wC_at hl, wC_at hl, h2 j hj]
    · rw [List.getElem?_eq_none (by rw [wC_len]; omega), List.getElem?_eq_none (by rw [wC_len]; omega)]
theorem cellC_si {cI cO : ClassId} {b : Nat} {S : St} {k j : Nat} {v : Int32} (hj : j ≠ k) : cellC cI cO b (si S k v) j = cellC cI cO b S j := by
  unfold cellC
  rw [gi_si, if_neg hj]
  rfl
theorem cellC_sa {cI cO : ClassId} {b : Nat} {S : St} {k i j : Nat} {v : Int32} (hj : j ≠ k + 1) : cellC cI cO b (sa S k i v) j = cellC cI cO b S j := by
  unfold cellC
  have e : kd j = 8 → ga (sa S k i v) (j - 1) = ga S (j - 1) := by
    intro h8
    rw [ga_sa, if_neg]
    intro h9
    have : j ≠ 0 := by intro h0; subst h0; exact absurd h8 (by decide)
    omega
  by_cases h2 : kd j = 2
  · rw [if_pos h2, if_pos h2]; rfl
  · rw [if_neg h2, if_neg h2]
    by_cases h8 : kd j = 8
    · rw [if_pos h8, if_pos h8, e h8]
    · rw [if_neg h8, if_neg h8]; rfl
theorem wC_si {cI cO : ClassId} {b : Nat} {S : St} {k : Nat} {v : Int32} (h : nK k = true) : (wC cI cO b S).set k (b + k, .inr (2, [.ref (b + (k + 1)), .int v])) = wC cI cO b (si S k v) := by
  obtain ⟨h1, h2, h3⟩ := nK_lt h
  refine wC_set (by omega) ?_ (fun j hj => cellC_si hj)
  rw [cellC, if_pos h2, gi_si, if_pos rfl]
theorem wC_sa {cI cO : ClassId} {b : Nat} {S : St} {k i : Nat} {v : Int32} (h : nK k = true) : (wC cI cO b S).set (k + 1) (b + (k + 1), .inl (cI, ln k, .inl (upd (ga S k) i v))) = wC cI cO b (sa S k i v) := by
  obtain ⟨h1, h2, h3⟩ := nK_lt h
  refine wC_set h1 ?_ (fun j hj => cellC_sa hj)
  rw [cellC, if_neg (by omega), if_pos h3, Nat.add_sub_cancel, ga_sa, if_pos rfl]
theorem wC_sS {cI cO : ClassId} {b : Nat} {S : St} {s : Nat} {v : Int32} (h : s < 4) : (wC cI cO b S).set (oS s) (b + oS s, .inr (4, [.ref (b + oT s), .ref (b + oL s), .int (nI s), .ref (b + (oS s + 1)), .ref (b + (oS s + 3)), .int v])) = wC cI cO b (si S (oS s) v) := by
  obtain ⟨h1, h2, h3, h4, h5, h6⟩ := kd_S s h
  have e : (oS s - 21) / 27 = s := by unfold oS; omega
  refine wC_set h4 ?_ (fun j hj => cellC_si hj)
  rw [cellC, if_neg (by omega), if_neg (by omega), if_pos h1, e, gi_si, if_pos rfl]
  rfl
end
section
/-! ROWS over a world of cells that a state S lays out: w S, within A; contracts that take S to S1 -/
def BX (D : va_G) (w : St → va_W) (tys : List (ClassId × FieldType)) (S : St) (t : State) : Prop := va_P D vwCl (w S) t.heap ∧ va_K D vwCl tys t
def PX (D : va_G) (w : St → va_W) (tys : List (ClassId × FieldType)) (S : St) (av : List Value) : Array Value → State → Prop := va_Pc av (BX D w tys S)
def Qi (D : va_G) (w : St → va_W) (tys : List (ClassId × FieldType)) (A : Nat → Prop) (r : Int32) (S1 : St) : Array Value → State → Outcome → State → Prop := va_Qi (fun r' S' => r' = r ∧ S' = S1) (BX D w tys) A
def Qv (D : va_G) (w : St → va_W) (tys : List (ClassId × FieldType)) (A : Nat → Prop) (S1 : St) : Array Value → State → Outcome → State → Prop := va_Qv (fun S' => S' = S1) (BX D w tys) A
theorem PX_blind {D : va_G} {w : St → va_W} {tys : List (ClassId × FieldType)} {S : St} {av : List Value} : FrameBlind (PX D w tys S av) := fun a U g mk q => ⟨q.1, q.2.1, va_K.moved (u := U) (U := U.calling g mk a) (Vm.Alike.refl U.vm) q.2.2⟩
section GR
variable {p : Program} {l : Launch} {e : Env} {R : Room} {s : State} {m : MethodId} {args : Array Value} {below : List Frame} {meth : Method} {c : Code} {H H0 : Heap} {locs : List Loc} {cells slots : Nat} {Q : State → Prop} {cc : ByteArray} {pc nL : Nat} {ls : Array Slot} {rest st0 : List Value} {own : String} {D : va_G} {tys : List (ClassId × FieldType)} {w : St → va_W} {A : Nat → Prop} {S S1 : St} {hh : Cond}
theorem g_get {ws : va_W} (F : CallFix p m c cc nL s args (hh :: wsAll) own) (hK : va_K D vwCl tys s) (hP : va_P D vwCl ws H) {C : String} {T : u_T} {N ci index : Nat} (hin : ∀ x ∈ u_ws C T N, x ∈ wsAll) (q0 : Nat) {a : Nat} {fs : List Value} (he : ws[q0]? = some (a, .inr (ci, fs))) (hc : vwCl[ci]? = some (C, T, N)) (j : Nat) (hj : j < N) (hlink : Cond.fieldLink own index (T j).1 (T j).2.1 (T j).2.2.1 ∈ wsAll) {v : Value} (hv : fs[j]? = some v) (hdg : decode cc pc = .ok (.getfield index, 3))
    (kk : W p l e R s m args below meth c H locs cells slots Q (F0 m (pc + 3) ls (v :: rest))) : W p l e R s m args below meth c H locs cells slots Q (F0 m pc ls (.ref a :: rest)) :=
  va_get F.1 F.2.1 F.2.2.2.2 (fun x h => List.mem_cons_of_mem _ (hin x h)) F.2.2.2.1 hK hP q0 he hc j hj (F.2.2.2.2 _ (List.mem_cons_of_mem _ hlink)) (fun _ h => h) hv hdg kk
theorem g_puti (F : CallFix p m c cc nL s args (hh :: wsAll) own) (hK : va_K D vwCl tys s) (hP : va_P D vwCl (w S) H) (hD : va_D A (w S)) (hS : va_S A H0 H locs) {C : String} {T : u_T} {N ci index : Nat} (hin : ∀ x ∈ u_ws C T N, x ∈ wsAll) (ty0 : Nat → FieldType) (hty : ∀ k, k < N → parseFieldDescriptor (T k).2.2.1 = some (ty0 k)) (hnm : ∀ a, a < N → ∀ b, b < N → a ≠ b → (T a).2.1 ≠ (T b).2.1) (q0 : Nat) {a : Nat} {fs : List Value} (he : (w S)[q0]? = some (a, .inr (ci, fs))) (hc : vwCl[ci]? = some (C, T, N)) (j : Nat) (hj : j < N) (hlink : Cond.fieldLink own index (T j).1 (T j).2.1 (T j).2.2.1 ∈ wsAll) (hfin : (T j).2.2.2 = false) (hd : parseFieldDescriptor (T j).2.2.1 = some .int) (hl : j < fs.length) {v : Int32} (hset : (w S).set q0 (a, .inr (ci, fs.set j (.int v))) = w S1) (hdg : decode cc pc = .ok (.putfield index, 3))
    (kk : ∀ (H1 : Heap) (locs1 : List Loc), va_P D vwCl (w S1) H1 → va_S A H0 H1 locs1 → W p l e R s m args below meth c H1 locs1 cells slots Q (F0 m (pc + 3) ls rest)) : W p l e R s m args below meth c H locs cells slots Q (F0 m pc ls (.int v :: .ref a :: rest)) := by
  refine va_put F.1 F.2.1 F.2.2.2.2 (fun x h => List.mem_cons_of_mem _ (hin x h)) ty0 hty hnm F.2.2.2.1 hK hP hD hS q0 he hc j hj (F.2.2.2.2 _ (List.mem_cons_of_mem _ hlink)) (fun _ h => h) hfin hd rfl rfl hl hdg (fun H1 locs1 h1 h2 h3 => ?_)
  rw [hset] at h1
  exact kk H1 locs1 h1 h3
theorem g_iast (hx : p.tables.exec = Jvm.exec) (hb : c.code = cc) (hK : va_K D vwCl tys s) (hP : va_P D vwCl (w S) H) (hD : va_D A (w S)) (hS : va_S A H0 H locs) (q0 t0 : Nat) {a : Nat} {cA : ClassId} {n : Nat} {f : Nat → Int32} (ha : (w S)[q0]? = some (a, .inl (cA, n, .inl f))) (ht : tys[t0]? = some (cA, .int)) {i : Int32} {x : Int32} (hin : vp_in i n) (hset : (w S).set q0 (a, .inl (cA, n, .inl (upd f i.toNatClampNeg x))) = w S1) (hdg : decode cc pc = .ok (.iastore, 1))
    (kk : ∀ (H1 : Heap) (locs1 : List Loc), va_P D vwCl (w S1) H1 → va_S A H0 H1 locs1 → W p l e R s m args below meth c H1 locs1 cells slots Q (F0 m (pc + 1) ls rest)) : W p l e R s m args below meth c H locs cells slots Q (F0 m pc ls (.int x :: .int i :: .ref a :: rest)) := by
  refine va_iast hx hb hK hP hD hS q0 t0 ha ht hin hdg (fun H1 locs1 h1 h2 h3 => ?_)
  rw [hset] at h1
  exact kk H1 locs1 h1 h3
theorem g_zast (hx : p.tables.exec = Jvm.exec) (hb : c.code = cc) (hK : va_K D vwCl tys s) (hP : va_P D vwCl (w S) H) (hD : va_D A (w S)) (hS : va_S A H0 H locs) (q0 t0 : Nat) {a : Nat} {cA : ClassId} {n : Nat} {f : Nat → Int32} (ha : (w S)[q0]? = some (a, .inl (cA, n, .inl f))) (ht : tys[t0]? = some (cA, .boolean)) {i : Int32} {x : Int32} (hin : vp_in i n) (hset : (w S).set q0 (a, .inl (cA, n, .inl (upd f i.toNatClampNeg (vp_nar .boolean x)))) = w S1) (hdg : decode cc pc = .ok (.bastore, 1))
    (kk : ∀ (H1 : Heap) (locs1 : List Loc), va_P D vwCl (w S1) H1 → va_S A H0 H1 locs1 → W p l e R s m args below meth c H1 locs1 cells slots Q (F0 m (pc + 1) ls rest)) : W p l e R s m args below meth c H locs cells slots Q (F0 m pc ls (.int x :: .int i :: .ref a :: rest)) := by
  refine va_zast hx hb hK hP hD hS q0 t0 ha ht hin hdg (fun H1 locs1 h1 h2 h3 => ?_)
  rw [hset] at h1
  exact kk H1 locs1 h1 h3
theorem g_pre {k : Nat} {ci a : Nat} {fs : List Value} {q : vw_C} {As : List Value} (hK : va_K D vwCl tys s) (hP : va_P D vwCl (w S) H) (he : (w S)[k]? = some (a, .inr (ci, fs))) (hc : vwCl[ci]? = some q) : PreV s H q.1 a (PX D w tys S (.ref a :: As)) As :=
  ⟨PX_blind, va_recv hK hP hc he, fun U hU hW => ⟨rfl, by rw [hU]; exact hP, va_K.moved hW.alike hK⟩⟩
theorem g_preS {As : List Value} (hK : va_K D vwCl tys s) (hP : va_P D vwCl (w S) H) : PreS s H (PX D w tys S As) As :=
  ⟨PX_blind, fun U hU hW => ⟨rfl, by rw [hU]; exact hP, va_K.moved hW.alike hK⟩⟩
theorem g_calli (F : CallFix p m c cc nL s args (hh :: wsAll) own) (hK : va_K D vwCl tys s) (hP : va_P D vwCl (w S) H) (hS : va_S A H0 H locs) {y : MethodName} {bytes : ByteArray} {maxL n index q0 ci a : Nat} {ret : Option FieldType} {rm : Room} {fs : List Value} {C : String} {T : u_T} {N : Nat} {lv : List (Nat × Value)} {r : Int32} (As : List Value)
    (hM : Met l y (Cond.code y bytes maxL ret :: wsAll) rm (PX D w tys S (.ref a :: As)) (Qi D w tys A r S1) 0 0 A)
    (h1 : Cond.methodLink own index y ∈ wsAll) (h2 : Cond.instanceMethod y ∈ wsAll) (h3 : Cond.selects C y y ∈ wsAll) (h4 : Cond.initialized C ∈ wsAll) (h5 : Cond.code y bytes maxL ret ∈ wsAll)
    (he : (w S)[q0]? = some (a, .inr (ci, fs))) (hc : vwCl[ci]? = some (C, T, N)) (hd : y.cls = C ∧ y.cls ≠ "java/lang/invoke/MethodHandle" ∧ y.cls ≠ "java/lang/invoke/VarHandle" ∧ (parseMethodDescriptor y.desc).map (fun d => d.parameters.length) = some n) (hrm : rm.cells = 0) (hrm2 : rm.slots = 0) (hR : rm.frames + 1 ≤ R.frames ∧ 8 + (maxL + 11) + rm.locals ≤ R.locals) (hn : As.length = n) (hl : lv_has ls nL lv) (hst : st0 = As.reverse ++ .ref a :: rest) (hrest : (rest.map fun v => v.category).sum ≤ 8) (hdg : decode cc pc = .ok (.invokevirtual index, 3)) (hroom : cells ≤ R.cells ∧ slots ≤ R.slots)
    (kk : ∀ (H1 : Heap) (locs1 : List Loc), va_P D vwCl (w S1) H1 → va_S A H0 H1 locs1 → W p l e R s m args below meth c H1 locs1 cells slots Q (F0 m (pc + 3) ls (.int r :: rest))) : W p l e R s m args below meth c H locs cells slots Q (F0 m pc ls st0) := by
  subst hst
  refine va_calli (va_runV (As := As) (rest := rest) F hM (cwV n F.2.2.2.2 (gAllV h1 h2 h3 h4 h5) rfl hrm hrm2 hd hR) (g_pre hK hP he hc) rfl hn hl.1 rfl (lv_room hrest) hdg hroom) hS (fun q _ h => h) (fun q h => h) (fun r' u t H1 locs1 ht hvm hw hB hz1 hk1 hS1 => ?_)
  obtain ⟨rfl, rfl⟩ := hw
  subst ht
  exact kk _ locs1 hB.1 hS1
theorem g_callv (F : CallFix p m c cc nL s args (hh :: wsAll) own) (hK : va_K D vwCl tys s) (hP : va_P D vwCl (w S) H) (hS : va_S A H0 H locs) {y : MethodName} {bytes : ByteArray} {maxL n index q0 ci a : Nat} {ret : Option FieldType} {rm : Room} {fs : List Value} {C : String} {T : u_T} {N : Nat} {lv : List (Nat × Value)} (As : List Value)
    (hM : Met l y (Cond.code y bytes maxL ret :: wsAll) rm (PX D w tys S (.ref a :: As)) (Qv D w tys A S1) 0 0 A)
    (h1 : Cond.methodLink own index y ∈ wsAll) (h2 : Cond.instanceMethod y ∈ wsAll) (h3 : Cond.selects C y y ∈ wsAll) (h4 : Cond.initialized C ∈ wsAll) (h5 : Cond.code y bytes maxL ret ∈ wsAll)
    (he : (w S)[q0]? = some (a, .inr (ci, fs))) (hc : vwCl[ci]? = some (C, T, N)) (hd : y.cls = C ∧ y.cls ≠ "java/lang/invoke/MethodHandle" ∧ y.cls ≠ "java/lang/invoke/VarHandle" ∧ (parseMethodDescriptor y.desc).map (fun d => d.parameters.length) = some n) (hrm : rm.cells = 0) (hrm2 : rm.slots = 0) (hR : rm.frames + 1 ≤ R.frames ∧ 8 + (maxL + 11) + rm.locals ≤ R.locals) (hn : As.length = n) (hl : lv_has ls nL lv) (hst : st0 = As.reverse ++ .ref a :: rest) (hrest : (rest.map fun v => v.category).sum ≤ 8) (hdg : decode cc pc = .ok (.invokevirtual index, 3)) (hroom : cells ≤ R.cells ∧ slots ≤ R.slots)
    (kk : ∀ (H1 : Heap) (locs1 : List Loc), va_P D vwCl (w S1) H1 → va_S A H0 H1 locs1 → W p l e R s m args below meth c H1 locs1 cells slots Q (F0 m (pc + 3) ls rest)) : W p l e R s m args below meth c H locs cells slots Q (F0 m pc ls st0) := by
  subst hst
  refine va_callv (va_runV (As := As) (rest := rest) F hM (cwV n F.2.2.2.2 (gAllV h1 h2 h3 h4 h5) rfl hrm hrm2 hd hR) (g_pre hK hP he hc) rfl hn hl.1 rfl (lv_room hrest) hdg hroom) hS (fun q _ h => h) (fun q h => h) (fun u t H1 locs1 ht hvm hw hB hz1 hk1 hS1 => ?_)
  subst hw
  subst ht
  exact kk _ locs1 hB.1 hS1
theorem g_callSi (F : CallFix p m c cc nL s args (hh :: wsAll) own) (hK : va_K D vwCl tys s) (hP : va_P D vwCl (w S) H) (hS : va_S A H0 H locs) {y : MethodName} {bytes : ByteArray} {maxL n index : Nat} {ret : Option FieldType} {rm : Room} {lv : List (Nat × Value)} {r : Int32} (As : List Value)
    (hM : Met l y (Cond.code y bytes maxL ret :: wsAll) rm (PX D w tys S As) (Qi D w tys A r S1) 0 0 A)
    (h1 : Cond.methodLink own index y ∈ wsAll) (h2 : Cond.static y ∈ wsAll) (h4 : Cond.initialized own ∈ wsAll) (h5 : Cond.code y bytes maxL ret ∈ wsAll)
    (hd : y.cls = own ∧ y.cls ≠ "java/lang/invoke/MethodHandle" ∧ y.cls ≠ "java/lang/invoke/VarHandle" ∧ (parseMethodDescriptor y.desc).map (fun d => d.parameters.length) = some n) (hrm : rm.cells = 0) (hrm2 : rm.slots = 0) (hR : rm.frames + 1 ≤ R.frames ∧ 8 + (maxL + 11) + rm.locals ≤ R.locals) (hn : As.length = n) (hl : lv_has ls nL lv) (hst : st0 = As.reverse ++ rest) (hrest : (rest.map fun v => v.category).sum ≤ 8) (hdg : decode cc pc = .ok (.invokestatic index, 3)) (hroom : cells ≤ R.cells ∧ slots ≤ R.slots)
    (kk : ∀ (H1 : Heap) (locs1 : List Loc), va_P D vwCl (w S1) H1 → va_S A H0 H1 locs1 → W p l e R s m args below meth c H1 locs1 cells slots Q (F0 m (pc + 3) ls (.int r :: rest))) : W p l e R s m args below meth c H locs cells slots Q (F0 m pc ls st0) := by
  subst hst
  refine va_calli (va_runS (As := As) (rest := rest) F hM (cwS n F.2.2.2.2 (gAllS h1 h2 h4 h5) rfl hrm hrm2 hd hR) (g_preS hK hP) rfl hn hl.1 rfl (lv_room hrest) hdg hroom) hS (fun q _ h => h) (fun q h => h) (fun r' u t H1 locs1 ht hvm hw hB hz1 hk1 hS1 => ?_)
  obtain ⟨rfl, rfl⟩ := hw
  subst ht
  exact kk _ locs1 hB.1 hS1
theorem g_iret {v r : Int32} (F : CallFix p m c cc nL s args (hh :: wsAll) own) (hr : meth.sig.returnType = some .int) (hlocks : meth.locks = false) (hQ : Q = MQ below (Qi D w tys A r S1) args s cells slots A) (hK : va_K D vwCl tys s) (hP : va_P D vwCl (w S) H) (hS : va_S A s.heap H locs) (hv : v = r) (hs : S = S1) (hdg : decode cc pc = .ok (.ireturn, 1)) : W p l e R s m args below meth c H locs cells slots Q (F0 m pc ls [.int v]) := by
  subst hQ; subst hv; subst hs
  exact W.iret F.1 F.2.1 hr (fun t ht hW => ⟨⟨v, S, rfl, ⟨rfl, rfl⟩, by rw [ht]; exact hP, va_K.moved hW.alike hK⟩, hS.F ht⟩) hS.2.2 hdg hlocks
theorem g_zret {v r : Int32} (F : CallFix p m c cc nL s args (hh :: wsAll) own) (hr : meth.sig.returnType = some .boolean) (hlocks : meth.locks = false) (hQ : Q = MQ below (Qi D w tys A r S1) args s cells slots A) (hK : va_K D vwCl tys s) (hP : va_P D vwCl (w S) H) (hS : va_S A s.heap H locs) (hz : narrow .boolean (.int v) = .int v) (hv : v = r) (hs : S = S1) (hdg : decode cc pc = .ok (.ireturn, 1)) : W p l e R s m args below meth c H locs cells slots Q (F0 m pc ls [.int v]) := by
  subst hQ; subst hv; subst hs
  exact W.zret F.1 F.2.1 hr hz (fun t ht hW => ⟨⟨v, S, rfl, ⟨rfl, rfl⟩, by rw [ht]; exact hP, va_K.moved hW.alike hK⟩, hS.F ht⟩) hS.2.2 hdg hlocks
theorem g_vret (F : CallFix p m c cc nL s args (hh :: wsAll) own) (hr : meth.sig.returnType = none) (hlocks : meth.locks = false) (hQ : Q = MQ below (Qv D w tys A S1) args s cells slots A) (hK : va_K D vwCl tys s) (hP : va_P D vwCl (w S) H) (hS : va_S A s.heap H locs) (hs : S = S1) (hdg : decode cc pc = .ok (.return_, 1)) : W p l e R s m args below meth c H locs cells slots Q (F0 m pc ls []) := by
  subst hQ; subst hs
  exact W.vret F.1 F.2.1 hr (fun t ht hW => ⟨⟨S, rfl, rfl, by rw [ht]; exact hP, va_K.moved hW.alike hK⟩, hS.F ht⟩) hS.2.2 hdg hlocks
end GR
theorem g_met {l : Launch} {D : va_G} {tys : List (ClassId × FieldType)} {w : St → va_W} {S : St} {y : MethodName} {cc : ByteArray} {maxL : Nat} {ret : Option FieldType} {rm : Room} {av : List Value} {Qc : Array Value → State → Outcome → State → Prop} {mc ms : Nat} {free : Addr → Prop} (own : String) (hy : plainName y.cls = true) (hfit : (lg_sl av).length ≤ maxL) (hown : y.cls = own)
    (body : ∀ (p : Program) (e : Env) (s : State) (m : MethodId) (args : Array Value) (below : List Frame) (meth : Method) (c : Code) (ls : Array Slot) (Q : State → Prop), CallFix p m c cc maxL s args (Cond.code y cc maxL ret :: wsAll) own → meth.sig.returnType = ret → meth.locks = false → va_K D vwCl tys s → va_P D vwCl (w S) s.heap → lv_has ls maxL (lv_args 0 av) → Q = MQ below Qc args s mc ms free → W p l e rm s m args below meth c s.heap [] 0 0 Q (F0 m 0 ls [])) :
    Met l y (Cond.code y cc maxL ret :: wsAll) rm (PX D w tys S av) Qc mc ms free := by
  refine Met.ofW (cc := cc) (maxL := maxL) (ret := ret) hy rfl ?_
  intro p e s m args below meth c s₁ B hml hv
  obtain ⟨rfl, hP, hK⟩ := hv
  have hl := lv_entry av (n := maxL) hfit
  rw [lg_entry_eq]
  exact body p e s m _ below meth c _ _ ⟨B.exec, B.bytes, hml, by rw [← hown]; exact findClass_of_methodNamed B.named, atoms_spec (ws := Cond.code y cc maxL ret :: wsAll) B.pre⟩ B.returns B.notSynchronized hK hP hl rfl
def FU : Nat := 1000
def lt {α R : Type} (x : α) (k : α → Option R) : Option R := k x
theorem lt_some {α R : Type} {x : α} {k : α → Option R} {r : R} (h : lt x k = some r) : ∃ y, y = x ∧ k y = some r := ⟨x, rfl, h⟩
theorem lt04 : 0 < 4 := by decide
theorem sw_out4 {x : Int32} (h0 : ¬ x = 0) (h1 : ¬ x = 1) (h2 : ¬ x = 2) (h3 : ¬ x = 3) : x.toInt < 0 ∨ 3 < x.toInt := by
  have k0 : x.toInt ≠ 0 := fun h => h0 (Int32.toInt_inj.mp h)
  have k1 : x.toInt ≠ 1 := fun h => h1 (Int32.toInt_inj.mp h)
  have k2 : x.toInt ≠ 2 := fun h => h2 (Int32.toInt_inj.mp h)
  have k3 : x.toInt ≠ 3 := fun h => h3 (Int32.toInt_inj.mp h)
  omega
end
section
theorem nK_2 : nK 2 = true := by decide +kernel
theorem nK_4 : nK 4 = true := by decide +kernel
theorem nK_6 : nK 6 = true := by decide +kernel
theorem nK_8 : nK 8 = true := by decide +kernel
theorem nK_10 : nK 10 = true := by decide +kernel
theorem nK_12 : nK 12 = true := by decide +kernel
theorem nK_14 : nK 14 = true := by decide +kernel
theorem nK_16 : nK 16 = true := by decide +kernel
theorem nK_18 : nK 18 = true := by decide +kernel
theorem nK_130 : nK 130 = true := by decide +kernel
theorem nK_132 : nK 132 = true := by decide +kernel
theorem nK_134 : nK 134 = true := by decide +kernel
theorem wd_max : Cond.code Lib.Math.max.name Lib.Math.max.code 2 (some .int) ∈ wsAll := wd_39
theorem wd_min : Cond.code Lib.Math.min.name Lib.Math.min.code 2 (some .int) ∈ wsAll := wd_250
abbrev tyC (cI cO : ClassId) : List (ClassId × FieldType) := [(cI, .int), (cO, .object "Mergeparlour$Site")]
abbrev tyM (cI cZ : ClassId) : List (ClassId × FieldType) := [(cI, .int), (cZ, .boolean)]
def fsM (b : Nat) (S : St) : List Value := [.int (gi S 0), .int (gi S 1), .ref (b + 1), .ref (b + 2), .ref (b + 3), .ref (b + 4), .ref (b + 5), .int (gi S 7), .ref (b + 6), .ref (b + 7), .ref (b + 8), .ref (b + 9), .int (gi S 12), .ref (b + 10), .ref (b + 11), .ref (b + 12), .ref (b + 13), .ref (b + 14), .ref (b + 15), .int (gi S 19), .ref (b + 16), .ref (b + 17), .ref (b + 18), .int (gi S 23), .ref (b + 19), .ref (b + 20), .int (gi S 26), .ref (b + 21), .ref (b + 22), .ref (b + 23), .int (gi S 30)]
def cellM (cI cZ : ClassId) (b : Nat) (S : St) (k : Nat) : va_E := match k with
  | 0 => .inr (7, fsM b S)
  | 1 => .inl (cI, 90, .inl (ga S 2))
  | 2 => .inl (cI, 90, .inl (ga S 3))
  | 3 => .inl (cI, 90, .inl (ga S 4))
  | 4 => .inl (cI, 90, .inl (ga S 5))
  | 5 => .inl (cI, 90, .inl (ga S 6))
  | 6 => .inl (cI, 90, .inl (ga S 8))
  | 7 => .inl (cI, 90, .inl (ga S 9))
  | 8 => .inl (cI, 90, .inl (ga S 10))
  | 9 => .inl (cZ, 90, .inl (ga S 11))
  | 10 => .inl (cI, 90, .inl (ga S 13))
  | 11 => .inl (cI, 90, .inl (ga S 14))
  | 12 => .inl (cI, 4, .inl (ga S 15))
  | 13 => .inl (cI, 4, .inl (ga S 16))
  | 14 => .inl (cI, 360, .inl (ga S 17))
  | 15 => .inl (cZ, 360, .inl (ga S 18))
  | 16 => .inl (cI, 200, .inl (ga S 20))
  | 17 => .inl (cI, 1200, .inl (ga S 21))
  | 18 => .inl (cI, 1200, .inl (ga S 22))
  | 19 => .inl (cI, 90, .inl (ga S 24))
  | 20 => .inl (cI, 90, .inl (ga S 25))
  | 21 => .inl (cI, 90, .inl (ga S 27))
  | 22 => .inl (cI, 90, .inl (ga S 28))
  | _ => .inl (cI, 90, .inl (ga S 29))
def wM (cI cZ : ClassId) (b : Nat) (S : St) : va_W := (List.range 24).map (fun k => (b + k, cellM cI cZ b S k))
def AM (b : Nat) : Nat → Prop := fun q => b ≤ q ∧ q < b + 24
theorem wM_at {cI cZ : ClassId} {b : Nat} {S : St} {k : Nat} (h : k < 24) : (wM cI cZ b S)[k]? = some (b + k, cellM cI cZ b S k) := by
  unfold wM
  rw [List.getElem?_map, List.getElem?_range h]
  rfl
theorem wM_len {cI cZ : ClassId} {b : Nat} {S : St} : (wM cI cZ b S).length = 24 := by simp [wM]
theorem wM_D {cI cZ : ClassId} {b : Nat} {S : St} : va_D (AM b) (wM cI cZ b S) := by
  have key : ∀ (k : Nat) (q : Nat × va_E), (wM cI cZ b S)[k]? = some q → k < 24 ∧ q.1 = b + k := by
    intro k q h
    have hk : k < 24 := by rw [← wM_len (cI := cI) (cZ := cZ) (b := b) (S := S)]; exact (List.getElem?_eq_some_iff.mp h).1
    rw [wM_at hk] at h
    cases h
    exact ⟨hk, rfl⟩
  refine ⟨fun i j p q hi hj hpq => ?_, fun k q h => ?_⟩
  · have h1 := (key i p hi).2
    have h2 := (key j q hj).2
    omega
  · obtain ⟨h1, h2⟩ := key k q h
    show b ≤ q.1 ∧ q.1 < b + 24
    omega
theorem wM_o {cI cZ : ClassId} {b : Nat} {S : St} : (wM cI cZ b S)[0]? = some (b + 0, .inr (7, fsM b S)) := rfl
theorem wM_a2 {cI cZ : ClassId} {b : Nat} {S : St} : (wM cI cZ b S)[1]? = some (b + 1, .inl (cI, 90, .inl (ga S 2))) := rfl
theorem wM_sa_2 {cI cZ : ClassId} {b : Nat} {S : St} {i : Nat} {v : Int32} : (wM cI cZ b S).set 1 (b + 1, .inl (cI, 90, .inl (upd (ga S 2) i v))) = wM cI cZ b (sa S 2 i v) := rfl
theorem wM_a3 {cI cZ : ClassId} {b : Nat} {S : St} : (wM cI cZ b S)[2]? = some (b + 2, .inl (cI, 90, .inl (ga S 3))) := rfl
theorem wM_sa_3 {cI cZ : ClassId} {b : Nat} {S : St} {i : Nat} {v : Int32} : (wM cI cZ b S).set 2 (b + 2, .inl (cI, 90, .inl (upd (ga S 3) i v))) = wM cI cZ b (sa S 3 i v) := rfl
theorem wM_a4 {cI cZ : ClassId} {b : Nat} {S : St} : (wM cI cZ b S)[3]? = some (b + 3, .inl (cI, 90, .inl (ga S 4))) := rfl
theorem wM_sa_4 {cI cZ : ClassId} {b : Nat} {S : St} {i : Nat} {v : Int32} : (wM cI cZ b S).set 3 (b + 3, .inl (cI, 90, .inl (upd (ga S 4) i v))) = wM cI cZ b (sa S 4 i v) := rfl
theorem wM_a5 {cI cZ : ClassId} {b : Nat} {S : St} : (wM cI cZ b S)[4]? = some (b + 4, .inl (cI, 90, .inl (ga S 5))) := rfl
theorem wM_sa_5 {cI cZ : ClassId} {b : Nat} {S : St} {i : Nat} {v : Int32} : (wM cI cZ b S).set 4 (b + 4, .inl (cI, 90, .inl (upd (ga S 5) i v))) = wM cI cZ b (sa S 5 i v) := rfl
theorem wM_a6 {cI cZ : ClassId} {b : Nat} {S : St} : (wM cI cZ b S)[5]? = some (b + 5, .inl (cI, 90, .inl (ga S 6))) := rfl
theorem wM_sa_6 {cI cZ : ClassId} {b : Nat} {S : St} {i : Nat} {v : Int32} : (wM cI cZ b S).set 5 (b + 5, .inl (cI, 90, .inl (upd (ga S 6) i v))) = wM cI cZ b (sa S 6 i v) := rfl
theorem wM_a8 {cI cZ : ClassId} {b : Nat} {S : St} : (wM cI cZ b S)[6]? = some (b + 6, .inl (cI, 90, .inl (ga S 8))) := rfl
theorem wM_sa_8 {cI cZ : ClassId} {b : Nat} {S : St} {i : Nat} {v : Int32} : (wM cI cZ b S).set 6 (b + 6, .inl (cI, 90, .inl (upd (ga S 8) i v))) = wM cI cZ b (sa S 8 i v) := rfl
theorem wM_a9 {cI cZ : ClassId} {b : Nat} {S : St} : (wM cI cZ b S)[7]? = some (b + 7, .inl (cI, 90, .inl (ga S 9))) := rfl
theorem wM_sa_9 {cI cZ : ClassId} {b : Nat} {S : St} {i : Nat} {v : Int32} : (wM cI cZ b S).set 7 (b + 7, .inl (cI, 90, .inl (upd (ga S 9) i v))) = wM cI cZ b (sa S 9 i v) := rfl
theorem wM_a10 {cI cZ : ClassId} {b : Nat} {S : St} : (wM cI cZ b S)[8]? = some (b + 8, .inl (cI, 90, .inl (ga S 10))) := rfl
theorem wM_sa_10 {cI cZ : ClassId} {b : Nat} {S : St} {i : Nat} {v : Int32} : (wM cI cZ b S).set 8 (b + 8, .inl (cI, 90, .inl (upd (ga S 10) i v))) = wM cI cZ b (sa S 10 i v) := rfl
theorem wM_a11 {cI cZ : ClassId} {b : Nat} {S : St} : (wM cI cZ b S)[9]? = some (b + 9, .inl (cZ, 90, .inl (ga S 11))) := rfl
theorem wM_sa_11 {cI cZ : ClassId} {b : Nat} {S : St} {i : Nat} {v : Int32} : (wM cI cZ b S).set 9 (b + 9, .inl (cZ, 90, .inl (upd (ga S 11) i v))) = wM cI cZ b (sa S 11 i v) := rfl
theorem wM_a13 {cI cZ : ClassId} {b : Nat} {S : St} : (wM cI cZ b S)[10]? = some (b + 10, .inl (cI, 90, .inl (ga S 13))) := rfl
theorem wM_sa_13 {cI cZ : ClassId} {b : Nat} {S : St} {i : Nat} {v : Int32} : (wM cI cZ b S).set 10 (b + 10, .inl (cI, 90, .inl (upd (ga S 13) i v))) = wM cI cZ b (sa S 13 i v) := rfl
theorem wM_a14 {cI cZ : ClassId} {b : Nat} {S : St} : (wM cI cZ b S)[11]? = some (b + 11, .inl (cI, 90, .inl (ga S 14))) := rfl
theorem wM_sa_14 {cI cZ : ClassId} {b : Nat} {S : St} {i : Nat} {v : Int32} : (wM cI cZ b S).set 11 (b + 11, .inl (cI, 90, .inl (upd (ga S 14) i v))) = wM cI cZ b (sa S 14 i v) := rfl
theorem wM_a15 {cI cZ : ClassId} {b : Nat} {S : St} : (wM cI cZ b S)[12]? = some (b + 12, .inl (cI, 4, .inl (ga S 15))) := rfl
theorem wM_sa_15 {cI cZ : ClassId} {b : Nat} {S : St} {i : Nat} {v : Int32} : (wM cI cZ b S).set 12 (b + 12, .inl (cI, 4, .inl (upd (ga S 15) i v))) = wM cI cZ b (sa S 15 i v) := rfl
theorem wM_a16 {cI cZ : ClassId} {b : Nat} {S : St} : (wM cI cZ b S)[13]? = some (b + 13, .inl (cI, 4, .inl (ga S 16))) := rfl
theorem wM_sa_16 {cI cZ : ClassId} {b : Nat} {S : St} {i : Nat} {v : Int32} : (wM cI cZ b S).set 13 (b + 13, .inl (cI, 4, .inl (upd (ga S 16) i v))) = wM cI cZ b (sa S 16 i v) := rfl
theorem wM_a17 {cI cZ : ClassId} {b : Nat} {S : St} : (wM cI cZ b S)[14]? = some (b + 14, .inl (cI, 360, .inl (ga S 17))) := rfl
theorem wM_sa_17 {cI cZ : ClassId} {b : Nat} {S : St} {i : Nat} {v : Int32} : (wM cI cZ b S).set 14 (b + 14, .inl (cI, 360, .inl (upd (ga S 17) i v))) = wM cI cZ b (sa S 17 i v) := rfl
theorem wM_a18 {cI cZ : ClassId} {b : Nat} {S : St} : (wM cI cZ b S)[15]? = some (b + 15, .inl (cZ, 360, .inl (ga S 18))) := rfl
theorem wM_sa_18 {cI cZ : ClassId} {b : Nat} {S : St} {i : Nat} {v : Int32} : (wM cI cZ b S).set 15 (b + 15, .inl (cZ, 360, .inl (upd (ga S 18) i v))) = wM cI cZ b (sa S 18 i v) := rfl
theorem wM_a20 {cI cZ : ClassId} {b : Nat} {S : St} : (wM cI cZ b S)[16]? = some (b + 16, .inl (cI, 200, .inl (ga S 20))) := rfl
theorem wM_sa_20 {cI cZ : ClassId} {b : Nat} {S : St} {i : Nat} {v : Int32} : (wM cI cZ b S).set 16 (b + 16, .inl (cI, 200, .inl (upd (ga S 20) i v))) = wM cI cZ b (sa S 20 i v) := rfl
theorem wM_a21 {cI cZ : ClassId} {b : Nat} {S : St} : (wM cI cZ b S)[17]? = some (b + 17, .inl (cI, 1200, .inl (ga S 21))) := rfl
theorem wM_sa_21 {cI cZ : ClassId} {b : Nat} {S : St} {i : Nat} {v : Int32} : (wM cI cZ b S).set 17 (b + 17, .inl (cI, 1200, .inl (upd (ga S 21) i v))) = wM cI cZ b (sa S 21 i v) := rfl
theorem wM_a22 {cI cZ : ClassId} {b : Nat} {S : St} : (wM cI cZ b S)[18]? = some (b + 18, .inl (cI, 1200, .inl (ga S 22))) := rfl
theorem wM_sa_22 {cI cZ : ClassId} {b : Nat} {S : St} {i : Nat} {v : Int32} : (wM cI cZ b S).set 18 (b + 18, .inl (cI, 1200, .inl (upd (ga S 22) i v))) = wM cI cZ b (sa S 22 i v) := rfl
theorem wM_a24 {cI cZ : ClassId} {b : Nat} {S : St} : (wM cI cZ b S)[19]? = some (b + 19, .inl (cI, 90, .inl (ga S 24))) := rfl
theorem wM_sa_24 {cI cZ : ClassId} {b : Nat} {S : St} {i : Nat} {v : Int32} : (wM cI cZ b S).set 19 (b + 19, .inl (cI, 90, .inl (upd (ga S 24) i v))) = wM cI cZ b (sa S 24 i v) := rfl
theorem wM_a25 {cI cZ : ClassId} {b : Nat} {S : St} : (wM cI cZ b S)[20]? = some (b + 20, .inl (cI, 90, .inl (ga S 25))) := rfl
theorem wM_sa_25 {cI cZ : ClassId} {b : Nat} {S : St} {i : Nat} {v : Int32} : (wM cI cZ b S).set 20 (b + 20, .inl (cI, 90, .inl (upd (ga S 25) i v))) = wM cI cZ b (sa S 25 i v) := rfl
theorem wM_a27 {cI cZ : ClassId} {b : Nat} {S : St} : (wM cI cZ b S)[21]? = some (b + 21, .inl (cI, 90, .inl (ga S 27))) := rfl
theorem wM_sa_27 {cI cZ : ClassId} {b : Nat} {S : St} {i : Nat} {v : Int32} : (wM cI cZ b S).set 21 (b + 21, .inl (cI, 90, .inl (upd (ga S 27) i v))) = wM cI cZ b (sa S 27 i v) := rfl
theorem wM_a28 {cI cZ : ClassId} {b : Nat} {S : St} : (wM cI cZ b S)[22]? = some (b + 22, .inl (cI, 90, .inl (ga S 28))) := rfl
theorem wM_sa_28 {cI cZ : ClassId} {b : Nat} {S : St} {i : Nat} {v : Int32} : (wM cI cZ b S).set 22 (b + 22, .inl (cI, 90, .inl (upd (ga S 28) i v))) = wM cI cZ b (sa S 28 i v) := rfl
theorem wM_a29 {cI cZ : ClassId} {b : Nat} {S : St} : (wM cI cZ b S)[23]? = some (b + 23, .inl (cI, 90, .inl (ga S 29))) := rfl
theorem wM_sa_29 {cI cZ : ClassId} {b : Nat} {S : St} {i : Nat} {v : Int32} : (wM cI cZ b S).set 23 (b + 23, .inl (cI, 90, .inl (upd (ga S 29) i v))) = wM cI cZ b (sa S 29 i v) := rfl
theorem wM_si_0 {cI cZ : ClassId} {b : Nat} {S : St} {v : Int32} : (wM cI cZ b S).set 0 (b + 0, .inr (7, (fsM b S).set 0 (.int v))) = wM cI cZ b (si S 0 v) := rfl
theorem wM_si_1 {cI cZ : ClassId} {b : Nat} {S : St} {v : Int32} : (wM cI cZ b S).set 0 (b + 0, .inr (7, (fsM b S).set 1 (.int v))) = wM cI cZ b (si S 1 v) := rfl
theorem wM_si_7 {cI cZ : ClassId} {b : Nat} {S : St} {v : Int32} : (wM cI cZ b S).set 0 (b + 0, .inr (7, (fsM b S).set 7 (.int v))) = wM cI cZ b (si S 7 v) := rfl
theorem wM_si_12 {cI cZ : ClassId} {b : Nat} {S : St} {v : Int32} : (wM cI cZ b S).set 0 (b + 0, .inr (7, (fsM b S).set 12 (.int v))) = wM cI cZ b (si S 12 v) := rfl
theorem wM_si_19 {cI cZ : ClassId} {b : Nat} {S : St} {v : Int32} : (wM cI cZ b S).set 0 (b + 0, .inr (7, (fsM b S).set 19 (.int v))) = wM cI cZ b (si S 19 v) := rfl
theorem wM_si_23 {cI cZ : ClassId} {b : Nat} {S : St} {v : Int32} : (wM cI cZ b S).set 0 (b + 0, .inr (7, (fsM b S).set 23 (.int v))) = wM cI cZ b (si S 23 v) := rfl
theorem wM_si_26 {cI cZ : ClassId} {b : Nat} {S : St} {v : Int32} : (wM cI cZ b S).set 0 (b + 0, .inr (7, (fsM b S).set 26 (.int v))) = wM cI cZ b (si S 26 v) := rfl
theorem wM_si_30 {cI cZ : ClassId} {b : Nat} {S : St} {v : Int32} : (wM cI cZ b S).set 0 (b + 0, .inr (7, (fsM b S).set 30 (.int v))) = wM cI cZ b (si S 30 v) := rfl
end
section
/-! 'throw new E("text")' where E's own constructor names the next one at another place of its pool than the library's bundles have (java/util/NoSuchElementException: 13). It follows the library's proof for the others (JvmDerived/BundleOwnThrow.lean), with the first link of its own. -/
def xsAtoms (own : String) (ic : Nat) (X : String) (ix : Nat) (rx : ByteArray) (Y : String) (r : List String) : List Cond :=
  Bundle.throwableAtoms ++ Bundle.throwableSAtoms ++ (Bundle.passSAtoms X Y ix rx ++ Bundle.chainSAtoms Y r) ++
  [.methodLink own ic (Bundle.initS X), .instantiable X 6, .castable X X, .selects X Bundle.tFill0 Bundle.tFill0, .selects X Bundle.tFill Bundle.tFill,
   .lays X Bundle.tN "cause" "Ljava/lang/Throwable;", .lays X Bundle.tN "stackTrace" Bundle.steD, .lays X Bundle.tN "suppressedExceptions" Bundle.listD, .lays X Bundle.tN "detailMessage" "Ljava/lang/String;",
   .isRef (.static Bundle.tN "UNASSIGNED_STACK" Bundle.steD), .isRef (.static Bundle.tN "SUPPRESSED_SENTINEL" Bundle.listD),
   .fieldLink Bundle.tN 198 Bundle.tN "backtrace" "Ljava/lang/Object;", .lays Bundle.tN Bundle.tN "backtrace" "Ljava/lang/Object;", .lays X Bundle.tN "backtrace" "Ljava/lang/Object;"]
def xs_at (own : String) (ic : Nat) (X : String) (ix : Nat) (rx : ByteArray) (Y : String) (r : List String) : List Cond := (xsAtoms own ic X ix rx Y r).filter vx_no
set_option maxHeartbeats 1000000 in
theorem x_ctorThrow {p : Program} {l : Launch} {e : Env} {R : Room} {s : State} {m₀ : MethodId} {args : Array Value} {below : List Frame} {meth : Method} {c : Code} {W : State} {locs : List Loc} {cells slots : Nat} (X : Stand p l e R s m₀ args below meth c W locs cells slots) (hexec : p.tables.exec = Jvm.exec) (htr : e.platform.stackTraces = false) {own cls cY : String} {r : List String} {ic ix : Nat} {rx : ByteArray} (x0 : decode rx 0 = .ok (.aload_n 0, 1)) (x1 : decode rx 1 = .ok (.aload_n 1, 1)) (x2 : decode rx 2 = .ok (.invokespecial ix, 3)) (x5 : decode rx 5 = .ok (.return_, 1))
    (hown : s.vm.findClass own = some m₀.cls) (hcls : Bundle.fit cls = true) (hY : Bundle.fit cY = true) (hnames : ∀ n ∈ r, Bundle.fit n = true)
    (h : ∀ a ∈ xsAtoms own ic cls ix rx cY r, a.before args s = true)
    (hlocs : ∀ x ∈ locs, ∀ cell, s.heap[x.base]? = some cell → cell.vm.isStatics = false)
    {a : Addr} {cX : ClassId} {kX : Class} (hfoundX : s.vm.findClass cls = some cX) (hkX : s.vm.classes[cX]? = some kX) (hcell : W.heap[a]? = some (freshCell cX kX)) (hnew : s.heap.size ≤ a)
    {msg : Value} (hmsg : msg.isRef = true)
    {g : JFrame} (hg : g.method = m₀) (hsize : g.locals.size = c.maxLocals) (hlocked : g.locked = none) (hentered : g.entered = []) {rest : List Value} (hstack : g.stack = msg :: .ref a :: .ref a :: rest)
    (hd6 : decode c.code g.pc = .ok (.invokespecial ic, 3)) (hd9 : decode c.code (g.pc + 3) = .ok (.athrow, 1)) (hout : ∀ x ∈ c.exceptionTable.toList, covers x (g.pc + 3) = false)
    (hRframes : (r.length + 1) + 3 < R.frames) (hRlocals : 2 * g.monitorRoom + ((Value.ref a :: rest).map fun v => v.category).sum + (13 * ((r.length + 1) + 1) + 42) ≤ R.locals) (hlocks : meth.locks = false := by first | assumption | exact BodyLoose.notSynchronized (by assumption) | exact Body.notSynchronized (by assumption)) :
    ∃ U : State, Steps p.tables e below (W.setTop g) U ∧ U.status = .running ∧ Ended U below (.threw a) ∧ s.WarmedH U.vm ∧ s.sameButNew ({ U with vm := s.vm } : State) locs cells slots ∧
      ∃ ce, U.heap[a]? = some ce ∧ ce.vm = .none ∧ s.vm.findClass cls = some ce.cls := by
  have howns : e.platform.frameOwnsMonitors = true := by rw [X.admits.platform]
  have hfin : e.platform.finalization = false := by rw [X.admits.platform]
  have hpl : e.platform.magicAccessors = ({} : Platform).magicAccessors := by rw [X.admits.platform]
  have a' : ∀ x, x ∈ xsAtoms own ic cls ix rx cY r → x.holds args s none s [] = true := fun x hx => h x hx
  obtain ⟨T, Z0, L, -, Y⟩ := ThrowableC.of_atoms (args := args) howns hfin hpl (fun x hx => h x (by simp [xsAtoms, hx]))
  obtain ⟨Z, M, LZ, LM, hnZ⟩ := Init0T.ofS_atoms (args := args) hpl L Y (fun x hx => h x (by simp [xsAtoms, hx]))
  obtain ⟨P1, L1, hP1m, hs1⟩ := PassC.ofS_atoms (args := args) (s := s) hpl (X := cls) (Y := cY) (Bundle.fit_spec hcls).1 (Bundle.fit_spec hY).2 x0 x1 x2 x5 (fun x hx => h x (by simp only [xsAtoms, List.mem_append]; exact Or.inl (Or.inr (Or.inl hx))))
  obtain ⟨P2, Ps2, hlen2, L2, hL2, hm2, hsup2, hpass2⟩ := Bundle.chainS (args := args) hpl hnZ r cY hY hnames (fun x hx => h x (by simp only [xsAtoms, List.mem_append]; exact Or.inl (Or.inr (Or.inr hx))))
  have hlink1 : P1.sup = P2.m := Option.some.inj (hs1.symm.trans hm2)
  have hL : ∀ P, P ∈ P2 :: Ps2 → P.LinksS e.platform s := fun P hP => by
    rcases List.mem_cons.mp hP with rfl | hP
    · exact L2
    · exact hL2 P hP
  obtain ⟨Ps, hPs⟩ : ∃ Ps, Ps = P2 :: Ps2 := ⟨_, rfl⟩
  have hlen : Ps.length = r.length + 1 := by rw [hPs, List.length_cons, hlen2]
  have hlinkA : P1.sup = firstOf (Z.m T.toThrowableT) (Ps.map (·.toPassT)) ∧ PassesOn (Z.m T.toThrowableT) (Ps.map (·.toPassT)) := by subst hPs; exact ⟨hlink1, hsup2, hpass2⟩
  rw [← hPs] at hL
  have hfound : s.vm.findClass cls = some P1.m.cls := findClass_of_methodNamed hP1m
  cases Option.some.inj (hfoundX.symm.trans hfound)
  obtain ⟨c1, kX', hc1, hk, hord, -, -, hn6⟩ := Cond.instantiable_spec (a' (.instantiable cls 6) (by simp [xsAtoms]))
  cases Option.some.inj (hc1.symm.trans hfound)
  cases Option.some.inj (hkX.symm.trans hk)
  have hsel0 : selectMethod e.platform s.vm P1.m.cls T.fill0 = .method T.fill0 := by
    obtain ⟨c2, r2, m2, q1, q2, q3, q4, -⟩ := Cond.selects_spec (a' (.selects cls Bundle.tFill0 Bundle.tFill0) (by simp [xsAtoms]))
    cases Option.some.inj (q1.symm.trans hfound)
    cases Option.some.inj (q2.symm.trans (State.methodFound?_of_named Y.fill0 (by decide)))
    cases Option.some.inj (q3.symm.trans Y.fill0)
    rw [Launch.admits_selectMethod X.admits]; exact q4
  have hselF : selectMethod e.platform s.vm P1.m.cls T.fill = .method T.fill := by
    obtain ⟨c2, r2, m2, q1, q2, q3, q4, -⟩ := Cond.selects_spec (a' (.selects cls Bundle.tFill Bundle.tFill) (by simp [xsAtoms]))
    cases Option.some.inj (q1.symm.trans hfound)
    cases Option.some.inj (q2.symm.trans (State.methodFound?_of_named Y.fill (by decide)))
    cases Option.some.inj (q3.symm.trans Y.fill)
    rw [Launch.admits_selectMethod X.admits]; exact q4
  obtain ⟨cellS0, hcS0, hiss⟩ := Y.statics
  obtain ⟨u0, hu0⟩ := Cond.staticRefV Y.unassigned L.unassignedStatic L.statics hcS0 hiss (a' (.isRef (.static Bundle.tN "UNASSIGNED_STACK" Bundle.steD)) (by simp [xsAtoms]))
  obtain ⟨sen, hsen⟩ := Cond.staticRefV Y.sentinel L.sentinelStatic L.statics hcS0 hiss (a' (.isRef (.static Bundle.tN "SUPPRESSED_SENTINEL" Bundle.listD)) (by simp [xsAtoms]))
  obtain ⟨ci198, i198, fB, hk198, hg198, ha198, hsB, -, hnB, htB, hffB⟩ := Cond.ownField (t := .object "java/lang/Object") Y.found L.cls (by decide +kernel) (a' (.fieldLink Bundle.tN 198 Bundle.tN "backtrace" "Ljava/lang/Object;") (by simp [xsAtoms])) (a' (.lays Bundle.tN Bundle.tN "backtrace" "Ljava/lang/Object;") (by simp [xsAtoms])) e.platform hpl
  obtain ⟨cellS, hcS', heS, -, hkeep⟩ := X.same.2.2.2.2.2 T.aS cellS0 hcS0
  have hcellS : W.heap[T.aS]? = some cellS := hcS'
  have hout' : ∀ i, (⟨T.aS, i⟩ : Loc) ∉ locs := fun i hmem => by
    have := hlocs _ hmem cellS0 hcS0
    rw [hiss] at this; cases this
  have hknownS : cellS.vm ≠ .unknown := by
    rw [heS]; intro hu
    rw [show cellS0.vm = .unknown from hu] at hiss
    cases hiss
  have hneS : T.aS ≠ a := Nat.ne_of_lt (Nat.lt_of_lt_of_le (Array.getElem?_eq_some_iff.mp hcS0).1 hnew)
  obtain ⟨iM, hffM⟩ := Y.msg
  obtain ⟨tyC, dC, hdC, hdnC⟩ := Cond.laysAt hfound hk Y.cause (a' (.lays cls Bundle.tN "cause" "Ljava/lang/Throwable;") (by simp [xsAtoms]))
  obtain ⟨tyS, dS, hdS, hdnS⟩ := Cond.laysAt hfound hk Y.stack (a' (.lays cls Bundle.tN "stackTrace" Bundle.steD) (by simp [xsAtoms]))
  obtain ⟨tyP, dP, hdP, hdnP⟩ := Cond.laysAt hfound hk Y.supp (a' (.lays cls Bundle.tN "suppressedExceptions" Bundle.listD) (by simp [xsAtoms]))
  obtain ⟨tyM, dM, hdM, hdnM⟩ := Cond.laysAt hfound hk hffM (a' (.lays cls Bundle.tN "detailMessage" "Ljava/lang/String;") (by simp [xsAtoms]))
  obtain ⟨tyB, dB, hdB, hdnB⟩ := Cond.laysAt hfound hk hffB (a' (.lays cls Bundle.tN "backtrace" "Ljava/lang/Object;") (by simp [xsAtoms]))
  have bC := Cond.laysApart hdB hdC hdnB hdnC (by rw [hnB, Y.causeName]; decide)
  have bS := Cond.laysApart hdB hdS hdnB hdnS (by rw [hnB, Y.stackName]; decide)
  have bP := Cond.laysApart hdB hdP hdnB hdnP (by rw [hnB, Y.suppName]; decide)
  have hskip : SkipFacts T e.platform s (fun u => u) u0 ((preparedCellV T.toThrowableT (freshCell P1.m.cls kX) a u0 sen).withEntry W.cur) :=
    ⟨{ ci198 := ci198, i198 := i198, fBack := fB }, ⟨hk198, hg198, ha198, hsB⟩, by
      have := fresh_default (c := P1.m.cls) tyB
      rw [htB] at this
      simpa [preparedCellV, Cell.setSlot, Cell.withEntry, Array.getElem?_setIfInBounds, bC, bS, bP, bC.symm, bS.symm, bP.symm, defaultValue] using this, fun _ _ => rfl⟩
                                     
  obtain ⟨tm, methC, cdC, kC, vm₁, hnC, -, -, -, -, -, -, -, hW₁, st1⟩ := Steps.initColdS (tb := p.tables) (e := e) (below := below) (s := s) (U := W) X.here hexec X.warmed hpl hown (t := Bundle.initS cls) rfl rfl (Bundle.fit_spec hcls).2
    (a' (.methodLink own ic (Bundle.initS cls)) (by simp [xsAtoms])) (h (.instanceMethod (Bundle.initS cls)) (by simp [xsAtoms, Bundle.passSAtoms])) (bytes := rx) (maxL := 2) (h (.code (Bundle.initS cls) rx 2 none) (by simp [xsAtoms, Bundle.passSAtoms]))
    (f := g) hg (a := a) (msg := msg) (rest := .ref a :: rest) hstack hd6
  cases Option.some.inj (hnC.symm.trans hP1m)
  have X₁ := X.noted hW₁
                                 
  obtain ⟨vm₂, X₂, st2⟩ := X₁.ctorMessageOffV hexec (g := { g with stack := .ref a :: rest }) hg hsize T L Z LZ M LM (P1 :: Ps)
    (fun P hP => by rcases List.mem_cons.mp hP with rfl | hP; exact L1; exact hL P hP) hlinkA (u0 := u0) (sen := sen) (self := a) hmsg (cell := freshCell P1.m.cls kX) (cellS := cellS)
    hcell (fun _ => by simp) (by simp) rfl rfl hsel0 hselF hcellS hneS hknownS (by rw [hkeep _ (hout' _)]; exact hu0) (by rw [hkeep _ (hout' _)]; exact hsen)
    (Takes.of_laid hk hord tyC (by rw [Y.causeType]; rfl)) (Takes.of_laid hk hord tyS (by rw [Y.stackType]; exact fits_refV_array _ u0)) (Takes.of_laid hk hord tyP (by rw [Y.suppType]; exact fits_refV_object _ sen))
    (Takes.of_laid hk hord tyM (by rw [Y.msgType]; exact fits_refV_object _ ⟨msg, hmsg⟩)) Y.objLocals hskip htr [] hd6
    (by simp only [List.length_cons, hlen]; omega) (by simp only [List.length_cons, hlen]; exact hRlocals)
                                    
  obtain ⟨hwalk, hrun, hended, hWU, hsame⟩ := X₂.athrowLeaves hexec (g := { g with stack := .ref a :: rest, pc := g.pc + 3 }) hg hlocked hentered hout (a := a) (rest := rest) rfl hd9
  obtain ⟨c3, c4, hc3, hc4, hasg⟩ := Cond.castable_spec (a' (.castable cls cls) (by simp [xsAtoms]))
  cases Option.some.inj (hc3.symm.trans hfound)
  cases Option.some.inj (hc4.symm.trans hfound)
  have hlt : a < ((W.setVm vm₁).setVm vm₂).heap.size := (Array.getElem?_eq_some_iff.mp hcell).1
  have hU := heapAt_setCell_self (s := (W.setVm vm₁).setVm vm₂) (plainBareV T.toThrowableT (freshCell P1.m.cls kX) a u0 sen msg) hlt
  refine ⟨_, st1 _ (fun acts => ?_), hrun, hended, hWU, hsame.weaken (fun y hy hlt' => ?_) (Nat.le_refl _) (Nat.le_refl _), _, hU, ?_⟩
  · rw [doInvoke_state]
    exact st2 _ hwalk
  · rcases List.mem_append.mp hy with h1 | h1
    · exact h1
    · exfalso
      have hb : y.base = a := by
        simp only [List.mem_cons, List.not_mem_nil, or_false] at h1
        rcases h1 with rfl | rfl | rfl | rfl | rfl <;> rfl
      rw [hb] at hlt'
      exact Nat.not_lt.mpr hnew hlt'
  · exact ⟨rfl, hfound⟩
/-- vx_throwS of the printed rows, over x_ctorThrow -/
theorem x_throwS {p : Program} {l : Launch} {e : Env} {R : Room} {s : State} {m : MethodId} {args : Array Value} {below : List Frame} {meth : Method} {c : Code} {H : Heap} {locs : List Loc} {cells slots : Nat} {free : Addr → Prop} {ls : Array Slot} {rest : List Value} {Qc : Array Value → State → Outcome → State → Prop} {XC : String → State → State → Prop} {cc : ByteArray} {pc : Nat} (hexec : p.tables.exec = Jvm.exec) (hb : c.code = cc) (hl : l.stackTraces = false) {own cls text cY : String} {r : List String} {ix : Nat} {rx : ByteArray} (x0 : decode rx 0 = .ok (.aload_n 0, 1)) (x1 : decode rx 1 = .ok (.aload_n 1, 1)) (x2 : decode rx 2 = .ok (.invokespecial ix, 3)) (x5 : decode rx 5 = .ok (.return_, 1)) {ik is ic mc ms sa : Nat} {A : Nat → Prop}
    (hown : s.vm.findClass own = some m.cls) (hcls : Bundle.fit cls = true) (hY : Bundle.fit cY = true) (hnames : ∀ n ∈ r, Bundle.fit n = true)
    (hk : (Cond.classLink own ik cls).before args s = true) (hini : (Cond.initialized cls).before args s = true) (hstr : vk_R own is text sa s) (hat : ∀ w ∈ xs_at own ic cls ix rx cY r, w.before args s = true)
    (hgood : ∀ w ∈ Cond.classLink own ik cls :: Cond.initialized cls :: xs_at own ic cls ix rx cY r, vx_ot w = true)
    (hU : vx_Zq Bundle.tN "UNASSIGNED_STACK" Bundle.steD A s s.heap) (hN : vx_Zq Bundle.tN "SUPPRESSED_SENTINEL" Bundle.listD A s s.heap) (hS : va_S A s.heap H locs) (hsize : ls.size = c.maxLocals)
    (d0 : decode cc pc = .ok (.new ik, 3)) (d3 : decode cc (pc + 3) = .ok (.dup, 1)) (d4 : decode cc (pc + 4) = .ok (.ldc is, 2)) (d6 : decode cc (pc + 6) = .ok (.invokespecial ic, 3)) (d9 : decode cc (pc + 9) = .ok (.athrow, 1))
    (hout : ∀ x ∈ c.exceptionTable.toList, covers x (pc + 9) = false)
    (hRframes : (r.length + 1) + 3 < R.frames) (hRlocals : (rest.map fun v => v.category).sum + (13 * ((r.length + 1) + 1) + 43) ≤ R.locals) (hRcells : cells + 1 ≤ R.cells) (hRslots : slots + 6 ≤ R.slots) (hlocks : meth.locks = false)
    (hx : ∀ t : State, s.vm.Alike t.vm → H.size ≤ t.heap.size → (∀ q : Nat, q < H.size → t.heap[q]? = H[q]?) → XC cls s t)
    (hf : ∀ z ∈ locs, free z.base) (hc : cells + 1 ≤ mc) (hs : slots + 6 ≤ ms) :
    W p l e R s m args below meth c H locs cells slots (vx_MQ below Qc XC args s mc ms free) (F0 m pc ls rest) := by
  intro T hT X
  have htr : e.platform.stackTraces = false := (show e.platform.stackTraces = l.stackTraces by rw [X.admits.platform]).trans hl
  have Y := vx_rebase X (R' := { frames := R.frames, locals := R.locals, cells := 1, slots := 6 }) (Nat.le_refl _) (Nat.le_refl _) hRcells hRslots
  obtain ⟨s', hA⟩ : ∃ z, z = (T.setVm s.vm).setFrames (.invoking m args :: below) := ⟨_, rfl⟩
  rw [← hA] at Y
  have hvm : s'.vm = s.vm := by rw [hA]; rfl
  have hhp : s'.heap = H := by rw [hA]; exact hT
  have hW0 : s.WarmedH s'.vm := by rw [hvm]; exact State.WarmedH.refl s
  have hat' : ∀ w ∈ xs_at own ic cls ix rx cY r, w.before args s' = true := fun w hw => vx_ot_at hW0 hvm.symm (hgood w (List.mem_cons_of_mem _ (List.mem_cons_of_mem _ hw))) (hat w hw)
  have hk' : (Cond.classLink own ik cls).before args s' = true := vx_ot_at hW0 hvm.symm (hgood _ List.mem_cons_self) hk
  have hini' : (Cond.initialized cls).before args s' = true := vx_ot_at hW0 hvm.symm (hgood _ (List.mem_cons_of_mem _ List.mem_cons_self)) hini
  have hU' : vx_Zq Bundle.tN "UNASSIGNED_STACK" Bundle.steD A s' s'.heap := by rw [hhp]; exact vx_Zq.moved hW0.alike (hU.kept hS.2.1)
  have hN' : vx_Zq Bundle.tN "SUPPRESSED_SENTINEL" Bundle.listD A s' s'.heap := by rw [hhp]; exact vx_Zq.moved hW0.alike (hN.kept hS.2.1)
  have h : ∀ w ∈ xsAtoms own ic cls ix rx cY r, w.before args s' = true := vx_own hat' (vx_isRefq hU'.1) (vx_isRefq hN'.1) hU'.2.word hN'.2.word
  have hown' : s'.vm.findClass own = some m.cls := by rw [hvm]; exact hown
  have hins : (Cond.instantiable cls 6).before args s' = true := h _ (by simp [xsAtoms])
  obtain ⟨vm₁, cX, kX, hfX, hkX, -, -, X₁, st1⟩ := Y.newCold hexec (own := own) (C := cls) (index := ik) (n := 6) hown' hk' hins hini'
    (g := F0 m pc ls rest) rfl (by rw [hb]; exact d0) (Nat.le_refl _) (Nat.le_refl _)
  generalize hT1 : (T.setVm vm₁).pushCell { cls := cX, slots := kX.instanceTypes.map defaultValue, vm := .none } = T1 at X₁ st1
  have hcat : (Value.ref T.heap.size).category = 1 := rfl
  have hcellA : T1.heap[T.heap.size]? = some (freshCell cX kX) := by rw [← hT1]; exact State.heap_pushCell_size _ _
  have d3' : decode c.code (pc + 3) = .ok (.dup, 1) := by rw [hb]; exact d3
  have d4' : decode c.code (pc + 4) = .ok (.ldc is, 2) := by rw [hb]; exact d4
  have hstr' : vk_R own is text sa s' := vk_R.warm hW0 hstr
  obtain ⟨U, hsteps, hrun, hend, hW, hsame, ce, hce, hOv, hOc⟩ := x_ctorThrow X₁ hexec htr (own := own) (cls := cls) (cY := cY) (r := r) (ic := ic) x0 x1 x2 x5 hown' hcls hY hnames h (fun x hx => nomatch hx) hfX hkX hcellA (by rw [hhp, hT]; exact Nat.le_refl _) (msg := .ref sa) rfl
    (g := { method := m, pc := pc + 6, locals := ls, stack := .ref sa :: .ref T.heap.size :: .ref T.heap.size :: rest, locked := none }) rfl hsize rfl rfl (rest := rest) rfl
    (by rw [hb]; exact d6) (by rw [hb]; exact d9) hout hRframes (by simp only [List.map_cons, List.sum_cons, hcat]; omega) hlocks
  obtain ⟨f1, f2⟩ := vx_frame hsame
  rw [hhp] at f1 f2
  have hWs : s.WarmedH U.vm := State.WarmedH.trans hW0 hW
  have hcl : s.vm.findClass cls = some ce.cls := by
    have h9 := hOc
    rw [hvm] at h9
    exact h9
  have hall : s.sameButNew ({ U with vm := s.vm } : State) locs mc ms := by
    subst hA
    obtain ⟨e1, e2⟩ := hsame
    rw [State.setFrames_setFrames] at e1
    have h2 : (T.setVm s.vm).sameButNew ({ U with vm := s.vm } : State) [] (0 + 1) (0 + 6) := ⟨e1, e2⟩
    have h3 := X.same.trans h2
    rw [List.append_nil] at h3
    exact h3.mono hc hs
  refine ⟨U, ?_, .threw T.heap.size, hrun, hend, Or.inr ⟨T.heap.size, rfl, cls, ce, locs, hx U hWs.alike f1 (fun q hq => f2 q hq (fun z hz => nomatch hz)), hce, hOv, hcl, hWs, hall, hf⟩⟩
  refine st1 _ ?_
  show Steps p.tables e below (T1.setTop { method := m, pc := pc + 3, locals := ls, stack := .ref T.heap.size :: rest, locked := none }) _
  jvm_step X₁.here [X₁.here.top, hexec, d3', Value.category]
  exact X₁.ldcString hexec (own := own) (text := text) (index := is) (a := sa) hown' hstr'.1 hstr'.2
    (g := { method := m, pc := pc + 4, locals := ls, stack := .ref T.heap.size :: .ref T.heap.size :: rest, locked := none }) rfl d4' _ hsteps
end
section
/-! the words of the throws -/
def exCast : List (String × String) := [("java/lang/IndexOutOfBoundsException", "java/lang/IndexOutOfBoundsException"), ("java/lang/IllegalArgumentException", "java/lang/IllegalArgumentException"), ("java/lang/IllegalStateException", "java/lang/IllegalStateException"), ("java/util/NoSuchElementException", "java/util/NoSuchElementException")]
def exDecl : List MethodName := [⟨"java/lang/RuntimeException", "<init>", "()V"⟩, ⟨"java/lang/RuntimeException", "<init>", "(Ljava/lang/String;)V"⟩, ⟨"java/lang/Exception", "<init>", "()V"⟩, ⟨"java/lang/Exception", "<init>", "(Ljava/lang/String;)V"⟩, ⟨"java/lang/Throwable", "<init>", "()V"⟩, ⟨"java/lang/Throwable", "<init>", "(Ljava/lang/String;)V"⟩]
def exStr : List (Nat × String) := [(162, "no such site"), (167, "no such line"), (48, "no such value"), (183, "no more deeds"), (174, "line is not there"), (80, "no such number of rows"), (180, "no such note"), (99, "no page to print"), (113, "not printed"), (185, "below 0"), (125, "no such question")]
def exSX : List Cond := [(Jvm.Cond.initialized "java/lang/Throwable"), (Jvm.Cond.initialized "java/lang/Exception"), (Jvm.Cond.initialized "java/lang/RuntimeException"), (Jvm.Cond.initialized "java/lang/IndexOutOfBoundsException"), (Jvm.Cond.initialized "java/lang/IllegalArgumentException"), (Jvm.Cond.initialized "java/lang/IllegalStateException"), (Jvm.Cond.initialized "java/util/NoSuchElementException"), (Jvm.Cond.methodLink "Mergeparlour" (1 : Nat) ({ cls := "java/lang/Object", name := "<init>", desc := "()V" } : Jvm.MethodName)), (Jvm.Cond.instanceMethod ({ cls := "java/lang/Object", name := "<init>", desc := "()V" } : Jvm.MethodName)), (Jvm.Cond.code ({ cls := "java/lang/Object", name := "<init>", desc := "()V" } : Jvm.MethodName) object_method_1_code (1 : Nat) (Option.none : Option Jvm.ClassFile.FieldType)), (Jvm.Cond.methodLink "Mergeparlour$Ledger" (3 : Nat) ({ cls := "java/lang/Object", name := "<init>", desc := "()V" } : Jvm.MethodName)), (Jvm.Cond.methodLink "Mergeparlour$Numbers" (3 : Nat) ({ cls := "java/lang/Object", name := "<init>", desc := "()V" } : Jvm.MethodName)), (Jvm.Cond.superclass "Mergeparlour$Numbers" "java/lang/Object"), (Jvm.Cond.superclass "Mergeparlour$Ledger" "java/lang/Object"), (Jvm.Cond.methodLink "Mergeparlour$Site" (3 : Nat) ({ cls := "java/lang/Object", name := "<init>", desc := "()V" } : Jvm.MethodName)), (Jvm.Cond.methodLink "Mergeparlour$Text" (3 : Nat) ({ cls := "java/lang/Object", name := "<init>", desc := "()V" } : Jvm.MethodName)), (Jvm.Cond.superclass "Mergeparlour$Text" "java/lang/Object"), (Jvm.Cond.methodLink "Mergeparlour$Layout" (3 : Nat) ({ cls := "java/lang/Object", name := "<init>", desc := "()V" } : Jvm.MethodName)), (Jvm.Cond.superclass "Mergeparlour$Layout" "java/lang/Object"), (Jvm.Cond.superclass "Mergeparlour$Site" "java/lang/Object"), (Jvm.Cond.methodLink "Mergeparlour$Press" (3 : Nat) ({ cls := "java/lang/Object", name := "<init>", desc := "()V" } : Jvm.MethodName)), (Jvm.Cond.superclass "Mergeparlour$Press" "java/lang/Object"), (Jvm.Cond.superclass "Mergeparlour" "java/lang/Object"), (Jvm.Cond.classLink "MergeparlourLaw" (13 : Nat) "java/lang/IndexOutOfBoundsException"), (Jvm.Cond.classLink "MergeparlourLaw" (15 : Nat) "java/lang/IllegalArgumentException"), (Jvm.Cond.classLink "MergeparlourLaw" (17 : Nat) "java/lang/IllegalStateException"), (Jvm.Cond.classLink "Mergeparlour" (111 : Nat) "java/lang/IndexOutOfBoundsException"), (Jvm.Cond.instantiable "java/lang/IndexOutOfBoundsException" (6 : Nat)), (Jvm.Cond.selects "java/lang/IndexOutOfBoundsException" ({ cls := "java/lang/Throwable", name := "fillInStackTrace", desc := "(I)Ljava/lang/Throwable;" } : Jvm.MethodName) ({ cls := "java/lang/Throwable", name := "fillInStackTrace", desc := "(I)Ljava/lang/Throwable;" } : Jvm.MethodName)), (Jvm.Cond.selects "java/lang/IndexOutOfBoundsException" ({ cls := "java/lang/Throwable", name := "fillInStackTrace", desc := "()Ljava/lang/Throwable;" } : Jvm.MethodName) ({ cls := "java/lang/Throwable", name := "fillInStackTrace", desc := "()Ljava/lang/Throwable;" } : Jvm.MethodName)), (Jvm.Cond.lays "java/lang/IndexOutOfBoundsException" "java/lang/Throwable" "cause" "Ljava/lang/Throwable;"), (Jvm.Cond.lays "java/lang/Throwable" "java/lang/Throwable" "cause" "Ljava/lang/Throwable;"), (Jvm.Cond.lays "java/lang/IndexOutOfBoundsException" "java/lang/Throwable" "stackTrace" "[Ljava/lang/StackTraceElement;"), (Jvm.Cond.lays "java/lang/Throwable" "java/lang/Throwable" "stackTrace" "[Ljava/lang/StackTraceElement;"), (Jvm.Cond.lays "java/lang/IndexOutOfBoundsException" "java/lang/Throwable" "suppressedExceptions" "Ljava/util/List;"), (Jvm.Cond.lays "java/lang/Throwable" "java/lang/Throwable" "suppressedExceptions" "Ljava/util/List;"), (Jvm.Cond.lays "java/lang/IndexOutOfBoundsException" "java/lang/Throwable" "detailMessage" "Ljava/lang/String;"), (Jvm.Cond.lays "java/lang/Throwable" "java/lang/Throwable" "detailMessage" "Ljava/lang/String;"), (Jvm.Cond.lays "java/lang/IndexOutOfBoundsException" "java/lang/Throwable" "backtrace" "Ljava/lang/Object;"), (Jvm.Cond.lays "java/lang/Throwable" "java/lang/Throwable" "backtrace" "Ljava/lang/Object;"), (Jvm.Cond.fieldLink "java/lang/Throwable" (198 : Nat) "java/lang/Throwable" "backtrace" "Ljava/lang/Object;"), (Jvm.Cond.superclass "java/lang/Throwable" "java/lang/Object"), (Jvm.Cond.instanceMethod ({ cls := "java/lang/Throwable", name := "<init>", desc := "()V" } : Jvm.MethodName)), (Jvm.Cond.code ({ cls := "java/lang/Throwable", name := "<init>", desc := "()V" } : Jvm.MethodName) prog_18_method_1_code (1 : Nat) (Option.none : Option Jvm.ClassFile.FieldType)), (Jvm.Cond.methodLink "java/lang/Throwable" (1 : Nat) ({ cls := "java/lang/Object", name := "<init>", desc := "()V" } : Jvm.MethodName)), (Jvm.Cond.fieldLink "java/lang/Throwable" (13 : Nat) "java/lang/Throwable" "UNASSIGNED_STACK" "[Ljava/lang/StackTraceElement;"), (Jvm.Cond.fieldLink "java/lang/Throwable" (20 : Nat) "java/lang/Throwable" "SUPPRESSED_SENTINEL" "Ljava/util/List;"), (Jvm.Cond.methodLink "java/lang/Throwable" (27 : Nat) ({ cls := "java/lang/Throwable", name := "fillInStackTrace", desc := "()Ljava/lang/Throwable;" } : Jvm.MethodName)), (Jvm.Cond.instanceMethod ({ cls := "java/lang/Throwable", name := "fillInStackTrace", desc := "()Ljava/lang/Throwable;" } : Jvm.MethodName)), (Jvm.Cond.sameMethod "java/lang/Throwable" "java/lang/Throwable" "fillInStackTrace" "()Ljava/lang/Throwable;"), (Jvm.Cond.selects "java/lang/IllegalArgumentException" ({ cls := "java/lang/Throwable", name := "fillInStackTrace", desc := "()Ljava/lang/Throwable;" } : Jvm.MethodName) ({ cls := "java/lang/Throwable", name := "fillInStackTrace", desc := "()Ljava/lang/Throwable;" } : Jvm.MethodName)), (Jvm.Cond.selects "java/lang/IllegalStateException" ({ cls := "java/lang/Throwable", name := "fillInStackTrace", desc := "()Ljava/lang/Throwable;" } : Jvm.MethodName) ({ cls := "java/lang/Throwable", name := "fillInStackTrace", desc := "()Ljava/lang/Throwable;" } : Jvm.MethodName)), (Jvm.Cond.selects "java/util/NoSuchElementException" ({ cls := "java/lang/Throwable", name := "fillInStackTrace", desc := "()Ljava/lang/Throwable;" } : Jvm.MethodName) ({ cls := "java/lang/Throwable", name := "fillInStackTrace", desc := "()Ljava/lang/Throwable;" } : Jvm.MethodName)), (Jvm.Cond.codeSync ({ cls := "java/lang/Throwable", name := "fillInStackTrace", desc := "()Ljava/lang/Throwable;" } : Jvm.MethodName) prog_18_method_18_code (1 : Nat) (Option.some (Jvm.ClassFile.FieldType.object "java/lang/Throwable"))), (Jvm.Cond.methodLink "java/lang/Throwable" (202 : Nat) ({ cls := "java/lang/Throwable", name := "fillInStackTrace", desc := "(I)Ljava/lang/Throwable;" } : Jvm.MethodName)), (Jvm.Cond.instanceMethod ({ cls := "java/lang/Throwable", name := "fillInStackTrace", desc := "(I)Ljava/lang/Throwable;" } : Jvm.MethodName)), (Jvm.Cond.instantiable "java/lang/Throwable" (6 : Nat)), (Jvm.Cond.native ({ cls := "java/lang/Throwable", name := "fillInStackTrace", desc := "(I)Ljava/lang/Throwable;" } : Jvm.MethodName)), (Jvm.Cond.methodLink "Mergeparlour" (115 : Nat) ({ cls := "java/lang/IndexOutOfBoundsException", name := "<init>", desc := "(Ljava/lang/String;)V" } : Jvm.MethodName)), (Jvm.Cond.instanceMethod ({ cls := "java/lang/IndexOutOfBoundsException", name := "<init>", desc := "(Ljava/lang/String;)V" } : Jvm.MethodName)), (Jvm.Cond.code ({ cls := "java/lang/IndexOutOfBoundsException", name := "<init>", desc := "(Ljava/lang/String;)V" } : Jvm.MethodName) prog_14_method_2_code (2 : Nat) (Option.none : Option Jvm.ClassFile.FieldType)), (Jvm.Cond.methodLink "java/lang/IndexOutOfBoundsException" (7 : Nat) ({ cls := "java/lang/RuntimeException", name := "<init>", desc := "(Ljava/lang/String;)V" } : Jvm.MethodName)), (Jvm.Cond.instanceMethod ({ cls := "java/lang/RuntimeException", name := "<init>", desc := "(Ljava/lang/String;)V" } : Jvm.MethodName)), (Jvm.Cond.code ({ cls := "java/lang/RuntimeException", name := "<init>", desc := "(Ljava/lang/String;)V" } : Jvm.MethodName) prog_16_method_2_code (2 : Nat) (Option.none : Option Jvm.ClassFile.FieldType)), (Jvm.Cond.methodLink "java/lang/RuntimeException" (7 : Nat) ({ cls := "java/lang/Exception", name := "<init>", desc := "(Ljava/lang/String;)V" } : Jvm.MethodName)), (Jvm.Cond.instanceMethod ({ cls := "java/lang/Exception", name := "<init>", desc := "(Ljava/lang/String;)V" } : Jvm.MethodName)), (Jvm.Cond.code ({ cls := "java/lang/Exception", name := "<init>", desc := "(Ljava/lang/String;)V" } : Jvm.MethodName) prog_11_method_2_code (2 : Nat) (Option.none : Option Jvm.ClassFile.FieldType)), (Jvm.Cond.methodLink "java/lang/Exception" (7 : Nat) ({ cls := "java/lang/Throwable", name := "<init>", desc := "(Ljava/lang/String;)V" } : Jvm.MethodName)), (Jvm.Cond.instanceMethod ({ cls := "java/lang/Throwable", name := "<init>", desc := "(Ljava/lang/String;)V" } : Jvm.MethodName)), (Jvm.Cond.code ({ cls := "java/lang/Throwable", name := "<init>", desc := "(Ljava/lang/String;)V" } : Jvm.MethodName) prog_18_method_2_code (2 : Nat) (Option.none : Option Jvm.ClassFile.FieldType)), (Jvm.Cond.fieldLink "java/lang/Throwable" (198 : Nat) "java/lang/Throwable" "backtrace" "Ljava/lang/Object;"), (Jvm.Cond.fieldLink "java/lang/Throwable" (31 : Nat) "java/lang/Throwable" "detailMessage" "Ljava/lang/String;"), (Jvm.Cond.fieldLink "java/lang/Throwable" (7 : Nat) "java/lang/Throwable" "cause" "Ljava/lang/Throwable;"), (Jvm.Cond.fieldLink "java/lang/Throwable" (17 : Nat) "java/lang/Throwable" "stackTrace" "[Ljava/lang/StackTraceElement;"), (Jvm.Cond.fieldLink "java/lang/Throwable" (24 : Nat) "java/lang/Throwable" "suppressedExceptions" "Ljava/util/List;"), (Jvm.Cond.lays "java/lang/IndexOutOfBoundsException" "java/lang/Throwable" "depth" "I"), (Jvm.Cond.superclass "java/lang/IndexOutOfBoundsException" "java/lang/RuntimeException"), (Jvm.Cond.classLink "Mergeparlour" (46 : Nat) "java/lang/IllegalArgumentException"), (Jvm.Cond.instantiable "java/lang/IllegalArgumentException" (6 : Nat)), (Jvm.Cond.selects "java/lang/IllegalArgumentException" ({ cls := "java/lang/Throwable", name := "fillInStackTrace", desc := "(I)Ljava/lang/Throwable;" } : Jvm.MethodName) ({ cls := "java/lang/Throwable", name := "fillInStackTrace", desc := "(I)Ljava/lang/Throwable;" } : Jvm.MethodName)), (Jvm.Cond.lays "java/lang/IllegalArgumentException" "java/lang/Throwable" "cause" "Ljava/lang/Throwable;"), (Jvm.Cond.lays "java/lang/IllegalArgumentException" "java/lang/Throwable" "stackTrace" "[Ljava/lang/StackTraceElement;"), (Jvm.Cond.lays "java/lang/IllegalArgumentException" "java/lang/Throwable" "suppressedExceptions" "Ljava/util/List;"), (Jvm.Cond.lays "java/lang/IllegalArgumentException" "java/lang/Throwable" "detailMessage" "Ljava/lang/String;"), (Jvm.Cond.lays "java/lang/IllegalArgumentException" "java/lang/Throwable" "backtrace" "Ljava/lang/Object;"), (Jvm.Cond.methodLink "Mergeparlour" (50 : Nat) ({ cls := "java/lang/IllegalArgumentException", name := "<init>", desc := "(Ljava/lang/String;)V" } : Jvm.MethodName)), (Jvm.Cond.instanceMethod ({ cls := "java/lang/IllegalArgumentException", name := "<init>", desc := "(Ljava/lang/String;)V" } : Jvm.MethodName)), (Jvm.Cond.code ({ cls := "java/lang/IllegalArgumentException", name := "<init>", desc := "(Ljava/lang/String;)V" } : Jvm.MethodName) prog_12_method_2_code (2 : Nat) (Option.none : Option Jvm.ClassFile.FieldType)), (Jvm.Cond.methodLink "java/lang/IllegalArgumentException" (7 : Nat) ({ cls := "java/lang/RuntimeException", name := "<init>", desc := "(Ljava/lang/String;)V" } : Jvm.MethodName)), (Jvm.Cond.lays "java/lang/IllegalArgumentException" "java/lang/Throwable" "depth" "I"), (Jvm.Cond.superclass "java/lang/IllegalArgumentException" "java/lang/RuntimeException"), (Jvm.Cond.classLink "Mergeparlour" (97 : Nat) "java/lang/IllegalStateException"), (Jvm.Cond.instantiable "java/lang/IllegalStateException" (6 : Nat)), (Jvm.Cond.selects "java/lang/IllegalStateException" ({ cls := "java/lang/Throwable", name := "fillInStackTrace", desc := "(I)Ljava/lang/Throwable;" } : Jvm.MethodName) ({ cls := "java/lang/Throwable", name := "fillInStackTrace", desc := "(I)Ljava/lang/Throwable;" } : Jvm.MethodName)), (Jvm.Cond.lays "java/lang/IllegalStateException" "java/lang/Throwable" "cause" "Ljava/lang/Throwable;"), (Jvm.Cond.lays "java/lang/IllegalStateException" "java/lang/Throwable" "stackTrace" "[Ljava/lang/StackTraceElement;"), (Jvm.Cond.lays "java/lang/IllegalStateException" "java/lang/Throwable" "suppressedExceptions" "Ljava/util/List;"), (Jvm.Cond.lays "java/lang/IllegalStateException" "java/lang/Throwable" "detailMessage" "Ljava/lang/String;"), (Jvm.Cond.lays "java/lang/IllegalStateException" "java/lang/Throwable" "backtrace" "Ljava/lang/Object;"), (Jvm.Cond.methodLink "Mergeparlour" (101 : Nat) ({ cls := "java/lang/IllegalStateException", name := "<init>", desc := "(Ljava/lang/String;)V" } : Jvm.MethodName)), (Jvm.Cond.instanceMethod ({ cls := "java/lang/IllegalStateException", name := "<init>", desc := "(Ljava/lang/String;)V" } : Jvm.MethodName)), (Jvm.Cond.code ({ cls := "java/lang/IllegalStateException", name := "<init>", desc := "(Ljava/lang/String;)V" } : Jvm.MethodName) prog_13_method_2_code (2 : Nat) (Option.none : Option Jvm.ClassFile.FieldType)), (Jvm.Cond.methodLink "java/lang/IllegalStateException" (7 : Nat) ({ cls := "java/lang/RuntimeException", name := "<init>", desc := "(Ljava/lang/String;)V" } : Jvm.MethodName)), (Jvm.Cond.lays "java/lang/IllegalStateException" "java/lang/Throwable" "depth" "I"), (Jvm.Cond.superclass "java/lang/IllegalStateException" "java/lang/RuntimeException"), (Jvm.Cond.classLink "MergeparlourLaw" (23 : Nat) "java/util/NoSuchElementException"), (Jvm.Cond.classLink "Mergeparlour" (172 : Nat) "java/util/NoSuchElementException"), (Jvm.Cond.instantiable "java/util/NoSuchElementException" (6 : Nat)), (Jvm.Cond.selects "java/util/NoSuchElementException" ({ cls := "java/lang/Throwable", name := "fillInStackTrace", desc := "(I)Ljava/lang/Throwable;" } : Jvm.MethodName) ({ cls := "java/lang/Throwable", name := "fillInStackTrace", desc := "(I)Ljava/lang/Throwable;" } : Jvm.MethodName)), (Jvm.Cond.lays "java/util/NoSuchElementException" "java/lang/Throwable" "cause" "Ljava/lang/Throwable;"), (Jvm.Cond.lays "java/util/NoSuchElementException" "java/lang/Throwable" "stackTrace" "[Ljava/lang/StackTraceElement;"), (Jvm.Cond.lays "java/util/NoSuchElementException" "java/lang/Throwable" "suppressedExceptions" "Ljava/util/List;"), (Jvm.Cond.lays "java/util/NoSuchElementException" "java/lang/Throwable" "detailMessage" "Ljava/lang/String;"), (Jvm.Cond.lays "java/util/NoSuchElementException" "java/lang/Throwable" "backtrace" "Ljava/lang/Object;"), (Jvm.Cond.methodLink "Mergeparlour" (176 : Nat) ({ cls := "java/util/NoSuchElementException", name := "<init>", desc := "(Ljava/lang/String;)V" } : Jvm.MethodName)), (Jvm.Cond.instanceMethod ({ cls := "java/util/NoSuchElementException", name := "<init>", desc := "(Ljava/lang/String;)V" } : Jvm.MethodName)), (Jvm.Cond.code ({ cls := "java/util/NoSuchElementException", name := "<init>", desc := "(Ljava/lang/String;)V" } : Jvm.MethodName) prog_19_method_4_code (2 : Nat) (Option.none : Option Jvm.ClassFile.FieldType)), (Jvm.Cond.methodLink "java/util/NoSuchElementException" (13 : Nat) ({ cls := "java/lang/RuntimeException", name := "<init>", desc := "(Ljava/lang/String;)V" } : Jvm.MethodName)), (Jvm.Cond.lays "java/util/NoSuchElementException" "java/lang/Throwable" "depth" "I"), (Jvm.Cond.superclass "java/util/NoSuchElementException" "java/lang/RuntimeException"), (Jvm.Cond.methodLink "MergeparlourModel" (1 : Nat) ({ cls := "java/lang/Object", name := "<init>", desc := "()V" } : Jvm.MethodName)), (Jvm.Cond.superclass "MergeparlourModel" "java/lang/Object"), (Jvm.Cond.sameMethod "java/lang/Throwable" "java/lang/Throwable" "fillInStackTrace" "(I)Ljava/lang/Throwable;")]
theorem exSX_in : ∀ w ∈ exSX, w ∈ wsAll := List.forall_mem_cons.mpr ⟨wd_10, List.forall_mem_cons.mpr ⟨wd_11, List.forall_mem_cons.mpr ⟨wd_12, List.forall_mem_cons.mpr ⟨wd_13, List.forall_mem_cons.mpr ⟨wd_14, List.forall_mem_cons.mpr ⟨wd_15, List.forall_mem_cons.mpr ⟨wd_16, List.forall_mem_cons.mpr ⟨wd_22, List.forall_mem_cons.mpr ⟨wd_23, List.forall_mem_cons.mpr ⟨wd_24, List.forall_mem_cons.mpr ⟨wd_30, List.forall_mem_cons.mpr ⟨wd_36, List.forall_mem_cons.mpr ⟨wd_46, List.forall_mem_cons.mpr ⟨wd_75, List.forall_mem_cons.mpr ⟨wd_82, List.forall_mem_cons.mpr ⟨wd_90, List.forall_mem_cons.mpr ⟨wd_114, List.forall_mem_cons.mpr ⟨wd_120, List.forall_mem_cons.mpr ⟨wd_141, List.forall_mem_cons.mpr ⟨wd_162, List.forall_mem_cons.mpr ⟨wd_168, List.forall_mem_cons.mpr ⟨wd_183, List.forall_mem_cons.mpr ⟨wd_193, List.forall_mem_cons.mpr ⟨wd_254, List.forall_mem_cons.mpr ⟨wd_255, List.forall_mem_cons.mpr ⟨wd_256, List.forall_mem_cons.mpr ⟨wd_265, List.forall_mem_cons.mpr ⟨wd_266, List.forall_mem_cons.mpr ⟨wd_274, List.forall_mem_cons.mpr ⟨wd_275, List.forall_mem_cons.mpr ⟨wd_276, List.forall_mem_cons.mpr ⟨wd_277, List.forall_mem_cons.mpr ⟨wd_278, List.forall_mem_cons.mpr ⟨wd_279, List.forall_mem_cons.mpr ⟨wd_280, List.forall_mem_cons.mpr ⟨wd_281, List.forall_mem_cons.mpr ⟨wd_282, List.forall_mem_cons.mpr ⟨wd_283, List.forall_mem_cons.mpr ⟨wd_284, List.forall_mem_cons.mpr ⟨wd_285, List.forall_mem_cons.mpr ⟨wd_286, List.forall_mem_cons.mpr ⟨wd_287, List.forall_mem_cons.mpr ⟨wd_288, List.forall_mem_cons.mpr ⟨wd_289, List.forall_mem_cons.mpr ⟨wd_290, List.forall_mem_cons.mpr ⟨wd_291, List.forall_mem_cons.mpr ⟨wd_293, List.forall_mem_cons.mpr ⟨wd_295, List.forall_mem_cons.mpr ⟨wd_296, List.forall_mem_cons.mpr ⟨wd_297, List.forall_mem_cons.mpr ⟨wd_298, List.forall_mem_cons.mpr ⟨wd_299, List.forall_mem_cons.mpr ⟨wd_300, List.forall_mem_cons.mpr ⟨wd_301, List.forall_mem_cons.mpr ⟨wd_302, List.forall_mem_cons.mpr ⟨wd_304, List.forall_mem_cons.mpr ⟨wd_305, List.forall_mem_cons.mpr ⟨wd_306, List.forall_mem_cons.mpr ⟨wd_308, List.forall_mem_cons.mpr ⟨wd_309, List.forall_mem_cons.mpr ⟨wd_310, List.forall_mem_cons.mpr ⟨wd_311, List.forall_mem_cons.mpr ⟨wd_312, List.forall_mem_cons.mpr ⟨wd_313, List.forall_mem_cons.mpr ⟨wd_314, List.forall_mem_cons.mpr ⟨wd_315, List.forall_mem_cons.mpr ⟨wd_316, List.forall_mem_cons.mpr ⟨wd_317, List.forall_mem_cons.mpr ⟨wd_318, List.forall_mem_cons.mpr ⟨wd_319, List.forall_mem_cons.mpr ⟨wd_320, List.forall_mem_cons.mpr ⟨wd_321, List.forall_mem_cons.mpr ⟨wd_322, List.forall_mem_cons.mpr ⟨wd_323, List.forall_mem_cons.mpr ⟨wd_324, List.forall_mem_cons.mpr ⟨wd_329, List.forall_mem_cons.mpr ⟨wd_332, List.forall_mem_cons.mpr ⟨wd_344, List.forall_mem_cons.mpr ⟨wd_345, List.forall_mem_cons.mpr ⟨wd_347, List.forall_mem_cons.mpr ⟨wd_348, List.forall_mem_cons.mpr ⟨wd_349, List.forall_mem_cons.mpr ⟨wd_350, List.forall_mem_cons.mpr ⟨wd_351, List.forall_mem_cons.mpr ⟨wd_352, List.forall_mem_cons.mpr ⟨wd_354, List.forall_mem_cons.mpr ⟨wd_355, List.forall_mem_cons.mpr ⟨wd_356, List.forall_mem_cons.mpr ⟨wd_357, List.forall_mem_cons.mpr ⟨wd_358, List.forall_mem_cons.mpr ⟨wd_359, List.forall_mem_cons.mpr ⟨wd_369, List.forall_mem_cons.mpr ⟨wd_370, List.forall_mem_cons.mpr ⟨wd_372, List.forall_mem_cons.mpr ⟨wd_373, List.forall_mem_cons.mpr ⟨wd_374, List.forall_mem_cons.mpr ⟨wd_375, List.forall_mem_cons.mpr ⟨wd_376, List.forall_mem_cons.mpr ⟨wd_377, List.forall_mem_cons.mpr ⟨wd_379, List.forall_mem_cons.mpr ⟨wd_380, List.forall_mem_cons.mpr ⟨wd_381, List.forall_mem_cons.mpr ⟨wd_382, List.forall_mem_cons.mpr ⟨wd_383, List.forall_mem_cons.mpr ⟨wd_384, List.forall_mem_cons.mpr ⟨wd_533, List.forall_mem_cons.mpr ⟨wd_543, List.forall_mem_cons.mpr ⟨wd_544, List.forall_mem_cons.mpr ⟨wd_546, List.forall_mem_cons.mpr ⟨wd_547, List.forall_mem_cons.mpr ⟨wd_548, List.forall_mem_cons.mpr ⟨wd_549, List.forall_mem_cons.mpr ⟨wd_550, List.forall_mem_cons.mpr ⟨wd_551, List.forall_mem_cons.mpr ⟨wd_553, List.forall_mem_cons.mpr ⟨wd_554, List.forall_mem_cons.mpr ⟨wd_555, List.forall_mem_cons.mpr ⟨wd_556, List.forall_mem_cons.mpr ⟨wd_557, List.forall_mem_cons.mpr ⟨wd_558, List.forall_mem_cons.mpr ⟨wd_751, List.forall_mem_cons.mpr ⟨wd_845, List.forall_mem_cons.mpr ⟨wd_986, fun _ h => absurd h List.not_mem_nil⟩⟩⟩⟩⟩⟩⟩⟩⟩⟩⟩⟩⟩⟩⟩⟩⟩⟩⟩⟩⟩⟩⟩⟩⟩⟩⟩⟩⟩⟩⟩⟩⟩⟩⟩⟩⟩⟩⟩⟩⟩⟩⟩⟩⟩⟩⟩⟩⟩⟩⟩⟩⟩⟩⟩⟩⟩⟩⟩⟩⟩⟩⟩⟩⟩⟩⟩⟩⟩⟩⟩⟩⟩⟩⟩⟩⟩⟩⟩⟩⟩⟩⟩⟩⟩⟩⟩⟩⟩⟩⟩⟩⟩⟩⟩⟩⟩⟩⟩⟩⟩⟩⟩⟩⟩⟩⟩⟩⟩⟩⟩⟩⟩⟩⟩⟩⟩⟩⟩⟩⟩⟩⟩
theorem at_sub1 : ∀ w ∈ (vx_atS RX6 115 "java/lang/IndexOutOfBoundsException" ["java/lang/RuntimeException", "java/lang/Exception"]).filter goodWord, w ∈ exSX := by decide +kernel
def exB1 : List Cond := [.castable "java/lang/IndexOutOfBoundsException" "java/lang/IndexOutOfBoundsException", .declares ⟨"java/lang/RuntimeException", "<init>", "(Ljava/lang/String;)V"⟩, .declares ⟨"java/lang/Exception", "<init>", "(Ljava/lang/String;)V"⟩, .declares ⟨"java/lang/Throwable", "<init>", "(Ljava/lang/String;)V"⟩]
theorem at_b1 : ∀ w ∈ (vx_atS RX6 115 "java/lang/IndexOutOfBoundsException" ["java/lang/RuntimeException", "java/lang/Exception"]).filter (fun w => !goodWord w), w ∈ exB1 := by decide +kernel
theorem at_o1 : ∀ x ∈ Cond.classLink RX6 111 "java/lang/IndexOutOfBoundsException" :: Cond.initialized "java/lang/IndexOutOfBoundsException" :: vx_atS RX6 115 "java/lang/IndexOutOfBoundsException" ["java/lang/RuntimeException", "java/lang/Exception"], vx_ot x = true := by decide +kernel
theorem at_sub2 : ∀ w ∈ (vx_atS RX6 50 "java/lang/IllegalArgumentException" ["java/lang/RuntimeException", "java/lang/Exception"]).filter goodWord, w ∈ exSX := by decide +kernel
def exB2 : List Cond := [.castable "java/lang/IllegalArgumentException" "java/lang/IllegalArgumentException", .declares ⟨"java/lang/RuntimeException", "<init>", "(Ljava/lang/String;)V"⟩, .declares ⟨"java/lang/Exception", "<init>", "(Ljava/lang/String;)V"⟩, .declares ⟨"java/lang/Throwable", "<init>", "(Ljava/lang/String;)V"⟩]
theorem at_b2 : ∀ w ∈ (vx_atS RX6 50 "java/lang/IllegalArgumentException" ["java/lang/RuntimeException", "java/lang/Exception"]).filter (fun w => !goodWord w), w ∈ exB2 := by decide +kernel
theorem at_o2 : ∀ x ∈ Cond.classLink RX6 46 "java/lang/IllegalArgumentException" :: Cond.initialized "java/lang/IllegalArgumentException" :: vx_atS RX6 50 "java/lang/IllegalArgumentException" ["java/lang/RuntimeException", "java/lang/Exception"], vx_ot x = true := by decide +kernel
theorem at_sub3 : ∀ w ∈ (vx_atS RX6 101 "java/lang/IllegalStateException" ["java/lang/RuntimeException", "java/lang/Exception"]).filter goodWord, w ∈ exSX := by decide +kernel
def exB3 : List Cond := [.castable "java/lang/IllegalStateException" "java/lang/IllegalStateException", .declares ⟨"java/lang/RuntimeException", "<init>", "(Ljava/lang/String;)V"⟩, .declares ⟨"java/lang/Exception", "<init>", "(Ljava/lang/String;)V"⟩, .declares ⟨"java/lang/Throwable", "<init>", "(Ljava/lang/String;)V"⟩]
theorem at_b3 : ∀ w ∈ (vx_atS RX6 101 "java/lang/IllegalStateException" ["java/lang/RuntimeException", "java/lang/Exception"]).filter (fun w => !goodWord w), w ∈ exB3 := by decide +kernel
theorem at_o3 : ∀ x ∈ Cond.classLink RX6 97 "java/lang/IllegalStateException" :: Cond.initialized "java/lang/IllegalStateException" :: vx_atS RX6 101 "java/lang/IllegalStateException" ["java/lang/RuntimeException", "java/lang/Exception"], vx_ot x = true := by decide +kernel
theorem at_sub4 : ∀ w ∈ (xs_at RX6 176 "java/util/NoSuchElementException" 13 prog_19_method_4_code "java/lang/RuntimeException" ["java/lang/Exception"]).filter goodWord, w ∈ exSX := by decide +kernel
def exB4 : List Cond := [.castable "java/util/NoSuchElementException" "java/util/NoSuchElementException", .declares ⟨"java/lang/RuntimeException", "<init>", "(Ljava/lang/String;)V"⟩, .declares ⟨"java/lang/Exception", "<init>", "(Ljava/lang/String;)V"⟩, .declares ⟨"java/lang/Throwable", "<init>", "(Ljava/lang/String;)V"⟩]
theorem at_b4 : ∀ w ∈ (xs_at RX6 176 "java/util/NoSuchElementException" 13 prog_19_method_4_code "java/lang/RuntimeException" ["java/lang/Exception"]).filter (fun w => !goodWord w), w ∈ exB4 := by decide +kernel
theorem at_o4 : ∀ x ∈ Cond.classLink RX6 172 "java/util/NoSuchElementException" :: Cond.initialized "java/util/NoSuchElementException" :: xs_at RX6 176 "java/util/NoSuchElementException" 13 prog_19_method_4_code "java/lang/RuntimeException" ["java/lang/Exception"], vx_ot x = true := by decide +kernel
end
section
section
variable {p : Program} {l : Launch} {e : Env} {R : Room} {s : State} {m : MethodId} {args : Array Value} {below : List Frame} {meth : Method} {c : Code} {H : Heap} {locs : List Loc} {cells slots : Nat} {Q : State → Prop}
variable {mc ms : Nat} {free : Addr → Prop} {A0 A1 : Nat → Prop} {H0 : Heap} {a : Array Value} {pc : Nat} {ls : Array Slot} {st0 rest : List Value}
/-- vx_callr: vx_callv of the printed rows, turned to a reference that comes back -/
theorem vx_callr {S SX : Type} {post : S → Prop} {px : SX → Prop} {B : S → Nat → State → Prop} {BX : String → SX → State → Prop} {AX : Nat → Prop} (hr : vx_Run p l e R s m args below meth c H locs cells slots mc ms (F0 m pc ls st0) rest (va_Qr post B A1 a) (vx_X px BX AX) free) (hS : va_S A0 H0 H locs) (hA : ∀ q, q < H.size → A1 q → A0 q) (hf : ∀ q, free q → A0 q) (hAX : ∀ q, q < H.size → AX q → A0 q)
    (kx : ∀ (E : String) (ce : Cell) (q9 : Addr) (u : SX) (t : State) (H1 : Heap) (locs1 : List Loc), t.heap = H1 → s.vm.Alike t.vm → px u → BX E u t → H.size ≤ H1.size → (∀ q : Nat, q < H.size → ¬ AX q → H1[q]? = H[q]?) → va_S A0 H0 H1 locs1 → H1[q9]? = some ce → ce.vm = .none → s.vm.findClass E = some ce.cls → vx_W p l e R s m args below meth c H1 locs1 (cells + mc) (slots + ms) Q (F0 m pc ls rest) q9)
    (kk : ∀ (u : S) (ra : Nat) (t : State) (H1 : Heap) (locs1 : List Loc), t.heap = H1 → s.vm.Alike t.vm → post u → B u ra t → H.size ≤ H1.size → (∀ q : Nat, q < H.size → ¬ A1 q → H1[q]? = H[q]?) → va_S A0 H0 H1 locs1 → W p l e R s m args below meth c H1 locs1 (cells + mc) (slots + ms) Q (F0 m (pc + 3) ls (.ref ra :: rest))) : W p l e R s m args below meth c H locs cells slots Q (F0 m pc ls st0) := by
  intro T hT X
  rcases hr T hT X with ⟨v, st₀, t, T', L, h0, X', hL, e1, e2, ⟨⟨u, ra, hv, hp, hb⟩, hF⟩, st⟩ | ⟨q, st₀, t, T', L, E, ce, h0, X', hL, e1, e2, ⟨u, hp, hb, hF⟩, hce, hcv, hcl, st⟩
  · cases hv
    obtain ⟨k1, k2, k3⟩ := vx_keep h0 e1 hS hA hf hL hF
    obtain ⟨t2, a1, b1⟩ := kk u ra t T'.heap (locs ++ L) e1.symm (by rw [← e2]; exact X'.warmed.alike) hp hb k1 k2 k3 T' rfl X'
    exact ⟨t2, st t2 a1, b1⟩
  · obtain ⟨k1, k2, k3⟩ := vx_keep h0 e1 hS hAX hf hL hF
    obtain ⟨t2, a1, b1⟩ := kx E ce q u t T'.heap (locs ++ L) e1.symm (by rw [← e2]; exact X'.warmed.alike) hp hb k1 k2 k3 (by rw [e1]; exact hce) hcv hcl T' rfl X'
    exact ⟨t2, st.trans a1, b1⟩
end
/-! METHODS THAT THROW: what a throw rests on, and rows -/
def thr {α : Type} : Nat ⊕ α → Option Nat
  | .inl e => some e
  | .inr _ => none
theorem cx_some' {α R : Type} {x : Option (Nat ⊕ α)} {kt : Nat → Option R} {k : α → Option R} {r : R} (h : cx x kt k = some r) : ∃ q, x = some q ∧ q.elim kt k = some r := Option.bind_eq_some_iff.mp h
def EX (A : Nat → Prop) (U : State) : Prop :=
  (∀ q ∈ exCast, va_Nw (.castable q.1 q.2) U) ∧ (∀ y ∈ exDecl, va_Nw (.declares y) U) ∧
  vx_Zq Bundle.tN "UNASSIGNED_STACK" Bundle.steD A U U.heap ∧ vx_Zq Bundle.tN "SUPPRESSED_SENTINEL" Bundle.listD A U U.heap ∧ ∀ q ∈ exStr, ∃ sa, vk_R RX6 q.1 q.2 sa U
theorem EX_moved {A : Nat → Prop} {u U : State} (hW : u.WarmedH U.vm) (hh : ∀ a : Nat, a < u.heap.size → ¬ A a → U.heap[a]? = u.heap[a]?) (h : EX A u) : EX A U := by
  obtain ⟨h1, h2, h3, h4, h5⟩ := h
  refine ⟨fun q hq => va_Nw.warmC hW (h1 q hq), fun y hy => va_Nw.warmD hW (h2 y hy), vx_Zq.moved hW.alike (h3.kept hh), vx_Zq.moved hW.alike (h4.kept hh), fun q hq => ?_⟩
  obtain ⟨sa, h⟩ := h5 q hq
  exact ⟨sa, vk_R.warm hW h⟩
theorem EX_narrow {A B : Nat → Prop} {U : State} (hAB : ∀ q, B q → A q) (h : EX A U) : EX B U := ⟨h.1, h.2.1, h.2.2.1.narrow hAB, h.2.2.2.1.narrow hAB, h.2.2.2.2⟩
def PXt (D : va_G) (w : St → va_W) (tys : List (ClassId × FieldType)) (A : Nat → Prop) (S : St) (av : List Value) : Array Value → State → Prop := va_Pc av (fun U => BX D w tys S U ∧ EX A U)
def Qti (D : va_G) (w : St → va_W) (tys : List (ClassId × FieldType)) (A : Nat → Prop) (q : Nat ⊕ Int32) (S1 : St) : Array Value → State → Outcome → State → Prop := va_Qi (fun r' S' => q = .inr r' ∧ S' = S1) (BX D w tys) A
def Qtv (D : va_G) (w : St → va_W) (tys : List (ClassId × FieldType)) (A : Nat → Prop) (q : Nat ⊕ Unit) (S1 : St) : Array Value → State → Outcome → State → Prop := va_Qv (fun S' => q = .inr () ∧ S' = S1) (BX D w tys) A
def Qtr (D : va_G) (w : St → va_W) (tys : List (ClassId × FieldType)) (A : Nat → Prop) (b : Nat) (q : Nat ⊕ Nat) (S1 : St) : Array Value → State → Outcome → State → Prop := va_Qr (fun S' => S' = S1) (fun S' a t => (∃ z, q = .inr z ∧ a = b + oS z) ∧ BX D w tys S' t) A
def Qtx (D : va_G) (w : St → va_W) (tys : List (ClassId × FieldType)) (A : Nat → Prop) (th : Option Nat) (S1 : St) : String → State → State → Prop := vx_X (fun S' => S' = S1) (fun E S' t => (∃ e, th = some e ∧ E = exN e) ∧ BX D w tys S' t) A
theorem PXt_blind {D : va_G} {w : St → va_W} {tys : List (ClassId × FieldType)} {A : Nat → Prop} {S : St} {av : List Value} : FrameBlind (PXt D w tys A S av) := fun a U g mk q =>
  ⟨q.1, ⟨q.2.1.1, va_K.moved (u := U) (U := U.calling g mk a) (Vm.Alike.refl U.vm) q.2.1.2⟩, EX_moved (u := U) (U := U.calling g mk a) (State.WarmedH.refl U) (fun _ _ _ => rfl) q.2.2⟩
section TR
variable {p : Program} {l : Launch} {e : Env} {R : Room} {s : State} {m : MethodId} {args : Array Value} {below : List Frame} {meth : Method} {c : Code} {H : Heap} {locs : List Loc} {cells slots : Nat} {Q : State → Prop} {cc : ByteArray} {pc nL : Nat} {ls : Array Slot} {rest st0 : List Value} {own : String} {D : va_G} {tys : List (ClassId × FieldType)} {w : St → va_W} {A : Nat → Prop} {S S1 S0 : St} {hh : Cond} {Qc0 : Array Value → State → Outcome → State → Prop} {th : Option Nat} {mc ms mcM msM : Nat}
theorem t_pre {k : Nat} {ci a : Nat} {fs : List Value} {q : vw_C} {As : List Value} (hX : EX A s) (hK : va_K D vwCl tys s) (hP : va_P D vwCl (w S) H) (hS : va_S A s.heap H locs) (he : (w S)[k]? = some (a, .inr (ci, fs))) (hc : vwCl[ci]? = some q) : PreV s H q.1 a (PXt D w tys A S (.ref a :: As)) As :=
  ⟨PXt_blind, va_recv hK hP hc he, fun U hU hW => ⟨rfl, ⟨by rw [hU]; exact hP, va_K.moved hW.alike hK⟩, EX_moved hW (by rw [hU]; exact hS.2.1) hX⟩⟩
/-- a throw that goes on to the caller -/
theorem t_out {E : String} {ce : Cell} {q9 e9 : Nat} {t : State} (hlocks : meth.locks = false) (hnt : ∀ x ∈ c.exceptionTable.toList, False) (hQ : Q = vx_MQ below Qc0 (Qtx D w tys A th S0) args s mcM msM A) (hm : cells ≤ mcM ∧ slots ≤ msM) (hK : va_K D vwCl tys s) (ht : t.heap = H) (hB : va_P D vwCl (w S0) t.heap) (hS : va_S A s.heap H locs) (hth : th = some e9) (hE : E = exN e9) (hce : H[q9]? = some ce) (hcv : ce.vm = .none) (hcl : s.vm.findClass E = some ce.cls) : vx_W p l e R s m args below meth c H locs cells slots Q (F0 m pc ls rest) q9 := by
  subst hQ
  refine vx_out (fun x hx => (hnt x hx).elim) hlocks hce hcv hcl (fun t' ht' hvm' => ⟨S0, rfl, ⟨⟨e9, hth, hE⟩, ?_, va_K.moved hvm' hK⟩, hS.F ht'⟩) hS.2.2 hm.1 hm.2
  rw [ht', ← ht]
  exact hB
theorem t_calli (F : CallFix p m c cc nL s args (hh :: wsAll) own) (hX : EX A s) (hlocks : meth.locks = false) (hnt : ∀ x ∈ c.exceptionTable.toList, False) (hQ : Q = vx_MQ below Qc0 (Qtx D w tys A th S0) args s mcM msM A) (hK : va_K D vwCl tys s) (hP : va_P D vwCl (w S) H) (hS : va_S A s.heap H locs) {y : MethodName} {bytes : ByteArray} {maxL n index q0 ci a : Nat} {ret : Option FieldType} {rm : Room} {fs : List Value} {C : String} {T : u_T} {N : Nat} {lv : List (Nat × Value)} {q : Nat ⊕ Int32} (As : List Value)
    (hM : vx_Met l y (Cond.code y bytes maxL ret :: wsAll) rm (PXt D w tys A S (.ref a :: As)) (Qti D w tys A q S1) (Qtx D w tys A (thr q) S1) mc ms A)
    (h1 : Cond.methodLink own index y ∈ wsAll) (h2 : Cond.instanceMethod y ∈ wsAll) (h3 : Cond.selects C y y ∈ wsAll) (h4 : Cond.initialized C ∈ wsAll) (h5 : Cond.code y bytes maxL ret ∈ wsAll)
    (he : (w S)[q0]? = some (a, .inr (ci, fs))) (hc : vwCl[ci]? = some (C, T, N)) (hd : y.cls = C ∧ y.cls ≠ "java/lang/invoke/MethodHandle" ∧ y.cls ≠ "java/lang/invoke/VarHandle" ∧ (parseMethodDescriptor y.desc).map (fun d => d.parameters.length) = some n) (hrm : rm.cells = mc) (hrm2 : rm.slots = ms) (hR : rm.frames + 1 ≤ R.frames ∧ 8 + (maxL + 11) + rm.locals ≤ R.locals) (hn : As.length = n) (hl : lv_has ls nL lv) (hst : st0 = As.reverse ++ .ref a :: rest) (hrest : (rest.map fun v => v.category).sum ≤ 8) (hdg : decode cc pc = .ok (.invokevirtual index, 3)) (hroom : cells + mc ≤ R.cells ∧ slots + ms ≤ R.slots) (hm : cells + mc ≤ mcM ∧ slots + ms ≤ msM)
    (kx : ∀ e9, q = .inl e9 → th = some e9 ∧ S1 = S0)
    (kk : ∀ v, q = .inr v → ∀ (H1 : Heap) (locs1 : List Loc), va_P D vwCl (w S1) H1 → va_S A s.heap H1 locs1 → W p l e R s m args below meth c H1 locs1 (cells + mc) (slots + ms) Q (F0 m (pc + 3) ls (.int v :: rest))) : W p l e R s m args below meth c H locs cells slots Q (F0 m pc ls st0) := by
  subst hst
  refine vx_calli (vx_runV (As := As) (rest := rest) F hM (cwV n F.2.2.2.2 (gAllV h1 h2 h3 h4 h5) rfl hrm hrm2 hd hR) (t_pre hX hK hP hS he hc) rfl hn hl.1 rfl (lv_room hrest) hdg hroom) hS (fun q _ h => h) (fun q h => h) (fun q _ h => h) (fun E ce q9 u t H1 locs1 ht hvm hpx hB hz hk hS1 hce hcv hcl => ?_) (fun r' u t H1 locs1 ht hvm hw hB hz1 hk1 hS1 => ?_)
  · obtain ⟨⟨e9, g1, g2⟩, g3, -⟩ := hB
    subst hpx
    cases q with
    | inl e8 =>
      cases g1
      obtain ⟨k1, rfl⟩ := kx _ rfl
      exact t_out hlocks hnt hQ hm hK ht g3 hS1 k1 g2 hce hcv hcl
    | inr v => cases g1
  · obtain ⟨g1, rfl⟩ := hw
    subst ht
    exact kk _ g1 _ locs1 hB.1 hS1
theorem t_callv (F : CallFix p m c cc nL s args (hh :: wsAll) own) (hX : EX A s) (hlocks : meth.locks = false) (hnt : ∀ x ∈ c.exceptionTable.toList, False) (hQ : Q = vx_MQ below Qc0 (Qtx D w tys A th S0) args s mcM msM A) (hK : va_K D vwCl tys s) (hP : va_P D vwCl (w S) H) (hS : va_S A s.heap H locs) {y : MethodName} {bytes : ByteArray} {maxL n index q0 ci a : Nat} {ret : Option FieldType} {rm : Room} {fs : List Value} {C : String} {T : u_T} {N : Nat} {lv : List (Nat × Value)} {q : Nat ⊕ Unit} (As : List Value)
    (hM : vx_Met l y (Cond.code y bytes maxL ret :: wsAll) rm (PXt D w tys A S (.ref a :: As)) (Qtv D w tys A q S1) (Qtx D w tys A (thr q) S1) mc ms A)
    (h1 : Cond.methodLink own index y ∈ wsAll) (h2 : Cond.instanceMethod y ∈ wsAll) (h3 : Cond.selects C y y ∈ wsAll) (h4 : Cond.initialized C ∈ wsAll) (h5 : Cond.code y bytes maxL ret ∈ wsAll)
    (he : (w S)[q0]? = some (a, .inr (ci, fs))) (hc : vwCl[ci]? = some (C, T, N)) (hd : y.cls = C ∧ y.cls ≠ "java/lang/invoke/MethodHandle" ∧ y.cls ≠ "java/lang/invoke/VarHandle" ∧ (parseMethodDescriptor y.desc).map (fun d => d.parameters.length) = some n) (hrm : rm.cells = mc) (hrm2 : rm.slots = ms) (hR : rm.frames + 1 ≤ R.frames ∧ 8 + (maxL + 11) + rm.locals ≤ R.locals) (hn : As.length = n) (hl : lv_has ls nL lv) (hst : st0 = As.reverse ++ .ref a :: rest) (hrest : (rest.map fun v => v.category).sum ≤ 8) (hdg : decode cc pc = .ok (.invokevirtual index, 3)) (hroom : cells + mc ≤ R.cells ∧ slots + ms ≤ R.slots) (hm : cells + mc ≤ mcM ∧ slots + ms ≤ msM)
    (kx : ∀ e9, q = .inl e9 → th = some e9 ∧ S1 = S0)
    (kk : q = .inr () → ∀ (H1 : Heap) (locs1 : List Loc), va_P D vwCl (w S1) H1 → va_S A s.heap H1 locs1 → W p l e R s m args below meth c H1 locs1 (cells + mc) (slots + ms) Q (F0 m (pc + 3) ls rest)) : W p l e R s m args below meth c H locs cells slots Q (F0 m pc ls st0) := by
  subst hst
  refine vx_callv (vx_runV (As := As) (rest := rest) F hM (cwV n F.2.2.2.2 (gAllV h1 h2 h3 h4 h5) rfl hrm hrm2 hd hR) (t_pre hX hK hP hS he hc) rfl hn hl.1 rfl (lv_room hrest) hdg hroom) hS (fun q _ h => h) (fun q h => h) (fun q _ h => h) (fun E ce q9 u t H1 locs1 ht hvm hpx hB hz hk hS1 hce hcv hcl => ?_) (fun u t H1 locs1 ht hvm hw hB hz1 hk1 hS1 => ?_)
  · obtain ⟨⟨e9, g1, g2⟩, g3, -⟩ := hB
    subst hpx
    cases q with
    | inl e8 =>
      cases g1
      obtain ⟨k1, rfl⟩ := kx _ rfl
      exact t_out hlocks hnt hQ hm hK ht g3 hS1 k1 g2 hce hcv hcl
    | inr v => cases g1
  · obtain ⟨g1, rfl⟩ := hw
    subst ht
    exact kk g1 _ locs1 hB.1 hS1
theorem t_callr {b : Nat} (F : CallFix p m c cc nL s args (hh :: wsAll) own) (hX : EX A s) (hlocks : meth.locks = false) (hnt : ∀ x ∈ c.exceptionTable.toList, False) (hQ : Q = vx_MQ below Qc0 (Qtx D w tys A th S0) args s mcM msM A) (hK : va_K D vwCl tys s) (hP : va_P D vwCl (w S) H) (hS : va_S A s.heap H locs) {y : MethodName} {bytes : ByteArray} {maxL n index q0 ci a : Nat} {ret : Option FieldType} {rm : Room} {fs : List Value} {C : String} {T : u_T} {N : Nat} {lv : List (Nat × Value)} {q : Nat ⊕ Nat} (As : List Value)
    (hM : vx_Met l y (Cond.code y bytes maxL ret :: wsAll) rm (PXt D w tys A S (.ref a :: As)) (Qtr D w tys A b q S1) (Qtx D w tys A (thr q) S1) mc ms A)
    (h1 : Cond.methodLink own index y ∈ wsAll) (h2 : Cond.instanceMethod y ∈ wsAll) (h3 : Cond.selects C y y ∈ wsAll) (h4 : Cond.initialized C ∈ wsAll) (h5 : Cond.code y bytes maxL ret ∈ wsAll)
    (he : (w S)[q0]? = some (a, .inr (ci, fs))) (hc : vwCl[ci]? = some (C, T, N)) (hd : y.cls = C ∧ y.cls ≠ "java/lang/invoke/MethodHandle" ∧ y.cls ≠ "java/lang/invoke/VarHandle" ∧ (parseMethodDescriptor y.desc).map (fun d => d.parameters.length) = some n) (hrm : rm.cells = mc) (hrm2 : rm.slots = ms) (hR : rm.frames + 1 ≤ R.frames ∧ 8 + (maxL + 11) + rm.locals ≤ R.locals) (hn : As.length = n) (hl : lv_has ls nL lv) (hst : st0 = As.reverse ++ .ref a :: rest) (hrest : (rest.map fun v => v.category).sum ≤ 8) (hdg : decode cc pc = .ok (.invokevirtual index, 3)) (hroom : cells + mc ≤ R.cells ∧ slots + ms ≤ R.slots) (hm : cells + mc ≤ mcM ∧ slots + ms ≤ msM)
    (kx : ∀ e9, q = .inl e9 → th = some e9 ∧ S1 = S0)
    (kk : ∀ z, q = .inr z → ∀ (H1 : Heap) (locs1 : List Loc), va_P D vwCl (w S1) H1 → va_S A s.heap H1 locs1 → W p l e R s m args below meth c H1 locs1 (cells + mc) (slots + ms) Q (F0 m (pc + 3) ls (.ref (b + oS z) :: rest))) : W p l e R s m args below meth c H locs cells slots Q (F0 m pc ls st0) := by
  subst hst
  refine vx_callr (vx_runV (As := As) (rest := rest) F hM (cwV n F.2.2.2.2 (gAllV h1 h2 h3 h4 h5) rfl hrm hrm2 hd hR) (t_pre hX hK hP hS he hc) rfl hn hl.1 rfl (lv_room hrest) hdg hroom) hS (fun q _ h => h) (fun q h => h) (fun q _ h => h) (fun E ce q9 u t H1 locs1 ht hvm hpx hB hz hk hS1 hce hcv hcl => ?_) (fun u ra t H1 locs1 ht hvm hw hB hz1 hk1 hS1 => ?_)
  · obtain ⟨⟨e9, g1, g2⟩, g3, -⟩ := hB
    subst hpx
    cases q with
    | inl e8 =>
      cases g1
      obtain ⟨k1, rfl⟩ := kx _ rfl
      exact t_out hlocks hnt hQ hm hK ht g3 hS1 k1 g2 hce hcv hcl
    | inr v => cases g1
  · obtain ⟨⟨z, g1, rfl⟩, g2⟩ := hB
    subst hw
    subst ht
    exact kk _ g1 _ locs1 g2.1 hS1
theorem t_throw (F : CallFix p m c cc nL s args (hh :: wsAll) own) (hfl : l.stackTraces = false) (hX : EX A s) (hlocks : meth.locks = false) (hnt : ∀ x ∈ c.exceptionTable.toList, False) (hQ : Q = vx_MQ below Qc0 (Qtx D w tys A th S0) args s mcM msM A) (hK : va_K D vwCl tys s) (hP : va_P D vwCl (w S) H) (hS : va_S A s.heap H locs) {cls text : String} {ik is ic e9 : Nat} {lv : List (Nat × Value)} (hown : own = RX6) (hcls : cls = exN e9) (hth : th = some e9) (hs : S = S0) (hstr : (is, text) ∈ exStr) (hk : Cond.classLink own ik cls ∈ wsAll) (hini : Cond.initialized cls ∈ wsAll)
    (hat : ∀ {U : State} {ar : Array Value}, (∀ x ∈ wsAll, x.before ar U = true) → EX A U → (Bundle.fit cls = true ∧ (∀ n ∈ ["java/lang/RuntimeException", "java/lang/Exception"], Bundle.fit n = true) ∧ (∀ x ∈ vx_atS own ic cls ["java/lang/RuntimeException", "java/lang/Exception"], x.before ar U = true) ∧ ∀ x ∈ Cond.classLink own ik cls :: Cond.initialized cls :: vx_atS own ic cls ["java/lang/RuntimeException", "java/lang/Exception"], vx_ot x = true))
    (hl : lv_has ls nL lv)
    (d0 : decode cc pc = .ok (.new ik, 3)) (d3 : decode cc (pc + 3) = .ok (.dup, 1)) (d4 : decode cc (pc + 4) = .ok (.ldc is, 2)) (d6 : decode cc (pc + 6) = .ok (.invokespecial ic, 3)) (d9 : decode cc (pc + 9) = .ok (.athrow, 1))
    (hRf : 5 < R.frames) (hRl : (rest.map fun v => v.category).sum + 82 ≤ R.locals) (hRc : cells + 1 ≤ R.cells) (hRs : slots + 6 ≤ R.slots) (hm : cells + 1 ≤ mcM ∧ slots + 6 ≤ msM) : W p l e R s m args below meth c H locs cells slots Q (F0 m pc ls rest) := by
  subst hQ; subst hs; subst hown
  have hts : ∀ x ∈ wsAll, x.before args s = true := fun x h => F.2.2.2.2 x (List.mem_cons_of_mem _ h)
  obtain ⟨g1, g2, g3, g4⟩ := hat hts hX
  obtain ⟨sa, hsa⟩ := hX.2.2.2.2 _ hstr
  refine vx_throwS F.1 F.2.1 hfl F.2.2.2.1 g1 g2 (hts _ hk) (hts _ hini) hsa g3 g4 hX.2.2.1 hX.2.2.2.1 hS (hl.1.trans F.2.2.1.symm) d0 d3 d4 d6 d9 (fun x hx => (hnt x hx).elim) hRf hRl hRc hRs hlocks (fun t hvm hz hq => ⟨S, rfl, ⟨⟨e9, hth, hcls⟩, hP.kept (fun k q hk => hq q.1 ((hP k q hk).lt)), va_K.moved hvm hK⟩, Nat.le_trans hS.1 hz, fun q h1 h2 => ?_⟩) hS.2.2 hm.1 hm.2
  rw [hq q (Nat.lt_of_lt_of_le h1 hS.1)]
  exact hS.2.1 q h1 h2
theorem t_throwX (F : CallFix p m c cc nL s args (hh :: wsAll) own) (hfl : l.stackTraces = false) (hX : EX A s) (hlocks : meth.locks = false) (hnt : ∀ x ∈ c.exceptionTable.toList, False) (hQ : Q = vx_MQ below Qc0 (Qtx D w tys A th S0) args s mcM msM A) (hK : va_K D vwCl tys s) (hP : va_P D vwCl (w S) H) (hS : va_S A s.heap H locs) {cls text : String} {ik is ic e9 ix : Nat} {rx : ByteArray} (x0 : decode rx 0 = .ok (.aload_n 0, 1)) (x1 : decode rx 1 = .ok (.aload_n 1, 1)) (x2 : decode rx 2 = .ok (.invokespecial ix, 3)) (x5 : decode rx 5 = .ok (.return_, 1)) {lv : List (Nat × Value)} (hown : own = RX6) (hcls : cls = exN e9) (hth : th = some e9) (hs : S = S0) (hstr : (is, text) ∈ exStr) (hk : Cond.classLink own ik cls ∈ wsAll) (hini : Cond.initialized cls ∈ wsAll)
    (hat : ∀ {U : State} {ar : Array Value}, (∀ x ∈ wsAll, x.before ar U = true) → EX A U → (Bundle.fit cls = true ∧ (∀ n ∈ ["java/lang/RuntimeException", "java/lang/Exception"], Bundle.fit n = true) ∧ (∀ x ∈ xs_at own ic cls ix rx "java/lang/RuntimeException" ["java/lang/Exception"], x.before ar U = true) ∧ ∀ x ∈ Cond.classLink own ik cls :: Cond.initialized cls :: xs_at own ic cls ix rx "java/lang/RuntimeException" ["java/lang/Exception"], vx_ot x = true))
    (hl : lv_has ls nL lv)
    (d0 : decode cc pc = .ok (.new ik, 3)) (d3 : decode cc (pc + 3) = .ok (.dup, 1)) (d4 : decode cc (pc + 4) = .ok (.ldc is, 2)) (d6 : decode cc (pc + 6) = .ok (.invokespecial ic, 3)) (d9 : decode cc (pc + 9) = .ok (.athrow, 1))
    (hRf : 5 < R.frames) (hRl : (rest.map fun v => v.category).sum + 82 ≤ R.locals) (hRc : cells + 1 ≤ R.cells) (hRs : slots + 6 ≤ R.slots) (hm : cells + 1 ≤ mcM ∧ slots + 6 ≤ msM) : W p l e R s m args below meth c H locs cells slots Q (F0 m pc ls rest) := by
  subst hQ; subst hs; subst hown
  have hts : ∀ x ∈ wsAll, x.before args s = true := fun x h => F.2.2.2.2 x (List.mem_cons_of_mem _ h)
  obtain ⟨g1, g2, g3, g4⟩ := hat hts hX
  obtain ⟨sa, hsa⟩ := hX.2.2.2.2 _ hstr
  refine x_throwS F.1 F.2.1 hfl x0 x1 x2 x5 F.2.2.2.1 g1 (g2 _ (by simp)) (fun n hn => g2 n (List.mem_cons_of_mem _ hn)) (hts _ hk) (hts _ hini) hsa g3 g4 hX.2.2.1 hX.2.2.2.1 hS (hl.1.trans F.2.2.1.symm) d0 d3 d4 d6 d9 (fun x hx => (hnt x hx).elim) hRf hRl hRc hRs hlocks (fun t hvm hz hq => ⟨S, rfl, ⟨⟨e9, hth, hcls⟩, hP.kept (fun k q hk => hq q.1 ((hP k q hk).lt)), va_K.moved hvm hK⟩, Nat.le_trans hS.1 hz, fun q h1 h2 => ?_⟩) hS.2.2 hm.1 hm.2
  rw [hq q (Nat.lt_of_lt_of_le h1 hS.1)]
  exact hS.2.1 q h1 h2
theorem t_iret {v : Int32} {r : Nat ⊕ Int32} {XC : String → State → State → Prop} (F : CallFix p m c cc nL s args (hh :: wsAll) own) (hr : meth.sig.returnType = some .int) (hlocks : meth.locks = false) (hQ : Q = vx_MQ below (Qti D w tys A r S1) XC args s mcM msM A) (hm : cells ≤ mcM ∧ slots ≤ msM) (hK : va_K D vwCl tys s) (hP : va_P D vwCl (w S) H) (hS : va_S A s.heap H locs) (hv : .inr v = r) (hs : S = S1) (hdg : decode cc pc = .ok (.ireturn, 1)) : W p l e R s m args below meth c H locs cells slots Q (F0 m pc ls [.int v]) := by
  subst hQ; subst hv; subst hs
  refine W.widen hm.1 hm.2 (vx_ret ?_)
  exact W.iret F.1 F.2.1 hr (fun t ht hW => ⟨⟨v, S, rfl, ⟨rfl, rfl⟩, by rw [ht]; exact hP, va_K.moved hW.alike hK⟩, hS.F ht⟩) hS.2.2 hdg hlocks
theorem t_vret {r : Nat ⊕ Unit} {XC : String → State → State → Prop} (F : CallFix p m c cc nL s args (hh :: wsAll) own) (hr : meth.sig.returnType = none) (hlocks : meth.locks = false) (hQ : Q = vx_MQ below (Qtv D w tys A r S1) XC args s mcM msM A) (hm : cells ≤ mcM ∧ slots ≤ msM) (hK : va_K D vwCl tys s) (hP : va_P D vwCl (w S) H) (hS : va_S A s.heap H locs) (hv : .inr () = r) (hs : S = S1) (hdg : decode cc pc = .ok (.return_, 1)) : W p l e R s m args below meth c H locs cells slots Q (F0 m pc ls []) := by
  subst hQ; subst hv; subst hs
  refine W.widen hm.1 hm.2 (vx_ret ?_)
  exact W.vret F.1 F.2.1 hr (fun t ht hW => ⟨⟨S, rfl, ⟨rfl, rfl⟩, by rw [ht]; exact hP, va_K.moved hW.alike hK⟩, hS.F ht⟩) hS.2.2 hdg hlocks
theorem t_rret {b z : Nat} {C : String} {r : Nat ⊕ Nat} {XC : String → State → State → Prop} (F : CallFix p m c cc nL s args (hh :: wsAll) own) (hr : meth.sig.returnType = some (.object C)) (hlocks : meth.locks = false) (hQ : Q = vx_MQ below (Qtr D w tys A b r S1) XC args s mcM msM A) (hm : cells ≤ mcM ∧ slots ≤ msM) (hK : va_K D vwCl tys s) (hP : va_P D vwCl (w S) H) (hS : va_S A s.heap H locs) (hv : .inr z = r) (hs : S = S1) (hdg : decode cc pc = .ok (.areturn, 1)) : W p l e R s m args below meth c H locs cells slots Q (F0 m pc ls [.ref (b + oS z)]) := by
  subst hQ; subst hv; subst hs
  refine W.widen hm.1 hm.2 (vx_ret ?_)
  exact W.aret F.1 F.2.1 hr (Or.inl ⟨C, rfl⟩) (Or.inr ⟨_, rfl⟩) (fun t ht hW => ⟨⟨S, b + oS z, rfl, rfl, ⟨z, rfl, rfl⟩, by rw [ht]; exact hP, va_K.moved hW.alike hK⟩, hS.F ht⟩) hS.2.2 hdg hlocks
end TR
theorem t_met {l : Launch} {D : va_G} {tys : List (ClassId × FieldType)} {w : St → va_W} {S : St} {y : MethodName} {cc : ByteArray} {maxL : Nat} {ret : Option FieldType} {rm : Room} {av : List Value} {Qc : Array Value → State → Outcome → State → Prop} {XC : String → State → State → Prop} {mc ms : Nat} {A free : Nat → Prop} (own : String) (hy : plainName y.cls = true) (hfit : (lg_sl av).length ≤ maxL) (hown : y.cls = own)
    (body : ∀ (p : Program) (e : Env) (s : State) (m : MethodId) (args : Array Value) (below : List Frame) (meth : Method) (c : Code) (ls : Array Slot) (Q : State → Prop), CallFix p m c cc maxL s args (Cond.code y cc maxL ret :: wsAll) own → meth.sig.returnType = ret → meth.locks = false → (∀ x ∈ c.exceptionTable.toList, False) → EX A s → va_K D vwCl tys s → va_P D vwCl (w S) s.heap → lv_has ls maxL (lv_args 0 av) → Q = vx_MQ below Qc XC args s mc ms free → W p l e rm s m args below meth c s.heap [] 0 0 Q (F0 m 0 ls [])) :
    vx_Met l y (Cond.code y cc maxL ret :: wsAll) rm (PXt D w tys A S av) Qc XC mc ms free := by
  refine vx_ofW (cc := cc) (maxL := maxL) (ret := ret) hy rfl ?_
  intro p e s m args below meth c s₁ B hml hnt hv
  obtain ⟨rfl, ⟨hP, hK⟩, hX⟩ := hv
  have hl := lv_entry av (n := maxL) hfit
  rw [lg_entry_eq]
  exact body p e s m _ below meth c _ _ ⟨B.exec, B.bytes, hml, by rw [← hown]; exact findClass_of_methodNamed B.named, atoms_spec (ws := Cond.code y cc maxL ret :: wsAll) B.pre⟩ B.returns B.notSynchronized hnt hX hK hP hl rfl
theorem vp_lt {i : Int32} {n : Nat} (h : vp_in i n) : i.toNatClampNeg < n := Nat.not_le.mp fun q => h (Or.inr q)
theorem at_1 {A : Nat → Prop} {U : State} {ar : Array Value} (hts : ∀ x ∈ wsAll, x.before ar U = true) (hX : EX A U) : Bundle.fit "java/lang/IndexOutOfBoundsException" = true ∧ (∀ n ∈ ["java/lang/RuntimeException", "java/lang/Exception"], Bundle.fit n = true) ∧ (∀ x ∈ vx_atS RX6 115 "java/lang/IndexOutOfBoundsException" ["java/lang/RuntimeException", "java/lang/Exception"], x.before ar U = true) ∧ ∀ x ∈ Cond.classLink RX6 111 "java/lang/IndexOutOfBoundsException" :: Cond.initialized "java/lang/IndexOutOfBoundsException" :: vx_atS RX6 115 "java/lang/IndexOutOfBoundsException" ["java/lang/RuntimeException", "java/lang/Exception"], vx_ot x = true :=
  ⟨by decide +kernel, by decide +kernel, vx_hat (B := exB1) (fun w hw => hts w (exSX_in w (at_sub1 w hw))) at_b1 (vx_c (va_Nw.use rfl (hX.1 ("java/lang/IndexOutOfBoundsException", "java/lang/IndexOutOfBoundsException") (by decide +kernel))) (vx_c (va_Nw.use rfl (hX.2.1 ⟨"java/lang/RuntimeException", "<init>", "(Ljava/lang/String;)V"⟩ (by decide +kernel))) (vx_c (va_Nw.use rfl (hX.2.1 ⟨"java/lang/Exception", "<init>", "(Ljava/lang/String;)V"⟩ (by decide +kernel))) (vx_c (va_Nw.use rfl (hX.2.1 ⟨"java/lang/Throwable", "<init>", "(Ljava/lang/String;)V"⟩ (by decide +kernel))) vx_n)))), at_o1⟩
theorem at_2 {A : Nat → Prop} {U : State} {ar : Array Value} (hts : ∀ x ∈ wsAll, x.before ar U = true) (hX : EX A U) : Bundle.fit "java/lang/IllegalArgumentException" = true ∧ (∀ n ∈ ["java/lang/RuntimeException", "java/lang/Exception"], Bundle.fit n = true) ∧ (∀ x ∈ vx_atS RX6 50 "java/lang/IllegalArgumentException" ["java/lang/RuntimeException", "java/lang/Exception"], x.before ar U = true) ∧ ∀ x ∈ Cond.classLink RX6 46 "java/lang/IllegalArgumentException" :: Cond.initialized "java/lang/IllegalArgumentException" :: vx_atS RX6 50 "java/lang/IllegalArgumentException" ["java/lang/RuntimeException", "java/lang/Exception"], vx_ot x = true :=
  ⟨by decide +kernel, by decide +kernel, vx_hat (B := exB2) (fun w hw => hts w (exSX_in w (at_sub2 w hw))) at_b2 (vx_c (va_Nw.use rfl (hX.1 ("java/lang/IllegalArgumentException", "java/lang/IllegalArgumentException") (by decide +kernel))) (vx_c (va_Nw.use rfl (hX.2.1 ⟨"java/lang/RuntimeException", "<init>", "(Ljava/lang/String;)V"⟩ (by decide +kernel))) (vx_c (va_Nw.use rfl (hX.2.1 ⟨"java/lang/Exception", "<init>", "(Ljava/lang/String;)V"⟩ (by decide +kernel))) (vx_c (va_Nw.use rfl (hX.2.1 ⟨"java/lang/Throwable", "<init>", "(Ljava/lang/String;)V"⟩ (by decide +kernel))) vx_n)))), at_o2⟩
theorem at_3 {A : Nat → Prop} {U : State} {ar : Array Value} (hts : ∀ x ∈ wsAll, x.before ar U = true) (hX : EX A U) : Bundle.fit "java/lang/IllegalStateException" = true ∧ (∀ n ∈ ["java/lang/RuntimeException", "java/lang/Exception"], Bundle.fit n = true) ∧ (∀ x ∈ vx_atS RX6 101 "java/lang/IllegalStateException" ["java/lang/RuntimeException", "java/lang/Exception"], x.before ar U = true) ∧ ∀ x ∈ Cond.classLink RX6 97 "java/lang/IllegalStateException" :: Cond.initialized "java/lang/IllegalStateException" :: vx_atS RX6 101 "java/lang/IllegalStateException" ["java/lang/RuntimeException", "java/lang/Exception"], vx_ot x = true :=
  ⟨by decide +kernel, by decide +kernel, vx_hat (B := exB3) (fun w hw => hts w (exSX_in w (at_sub3 w hw))) at_b3 (vx_c (va_Nw.use rfl (hX.1 ("java/lang/IllegalStateException", "java/lang/IllegalStateException") (by decide +kernel))) (vx_c (va_Nw.use rfl (hX.2.1 ⟨"java/lang/RuntimeException", "<init>", "(Ljava/lang/String;)V"⟩ (by decide +kernel))) (vx_c (va_Nw.use rfl (hX.2.1 ⟨"java/lang/Exception", "<init>", "(Ljava/lang/String;)V"⟩ (by decide +kernel))) (vx_c (va_Nw.use rfl (hX.2.1 ⟨"java/lang/Throwable", "<init>", "(Ljava/lang/String;)V"⟩ (by decide +kernel))) vx_n)))), at_o3⟩
theorem at_4 {A : Nat → Prop} {U : State} {ar : Array Value} (hts : ∀ x ∈ wsAll, x.before ar U = true) (hX : EX A U) : Bundle.fit "java/util/NoSuchElementException" = true ∧ (∀ n ∈ ["java/lang/RuntimeException", "java/lang/Exception"], Bundle.fit n = true) ∧ (∀ x ∈ xs_at RX6 176 "java/util/NoSuchElementException" 13 prog_19_method_4_code "java/lang/RuntimeException" ["java/lang/Exception"], x.before ar U = true) ∧ ∀ x ∈ Cond.classLink RX6 172 "java/util/NoSuchElementException" :: Cond.initialized "java/util/NoSuchElementException" :: xs_at RX6 176 "java/util/NoSuchElementException" 13 prog_19_method_4_code "java/lang/RuntimeException" ["java/lang/Exception"], vx_ot x = true :=
  ⟨by decide +kernel, by decide +kernel, vx_hat (B := exB4) (fun w hw => hts w (exSX_in w (at_sub4 w hw))) at_b4 (vx_c (va_Nw.use rfl (hX.1 ("java/util/NoSuchElementException", "java/util/NoSuchElementException") (by decide +kernel))) (vx_c (va_Nw.use rfl (hX.2.1 ⟨"java/lang/RuntimeException", "<init>", "(Ljava/lang/String;)V"⟩ (by decide +kernel))) (vx_c (va_Nw.use rfl (hX.2.1 ⟨"java/lang/Exception", "<init>", "(Ljava/lang/String;)V"⟩ (by decide +kernel))) (vx_c (va_Nw.use rfl (hX.2.1 ⟨"java/lang/Throwable", "<init>", "(Ljava/lang/String;)V"⟩ (by decide +kernel))) vx_n)))), at_o4⟩
end
