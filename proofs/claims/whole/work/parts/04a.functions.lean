/-! what each method of class and reference does, as a function over St: printed by wip/gen out of javap's listing -/
def f_X2_clear (S : St) (k : Nat) : Option (St) :=
  lt (si S k (0 : Int32)) (fun (S_2 : St) =>
  some S_2)
def f_X2_size (S : St) (k : Nat) : Option (Int32) :=
  some (gi S k)
def f_X5_lineCount (S : St) (z : Nat) : Option (Int32) :=
  cl (f_X2_size S (oT z + 1)) (fun (v4 : Int32) =>
  some v4)
def f_X2_at (S : St) (k : Nat) (x1 : Int32) : Option (Int32) :=
  jn (
      some (-1 : Int32)) (fun J22 =>
  if x1 < 0 then (
    J22)
  else (
    if (nI (ln k)) ≤ x1 then (
      J22)
    else (
      ck x1 (ln k) (
      some (ga S k x1.toNatClampNeg)))))
def f_X5_line (S : St) (z : Nat) (x1 : Int32) : Option (Int32) :=
  cl (f_X2_at S (oT z + 1) x1) (fun (v5 : Int32) =>
  some v5)
def f_X5_hasThere (S : St) (z : Nat) (x1 : Int32) : Option (Int32) :=
  cl (f_X2_at S (oT z + 7) x1) (fun (v5 : Int32) =>
  if ¬ v5 = (1 : Int32) then (
    some (0 : Int32))
  else (
    some (1 : Int32)))
def f_X1_beginsParagraph (S : St) (x1 : Int32) : Option (Int32) :=
  cl (f_X2_at S (16) x1) (fun (v5 : Int32) =>
  if ¬ v5 = (1 : Int32) then (
    some (0 : Int32))
  else (
    some (1 : Int32)))
def f_X2_put (S : St) (k : Nat) (x1 : Int32) (x2 : Int32) : Option (St) :=
  if x1 < 0 then (
    some S)
  else (
    if (nI (ln k)) ≤ x1 then (
      some S)
    else (
      ck x1 (ln k) (
      lt (sa S k x1.toNatClampNeg x2) (fun (S_19 : St) =>
      some S_19))))
def f_X2_putBetween (S : St) (k : Nat) (x1 : Int32) (x2 : Int32) : Option (St) :=
  if x1 < 0 then (
    some S)
  else (
    if (gi S k) < x1 then (
      some S)
    else (
      if (gi S k) < (nI (ln k)) then (
        lt (gi S k) (fun (x3_29 : Int32) =>
        Lp2 (fun (x3_30 : Int32) (S_30 : St) nx30 =>
          if x3_30 ≤ x1 then (
            cl (f_X2_put S_30 k x1 x2) (fun (S_56 : St) =>
            lt (si S_56 k ((gi S_56 k) + (1 : Int32))) (fun (S_66 : St) =>
            some S_66)))
          else (
            cl (f_X2_at S_30 k (x3_30 - (1 : Int32))) (fun (v41 : Int32) =>
            cl (f_X2_put S_30 k x3_30 v41) (fun (S_44 : St) =>
            lt (x3_30 + (-1 : Int32)) (fun (x3_47 : Int32) =>
            nx30 x3_47 S_44))))) FU x3_29 S))
      else (
        some S)))
def f_X2_add (S : St) (k : Nat) (x1 : Int32) : Option (St) :=
  cl (f_X2_putBetween S k (gi S k) x1) (fun (S_6 : St) =>
  some S_6)
def f_X0_gatherLines (S : St) (z : Nat) : Option (St) :=
  cl (f_X2_clear S (oL z + 1)) (fun (S_4 : St) =>
  cl (f_X2_clear S_4 (oL z + 3)) (fun (S_11 : St) =>
  Lp2 (fun (x1_16 : Int32) (S_16 : St) nx16 =>
    cl (f_X5_lineCount S_16 z) (fun (v21 : Int32) =>
    if v21 ≤ x1_16 then (
      some S_16)
    else (
      cl (f_X5_line S_16 z x1_16) (fun (v32 : Int32) =>
      cl (f_X5_hasThere S_16 z v32) (fun (v41 : Int32) =>
      jn (fun (S_107 : St) =>
          lt (x1_16 + 1) (fun (x1_107 : Int32) =>
          nx16 x1_107 S_107)) (fun J107 =>
      if v41 = 0 then (
        J107 S_16)
      else (
        cl (f_X2_size S_16 (oL z + 1)) (fun (v51 : Int32) =>
        jn (
            cl (f_X2_add S_16 (oL z + 1) v32) (fun (S_79 : St) =>
            jn (fun (t0_95 : Int32) =>
                cl (f_X2_add S_79 (oL z + 3) t0_95) (fun (S_95 : St) =>
                cl (f_X2_put S_95 (oL z + 5) v32 (1 : Int32)) (fun (S_104 : St) =>
                J107 S_104))) (fun J95 =>
            if (1 : Int32) = 0 then (
              J95 (0 : Int32))
            else (
              J95 (1 : Int32))))) (fun J68 =>
        jn (fun (t0_73 : Int32) =>
            cl (f_X2_add S_16 (oL z + 1) v32) (fun (S_79 : St) =>
            jn (fun (t0_95 : Int32) =>
                cl (f_X2_add S_79 (oL z + 3) t0_95) (fun (S_95 : St) =>
                cl (f_X2_put S_95 (oL z + 5) v32 (1 : Int32)) (fun (S_104 : St) =>
                J107 S_104))) (fun J95 =>
            if t0_73 = 0 then (
              J95 (0 : Int32))
            else (
              J95 (1 : Int32))))) (fun J73 =>
        if v51 = 0 then (
          J68)
        else (
          cl (f_X1_beginsParagraph S_16 v32) (fun (v62 : Int32) =>
          if v62 = 0 then (
            J73 (0 : Int32))
          else (
            J68))))))))))))) FU (0 : Int32) S_11))
def f_X1_noteCount (S : St) : Option (Int32) :=
  cl (f_X2_size S (18)) (fun (v4 : Int32) =>
  some v4)
def f_X5_knowsNote (S : St) (z : Nat) (x1 : Int32) : Option (Int32) :=
  cl (f_X2_at S (oT z + 9) x1) (fun (v5 : Int32) =>
  if v5 = (-1 : Int32) then (
    some (0 : Int32))
  else (
    some (1 : Int32)))
def f_X2_placeOf (S : St) (k : Nat) (x1 : Int32) : Option (Int32) :=
  Lp1 (fun (x2_2 : Int32) nx2 =>
    if (gi S k) ≤ x2_2 then (
      some (-1 : Int32))
    else (
      cl (f_X2_at S k x2_2) (fun (v12 : Int32) =>
      if ¬ v12 = x1 then (
        lt (x2_2 + 1) (fun (x2_21 : Int32) =>
        nx2 x2_21))
      else (
        some x2_2)))) FU (0 : Int32)
def f_X5_lineOfNote (S : St) (z : Nat) (x1 : Int32) : Option (Int32) :=
  cl (f_X2_at S (oT z + 9) x1) (fun (v9 : Int32) =>
  cl (f_X2_placeOf S (oT z + 1) v9) (fun (v12 : Int32) =>
  Lp2 (fun (x3_21 : Int32) (x4_21 : Int32) nx21 =>
    cl (f_X2_size S (oT z + 1)) (fun (v27 : Int32) =>
    if v27 ≤ x4_21 then (
      some x3_21)
    else (
      jn (
          cl (f_X2_at S (oT z + 1) x4_21) (fun (v51 : Int32) =>
          cl (f_X5_hasThere S z v51) (fun (v54 : Int32) =>
          jn (fun (x3_70 : Int32) =>
              lt (x4_21 + 1) (fun (x4_70 : Int32) =>
              nx21 x3_70 x4_70)) (fun J70 =>
          if v54 = 0 then (
            J70 x3_21)
          else (
            cl (f_X2_at S (oT z + 1) x4_21) (fun (v66 : Int32) =>
            J70 v66)))))) (fun J44 =>
      if x4_21 ≤ v12 then (
        J44)
      else (
        if ¬ x3_21 = (-1 : Int32) then (
          some x3_21)
        else (
          J44)))))) FU (-1 : Int32) (0 : Int32)))
def f_X1_rowsOfNote (S : St) (x1 : Int32) : Option (Int32) :=
  cl (f_X2_at S (18) x1) (fun (v5 : Int32) =>
  some v5)
def f_X0_addNotes (S : St) (z : Nat) : Option (St) :=
  Lp2 (fun (x1_2 : Int32) (S_2 : St) nx2 =>
    cl (f_X1_noteCount S_2) (fun (v7 : Int32) =>
    if v7 ≤ x1_2 then (
      some S_2)
    else (
      cl (f_X5_knowsNote S_2 z x1_2) (fun (v18 : Int32) =>
      jn (fun (S_65 : St) =>
          lt (x1_2 + 1) (fun (x1_65 : Int32) =>
          nx2 x1_65 S_65)) (fun J65 =>
      if v18 = 0 then (
        J65 S_2)
      else (
        cl (f_X5_lineOfNote S_2 z x1_2) (fun (v29 : Int32) =>
        cl (f_X2_at S_2 (oL z + 5) v29) (fun (v38 : Int32) =>
        cl (f_X1_rowsOfNote S_2 x1_2) (fun (v46 : Int32) =>
        lt (v38 + v46) (fun (x3_50 : Int32) =>
        cl (f_X2_put S_2 (oL z + 5) v29 (if (6 : Int32) < x3_50 then (6 : Int32) else x3_50)) (fun (S_62 : St) =>
        J65 S_62))))))))))) FU (0 : Int32) S
def f_X0_rows (S : St) (z : Nat) (x1 : Int32) : Option (Int32) :=
  cl (f_X2_at S (oL z + 1) x1) (fun (v9 : Int32) =>
  cl (f_X2_at S (oL z + 5) v9) (fun (v12 : Int32) =>
  some v12))
def f_X0_isBadCut (S : St) (z : Nat) (x1 : Int32) : Option (Int32) :=
  cl (f_X2_size S (oL z + 1)) (fun (v5 : Int32) =>
  if v5 ≤ x1 then (
    some (0 : Int32))
  else (
    cl (f_X2_at S (oL z + 3) x1) (fun (v16 : Int32) =>
    if ¬ v16 = (1 : Int32) then (
      cl (f_X2_at S (oL z + 3) (x1 - (1 : Int32))) (fun (v32 : Int32) =>
      jn (fun (t0_44 : Int32) =>
          cl (f_X2_size S (oL z + 1)) (fun (v52 : Int32) =>
          jn (
              jn (
                  some (1 : Int32)) (fun J86 =>
              if ¬ t0_44 = 0 then (
                J86)
              else (
                if (1 : Int32) = 0 then (
                  some (0 : Int32))
                else (
                  J86)))) (fun J72 =>
          jn (fun (t0_77 : Int32) =>
              jn (
                  some (1 : Int32)) (fun J86 =>
              if ¬ t0_44 = 0 then (
                J86)
              else (
                if t0_77 = 0 then (
                  some (0 : Int32))
                else (
                  J86)))) (fun J77 =>
          if (x1 + (1 : Int32)) = v52 then (
            J72)
          else (
            cl (f_X2_at S (oL z + 3) (x1 + (1 : Int32))) (fun (v65 : Int32) =>
            if ¬ v65 = (1 : Int32) then (
              J77 (0 : Int32))
            else (
              J72))))))) (fun J44 =>
      if ¬ v32 = (1 : Int32) then (
        J44 (0 : Int32))
      else (
        J44 (1 : Int32)))))
    else (
      some (0 : Int32)))))
def f_X0_endOfPage (S : St) (z : Nat) (x1 : Int32) : Option (Int32) :=
  Lp3 (fun (x2_8 : Int32) (x3_8 : Int32) (x4_8 : Int32) nx8 =>
    cl (f_X2_size S (oL z + 1)) (fun (v13 : Int32) =>
    jn (
        if ¬ x4_8 = (-1 : Int32) then (
          some x4_8)
        else (
          some x3_8)) (fun J53 =>
    if v13 ≤ x3_8 then (
      J53)
    else (
      cl (f_X0_rows S z x3_8) (fun (v21 : Int32) =>
      if x2_8 < v21 then (
        J53)
      else (
        cl (f_X0_rows S z x3_8) (fun (v31 : Int32) =>
        lt (x2_8 - v31) (fun (x2_35 : Int32) =>
        lt (x3_8 + 1) (fun (x3_36 : Int32) =>
        cl (f_X0_isBadCut S z x3_36) (fun (v41 : Int32) =>
        if ¬ v41 = 0 then (
          nx8 x2_35 x3_36 x4_8)
        else (
          nx8 x2_35 x3_36 x3_36))))))))))) FU (6 : Int32) x1 (-1 : Int32)
def f_X0_cutPages (S : St) (z : Nat) : Option (St) :=
  cl (f_X2_clear S (oL z + 7)) (fun (S_4 : St) =>
  Lp3 (fun (x1_11 : Int32) (x2_11 : Int32) (S_11 : St) nx11 =>
    cl (f_X2_size S_11 (oL z + 1)) (fun (v16 : Int32) =>
    if v16 ≤ x2_11 then (
      some S_11)
    else (
      cl (f_X2_size S_11 (oL z + 1)) (fun (v27 : Int32) =>
      if v27 ≤ x1_11 then (
        some S_11)
      else (
        cl (f_X2_add S_11 (oL z + 7) x1_11) (fun (S_38 : St) =>
        cl (f_X0_endOfPage S_38 z x1_11) (fun (v43 : Int32) =>
        lt (x2_11 + 1) (fun (x2_47 : Int32) =>
        nx11 v43 x2_47 S_38)))))))) FU (0 : Int32) (0 : Int32) S_4)
def f_X0_layAnew (S : St) (z : Nat) : Option (St) :=
  cl (f_X0_gatherLines S z) (fun (S_1 : St) =>
  cl (f_X0_addNotes S_1 z) (fun (S_5 : St) =>
  cl (f_X0_cutPages S_5 z) (fun (S_9 : St) =>
  some S_9)))
def f_X0_lineCount (S : St) (z : Nat) : Option (Int32) :=
  cl (f_X2_size S (oL z + 1)) (fun (v4 : Int32) =>
  some v4)
def f_X0_line (S : St) (z : Nat) (x1 : Int32) : Option (Int32) :=
  cl (f_X2_at S (oL z + 1) x1) (fun (v5 : Int32) =>
  some v5)
def f_X0_beginsParagraph (S : St) (z : Nat) (x1 : Int32) : Option (Int32) :=
  cl (f_X2_at S (oL z + 3) x1) (fun (v5 : Int32) =>
  if ¬ v5 = (1 : Int32) then (
    some (0 : Int32))
  else (
    some (1 : Int32)))
def f_X0_pageCount (S : St) (z : Nat) : Option (Int32) :=
  cl (f_X2_size S (oL z + 7)) (fun (v4 : Int32) =>
  some v4)
def f_X0_pageOf (S : St) (z : Nat) (x1 : Int32) : Option (Int32) :=
  Lp2 (fun (x2_4 : Int32) (x3_4 : Int32) nx4 =>
    cl (f_X2_size S (oL z + 7)) (fun (v9 : Int32) =>
    if v9 ≤ x3_4 then (
      some x2_4)
    else (
      cl (f_X2_at S (oL z + 7) x3_4) (fun (v20 : Int32) =>
      if x1 < v20 then (
        some x2_4)
      else (
        lt (x3_4 + 1) (fun (x3_29 : Int32) =>
        nx4 x3_4 x3_29)))))) FU (-1 : Int32) (0 : Int32)
def f_X0_startOf (S : St) (z : Nat) (x1 : Int32) : Option (Int32) :=
  jn (
      cl (f_X2_size S (oL z + 1)) (fun (v30 : Int32) =>
      some v30)) (fun J26 =>
  if x1 < 0 then (
    J26)
  else (
    cl (f_X2_size S (oL z + 7)) (fun (v9 : Int32) =>
    if v9 ≤ x1 then (
      J26)
    else (
      cl (f_X2_at S (oL z + 7) x1) (fun (v20 : Int32) =>
      some v20)))))
def f_X0_endWithRoom (S : St) (z : Nat) (x1 : Int32) : Option (Int32) :=
  Lp2 (fun (x2_4 : Int32) (x3_4 : Int32) nx4 =>
    cl (f_X2_size S (oL z + 1)) (fun (v9 : Int32) =>
    if v9 ≤ x3_4 then (
      cl (f_X2_size S (oL z + 1)) (fun (v41 : Int32) =>
      some v41))
    else (
      cl (f_X0_rows S z x3_4) (fun (v18 : Int32) =>
      lt (x2_4 + v18) (fun (x2_22 : Int32) =>
      if x2_22 ≤ (6 : Int32) then (
        lt (x3_4 + 1) (fun (x3_31 : Int32) =>
        nx4 x2_22 x3_31))
      else (
        some x3_4)))))) FU (0 : Int32) x1
def f_X0_endByTrying (S : St) (z : Nat) (x1 : Int32) : Option (Int32) :=
  cl (f_X0_endWithRoom S z x1) (fun (v2 : Int32) =>
  Lp1 (fun (x3_8 : Int32) nx8 =>
    if x3_8 ≤ x1 then (
      some v2)
    else (
      cl (f_X0_isBadCut S z x3_8) (fun (v15 : Int32) =>
      if ¬ v15 = 0 then (
        lt (x3_8 + (-1 : Int32)) (fun (x3_23 : Int32) =>
        nx8 x3_23))
      else (
        some x3_8)))) FU v2)
def f_X0_countAheadAnew (S : St) (z : Nat) (x1 : Int32) : Option (Int32) :=
  Lp2 (fun (x2_4 : Int32) (x3_4 : Int32) nx4 =>
    if x1 ≤ x3_4 then (
      some x2_4)
    else (
      cl (f_X2_size S (oL z + 1)) (fun (v14 : Int32) =>
      if v14 ≤ x3_4 then (
        some x2_4)
      else (
        cl (f_X0_endByTrying S z x2_4) (fun (v22 : Int32) =>
        lt (x3_4 + 1) (fun (x3_26 : Int32) =>
        nx4 v22 x3_26)))))) FU (0 : Int32) (0 : Int32)
def f_X1_addDeed (S : St) (x1 : Int32) (x2 : Int32) (x3 : Int32) (x4 : Int32) : Option (Int32 × St) :=
  cl (f_X2_add S (2) x1) (fun (S_5 : St) =>
  cl (f_X2_add S_5 (4) x2) (fun (S_13 : St) =>
  cl (f_X2_add S_13 (6) x3) (fun (S_21 : St) =>
  cl (f_X2_add S_21 (8) x4) (fun (S_30 : St) =>
  cl (f_X2_size S_30 (2)) (fun (v37 : Int32) =>
  some ((v37 - (1 : Int32)), S_30))))))
def f_X1_addLine (S : St) (x1 : Int32) (x2 : Int32) (x3 : Int32) (x4 : Int32) : Option (Int32 × St) :=
  cl (f_X2_add S (10) x1) (fun (S_5 : St) =>
  cl (f_X2_add S_5 (12) x2) (fun (S_13 : St) =>
  cl (f_X2_add S_13 (14) x3) (fun (S_21 : St) =>
  jn (fun (t0_38 : Int32) =>
      cl (f_X2_add S_21 (16) t0_38) (fun (S_38 : St) =>
      cl (f_X2_size S_38 (10)) (fun (v45 : Int32) =>
      some ((v45 - (1 : Int32)), S_38)))) (fun J38 =>
  if x4 = 0 then (
    J38 (0 : Int32))
  else (
    J38 (1 : Int32))))))
def f_X1_addNote (S : St) (x1 : Int32) : Option (Int32 × St) :=
  cl (f_X2_add S (18) x1) (fun (S_5 : St) =>
  cl (f_X2_size S_5 (18)) (fun (v12 : Int32) =>
  some ((v12 - (1 : Int32)), S_5)))
def f_X1_deedCount (S : St) : Option (Int32) :=
  cl (f_X2_size S (2)) (fun (v4 : Int32) =>
  some v4)
def f_X1_lineCount (S : St) : Option (Int32) :=
  cl (f_X2_size S (10)) (fun (v4 : Int32) =>
  some v4)
def f_X1_kindOf (S : St) (x1 : Int32) : Option (Int32) :=
  cl (f_X2_at S (2) x1) (fun (v5 : Int32) =>
  some v5)
def f_X1_stampOf (S : St) (x1 : Int32) : Option (Int32) :=
  cl (f_X2_at S (4) x1) (fun (v5 : Int32) =>
  some v5)
def f_X1_subjectOf (S : St) (x1 : Int32) : Option (Int32) :=
  cl (f_X2_at S (6) x1) (fun (v5 : Int32) =>
  some v5)
def f_X1_targetOf (S : St) (x1 : Int32) : Option (Int32) :=
  cl (f_X2_at S (8) x1) (fun (v5 : Int32) =>
  some v5)
def f_X1_stampOfLine (S : St) (x1 : Int32) : Option (Int32) :=
  cl (f_X2_at S (10) x1) (fun (v5 : Int32) =>
  some v5)
def f_X1_behindOf (S : St) (x1 : Int32) : Option (Int32) :=
  cl (f_X2_at S (12) x1) (fun (v5 : Int32) =>
  some v5)
def f_X1_valueOf (S : St) (x1 : Int32) : Option (Int32) :=
  cl (f_X2_at S (14) x1) (fun (v5 : Int32) =>
  some v5)
def f_X3_hasPageToPrint (S : St) : Option (Int32) :=
  cl (f_X2_size S (130)) (fun (v4 : Int32) =>
  cl (f_X0_pageCount S 0) (fun (v11 : Int32) =>
  if v11 ≤ v4 then (
    some (0 : Int32))
  else (
    some (1 : Int32))))
def f_X3_pageCount (S : St) : Option (Int32) :=
  cl (f_X2_size S (130)) (fun (v4 : Int32) =>
  some v4)
def f_X3_sheetCount (S : St) : Option (Int32) :=
  cl (f_X2_size S (130)) (fun (v4 : Int32) =>
  nz (2 : Int32) (
  some (v4 / (2 : Int32))))
def f_X3_printPage (S : St) : Option (Int32 × St) :=
  cl (f_X2_size S (130)) (fun (v4 : Int32) =>
  cl (f_X0_startOf S 0 v4) (fun (v13 : Int32) =>
  cl (f_X0_startOf S 0 (v4 + (1 : Int32))) (fun (v24 : Int32) =>
  lt (v24 - v13) (fun (x3_29 : Int32) =>
  Lp2 (fun (x4_33 : Int32) (S_33 : St) nx33 =>
    if x3_29 ≤ x4_33 then (
      cl (f_X2_add S_33 (130) x3_29) (fun (S_100 : St) =>
      some (x3_29, S_100)))
    else (
      cl (f_X0_line S_33 0 (v13 + x4_33)) (fun (v58 : Int32) =>
      cl (f_X2_put S_33 (132) ((v4 * (6 : Int32)) + x4_33) v58) (fun (S_61 : St) =>
      cl (f_X0_rows S_61 0 (v13 + x4_33)) (fun (v83 : Int32) =>
      cl (f_X2_put S_61 (134) ((v4 * (6 : Int32)) + x4_33) v83) (fun (S_86 : St) =>
      lt (x4_33 + 1) (fun (x4_89 : Int32) =>
      nx33 x4_89 S_86))))))) FU (0 : Int32) S))))
def f_X3_printSheet (S : St) : Option (Int32 × St) :=
  Lp3 (fun (x1_4 : Int32) (x2_4 : Int32) (S_4 : St) nx4 =>
    if (2 : Int32) ≤ x2_4 then (
      some (x1_4, S_4))
    else (
      cl2 (f_X3_printPage S_4) (fun (v11 : Int32) (S_11 : St) =>
      lt (x1_4 + v11) (fun (x1_15 : Int32) =>
      lt (x2_4 + 1) (fun (x2_16 : Int32) =>
      nx4 x1_15 x2_16 S_11))))) FU (0 : Int32) (0 : Int32) S
def f_X3_isPrinted (S : St) (x1 : Int32) (x2 : Int32) (x3 : Int32) : Option (Int32) :=
  Lp1 (fun (x4_3 : Int32) nx3 =>
    cl (f_X2_at S (130) x1) (fun (v10 : Int32) =>
    if v10 ≤ x4_3 then (
      some (0 : Int32))
    else (
      lt ((x1 * (6 : Int32)) + x4_3) (fun (x5_23 : Int32) =>
      cl (f_X2_at S (132) x5_23) (fun (v31 : Int32) =>
      jn (
          lt (x4_3 + 1) (fun (x4_53 : Int32) =>
          nx3 x4_53)) (fun J53 =>
      if ¬ v31 = x2 then (
        J53)
      else (
        cl (f_X2_at S (134) x5_23) (fun (v44 : Int32) =>
        if ¬ v44 = x3 then (
          J53)
        else (
          some (1 : Int32)))))))))) FU (0 : Int32)
def f_X3_difference (S : St) (x1 : Int32) : Option (Int32) :=
  cl (f_X0_startOf S 0 x1) (fun (v5 : Int32) =>
  cl (f_X0_startOf S 0 (x1 + (1 : Int32))) (fun (v16 : Int32) =>
  Lp2 (fun (x4_26 : Int32) (x5_26 : Int32) nx26 =>
    if v16 ≤ x5_26 then (
      cl (f_X2_at S (130) x1) (fun (v72 : Int32) =>
      some ((((v72 - x4_26) + v16) - v5) - x4_26)))
    else (
      cl (f_X0_line S 0 x5_26) (fun (v40 : Int32) =>
      cl (f_X0_rows S 0 x5_26) (fun (v49 : Int32) =>
      cl (f_X3_isPrinted S x1 v40 v49) (fun (v52 : Int32) =>
      jn (fun (x4_61 : Int32) =>
          lt (x5_26 + 1) (fun (x5_61 : Int32) =>
          nx26 x4_61 x5_61)) (fun J61 =>
      if v52 = 0 then (
        J61 x4_26)
      else (
        lt (x4_26 + 1) (fun (x4_58 : Int32) =>
        J61 x4_58)))))))) FU (0 : Int32) v5))
def f_X3_slips (S : St) (x1 : Int32) : Option (Int32) :=
  Lp2 (fun (x2_4 : Int32) (x3_4 : Int32) nx4 =>
    if (x1 + (2 : Int32)) ≤ x3_4 then (
      some x2_4)
    else (
      cl (f_X3_difference S x3_4) (fun (v13 : Int32) =>
      jn (fun (t0_32 : Int32) =>
          lt (x2_4 + t0_32) (fun (x2_33 : Int32) =>
          lt (x3_4 + 1) (fun (x3_34 : Int32) =>
          nx4 x2_33 x3_34))) (fun J32 =>
      if ¬ v13 = 0 then (
        J32 ((1 : Int32) + v13))
      else (
        J32 (0 : Int32)))))) FU (0 : Int32) x1
def f_X3_bill (S : St) : Option (Int32) :=
  Lp2 (fun (x1_4 : Int32) (x2_4 : Int32) nx4 =>
    cl (f_X3_pageCount S) (fun (v6 : Int32) =>
    if v6 ≤ x2_4 then (
      some x1_4)
    else (
      cl (f_X3_slips S x2_4) (fun (v17 : Int32) =>
      lt (x1_4 + (if v17 < (10 : Int32) then v17 else (10 : Int32))) (fun (x1_24 : Int32) =>
      lt (x2_4 + 2) (fun (x2_25 : Int32) =>
      nx4 x1_24 x2_25)))))) FU (0 : Int32) (0 : Int32)
def f_X4_nextStamp (S : St) (z : Nat) : Option (Int32 × St) :=
  lt (si S (oS z) ((gi S (oS z)) + (1 : Int32))) (fun (S_7 : St) =>
  some ((((gi S_7 (oS z)) * (4 : Int32)) + (nI z)), S_7))
def f_X5_putIn (S : St) (z : Nat) (x1 : Int32) : Option (St) :=
  cl (f_X1_stampOfLine S x1) (fun (v5 : Int32) =>
  cl (f_X1_behindOf S x1) (fun (v18 : Int32) =>
  cl (f_X2_placeOf S (oT z + 1) v18) (fun (v21 : Int32) =>
  lt (v21 + (1 : Int32)) (fun (x3_26 : Int32) =>
  Lp1 (fun (x3_27 : Int32) nx27 =>
    cl (f_X2_size S (oT z + 1)) (fun (v32 : Int32) =>
    jn (
        cl (f_X2_putBetween S (oT z + 1) x3_27 x1) (fun (S_69 : St) =>
        cl (f_X2_put S_69 (oT z + 7) x1 (1 : Int32)) (fun (S_78 : St) =>
        some S_78))) (fun J63 =>
    if v32 ≤ x3_27 then (
      J63)
    else (
      cl (f_X2_at S (oT z + 1) x3_27) (fun (v47 : Int32) =>
      cl (f_X1_stampOfLine S v47) (fun (v50 : Int32) =>
      if v50 ≤ v5 then (
        J63)
      else (
        lt (x3_27 + 1) (fun (x3_57 : Int32) =>
        nx27 x3_57)))))))) FU x3_26))))
def f_X5_bringNote (S : St) (z : Nat) (x1 : Int32) (x2 : Int32) (x3 : Int32) : Option (St) :=
  cl (f_X2_at S (oT z + 11) x1) (fun (v6 : Int32) =>
  if x3 ≤ v6 then (
    some S)
  else (
    cl (f_X2_put S (oT z + 9) x1 x2) (fun (S_18 : St) =>
    cl (f_X2_put S_18 (oT z + 11) x1 x3) (fun (S_27 : St) =>
    some S_27))))
def f_X5_change (S : St) (z : Nat) (x1 : Int32) : Option (St) :=
  cl (f_X1_subjectOf S x1) (fun (v5 : Int32) =>
  cl (f_X1_kindOf S x1) (fun (v14 : Int32) =>
  if v14 = (0 : Int32) then (
    cl (f_X5_putIn S z v5) (fun (S_50 : St) =>
    some S_50))
  else (
  if v14 = (1 : Int32) then (
    cl (f_X2_put S (oT z + 7) v5 (0 : Int32)) (fun (S_62 : St) =>
    some S_62))
  else (
  if v14 = (2 : Int32) then (
    cl (f_X1_targetOf S x1) (fun (v75 : Int32) =>
    cl (f_X1_stampOf S x1) (fun (v83 : Int32) =>
    cl (f_X5_bringNote S z v5 v75 v83) (fun (S_86 : St) =>
    some S_86))))
  else (
  if v14 = (3 : Int32) then (
    cl (f_X1_targetOf S x1) (fun (v75 : Int32) =>
    cl (f_X1_stampOf S x1) (fun (v83 : Int32) =>
    cl (f_X5_bringNote S z v5 v75 v83) (fun (S_86 : St) =>
    some S_86))))
  else (
  some S))))))
def f_X4_learn (S : St) (z : Nat) (x1 : Int32) : Option (St) :=
  cl (f_X2_size S (oS z + 1)) (fun (v9 : Int32) =>
  cl (f_X2_put S (oS z + 3) x1 v9) (fun (S_12 : St) =>
  cl (f_X2_add S_12 (oS z + 1) x1) (fun (S_20 : St) =>
  cl (f_X5_change S_20 z x1) (fun (S_28 : St) =>
  some S_28))))
def f_X4_take (S : St) (z : Nat) (x1 : Int32) : Option (St) :=
  cl (f_X4_learn S z x1) (fun (S_2 : St) =>
  cl (f_X0_layAnew S_2 z) (fun (S_9 : St) =>
  some S_9))
def f_X4_takeAllOf (S : St) (z : Nat) (z1 : Nat) : Option (Int32 × St) :=
  cl (f_X2_size S (oS z + 1)) (fun (v4 : Int32) =>
  Lp2 (fun (x3_10 : Int32) (S_10 : St) nx10 =>
    cl (f_X2_size S_10 (oS z1 + 1)) (fun (v15 : Int32) =>
    if v15 ≤ x3_10 then (
      lt (si S_10 (oS z) (if (gi S_10 (oS z)) < (gi S_10 (oS z1)) then (gi S_10 (oS z1)) else (gi S_10 (oS z)))) (fun (S_68 : St) =>
      cl (f_X0_layAnew S_68 z) (fun (S_75 : St) =>
      cl (f_X2_size S_75 (oS z + 1)) (fun (v82 : Int32) =>
      some ((v82 - v4), S_75)))))
    else (
      cl (f_X2_at S_10 (oS z1 + 1) x3_10) (fun (v26 : Int32) =>
      cl (f_X2_at S_10 (oS z + 3) v26) (fun (v37 : Int32) =>
      jn (fun (S_50 : St) =>
          lt (x3_10 + 1) (fun (x3_50 : Int32) =>
          nx10 x3_50 S_50)) (fun J50 =>
      if ¬ v37 = (-1 : Int32) then (
        J50 S_10)
      else (
        cl (f_X4_learn S_10 z v26) (fun (S_47 : St) =>
        J50 S_47)))))))) FU (0 : Int32) S)
def f_X4_deedCount (S : St) (z : Nat) : Option (Int32) :=
  cl (f_X2_size S (oS z + 1)) (fun (v4 : Int32) =>
  some v4)
def f_X5_knowsLine (S : St) (z : Nat) (x1 : Int32) : Option (Int32) :=
  cl (f_X2_at S (oT z + 7) x1) (fun (v5 : Int32) =>
  if v5 = (-1 : Int32) then (
    some (0 : Int32))
  else (
    some (1 : Int32)))
def f_X5_placeByStamp (S : St) (z : Nat) (x1 : Int32) : Option (Int32) :=
  cl (f_X2_size S (oT z + 5)) (fun (v4 : Int32) =>
  Lp1 (fun (x2_8 : Int32) nx8 =>
    if x2_8 ≤ 0 then (
      some x2_8)
    else (
      cl (f_X2_at S (oT z + 5) (x2_8 - (1 : Int32))) (fun (v23 : Int32) =>
      cl (f_X1_stampOfLine S v23) (fun (v26 : Int32) =>
      if v26 ≤ x1 then (
        some x2_8)
      else (
        lt (x2_8 + (-1 : Int32)) (fun (x2_33 : Int32) =>
        nx8 x2_33)))))) FU v4)
def f_X5_sortByStamps (S : St) (z : Nat) : Option (St) :=
  cl (f_X2_clear S (oT z + 5)) (fun (S_4 : St) =>
  Lp2 (fun (x1_9 : Int32) (S_9 : St) nx9 =>
    cl (f_X1_lineCount S_9) (fun (v14 : Int32) =>
    if v14 ≤ x1_9 then (
      some S_9)
    else (
      cl (f_X5_knowsLine S_9 z x1_9) (fun (v22 : Int32) =>
      jn (fun (S_48 : St) =>
          lt (x1_9 + 1) (fun (x1_48 : Int32) =>
          nx9 x1_48 S_48)) (fun J48 =>
      if v22 = 0 then (
        J48 S_9)
      else (
        cl (f_X1_stampOfLine S_9 x1_9) (fun (v38 : Int32) =>
        cl (f_X5_placeByStamp S_9 z v38) (fun (v41 : Int32) =>
        cl (f_X2_putBetween S_9 (oT z + 5) v41 x1_9) (fun (S_45 : St) =>
        J48 S_45))))))))) FU (0 : Int32) S_4)
def f_X5_putAllAnew (S : St) (z : Nat) : Option (St) :=
  cl (f_X5_sortByStamps S z) (fun (S_1 : St) =>
  cl (f_X2_clear S_1 (oT z + 3)) (fun (S_8 : St) =>
  Lp2 (fun (x1_13 : Int32) (S_13 : St) nx13 =>
    cl (f_X2_size S_13 (oT z + 5)) (fun (v18 : Int32) =>
    if v18 ≤ x1_13 then (
      some S_13)
    else (
      cl (f_X2_at S_13 (oT z + 5) x1_13) (fun (v29 : Int32) =>
      cl (f_X1_behindOf S_13 v29) (fun (v46 : Int32) =>
      cl (f_X2_placeOf S_13 (oT z + 3) v46) (fun (v49 : Int32) =>
      cl (f_X2_putBetween S_13 (oT z + 3) (v49 + (1 : Int32)) v29) (fun (S_55 : St) =>
      lt (x1_13 + 1) (fun (x1_58 : Int32) =>
      nx13 x1_58 S_55)))))))) FU (0 : Int32) S_8))
def f_X5_findAnew (S : St) (z : Nat) (x1 : Int32) : Option (Int32 × St) :=
  cl (f_X5_putAllAnew S z) (fun (S_1 : St) =>
  Lp2 (fun (x2_8 : Int32) (x3_8 : Int32) nx8 =>
    cl (f_X2_size S_1 (oT z + 3)) (fun (v13 : Int32) =>
    if v13 ≤ x3_8 then (
      some ((-1 : Int32), S_1))
    else (
      cl (f_X2_at S_1 (oT z + 3) x3_8) (fun (v24 : Int32) =>
      cl (f_X5_hasThere S_1 z v24) (fun (v32 : Int32) =>
      jn (fun (x2_49 : Int32) =>
          lt (x3_8 + 1) (fun (x3_49 : Int32) =>
          nx8 x2_49 x3_49)) (fun J49 =>
      if v32 = 0 then (
        J49 x2_8)
      else (
        if ¬ x2_8 = x1 then (
          lt (x2_8 + 1) (fun (x2_46 : Int32) =>
          J49 x2_46))
        else (
          some (v24, S_1))))))))) FU (0 : Int32) (0 : Int32))
def f_X7_thrown (S : St) : Option (Int32) :=
  some (gi S 0)
def f_X7_goesWell (S : St) (x1 : Int32) : Option (Int32 × St) :=
  lt (si S 0 x1) (fun (S_2 : St) =>
  if ¬ x1 = 0 then (
    some ((0 : Int32), S_2))
  else (
    some ((1 : Int32), S_2)))
def f_X7_in (S : St) (x0 : Int32) (x1 : Int32) (x2 : Int32) : Option (Int32) :=
  jn (
      some (0 : Int32)) (fun J14 =>
  if x0 < x1 then (
    J14)
  else (
    if x2 < x0 then (
      J14)
    else (
      some (1 : Int32))))
def f_X7_isSite (S : St) (x0 : Int32) : Option (Int32) :=
  cl (f_X7_in S x0 (0 : Int32) (3 : Int32)) (fun (v3 : Int32) =>
  bz v3 (
  some v3))
def f_X7_knowsLine (S : St) (x1 : Int32) (x2 : Int32) : Option (Int32) :=
  cl (f_X7_in S x2 (0 : Int32) ((gi S 7) - (1 : Int32))) (fun (v8 : Int32) =>
  jn (
      some (0 : Int32)) (fun J37 =>
  if v8 = 0 then (
    J37)
  else (
    ck x2 90 (
    ck (((90 : Int32) * x1) + (ga S 8 x2.toNatClampNeg)) 360 (
    if (ga S 18 (((90 : Int32) * x1) + (ga S 8 x2.toNatClampNeg)).toNatClampNeg) = 0 then (
      J37)
    else (
      some (1 : Int32)))))))
def f_X7_knowsNote (S : St) (x1 : Int32) (x2 : Int32) : Option (Int32) :=
  cl (f_X7_in S x2 (0 : Int32) ((gi S 12) - (1 : Int32))) (fun (v8 : Int32) =>
  jn (
      some (0 : Int32)) (fun J37 =>
  if v8 = 0 then (
    J37)
  else (
    ck x2 90 (
    ck (((90 : Int32) * x1) + (ga S 13 x2.toNatClampNeg)) 360 (
    if (ga S 18 (((90 : Int32) * x1) + (ga S 13 x2.toNatClampNeg)).toNatClampNeg) = 0 then (
      J37)
    else (
      some (1 : Int32)))))))
def f_X7_isThere (S : St) (x1 : Int32) (x2 : Int32) : Option (Int32) :=
  Lp2 (fun (x3_5 : Int32) (x4_5 : Int32) nx5 =>
    if (gi S 1) ≤ x4_5 then (
      bz x3_5 (
      some x3_5))
    else (
      jn (
          lt (x4_5 + 1) (fun (x4_61 : Int32) =>
          nx5 (0 : Int32) x4_61)) (fun J59 =>
      jn (fun (t0_60 : Int32) =>
          lt (x4_5 + 1) (fun (x4_61 : Int32) =>
          nx5 t0_60 x4_61)) (fun J60 =>
      if x3_5 = 0 then (
        J59)
      else (
        ck x4_5 90 (
        jn (
            J60 (1 : Int32)) (fun J55 =>
        if ¬ (ga S 2 x4_5.toNatClampNeg) = (1 : Int32) then (
          J55)
        else (
          ck x4_5 90 (
          if ¬ (ga S 5 x4_5.toNatClampNeg) = x2 then (
            J55)
          else (
            ck (((90 : Int32) * x1) + x4_5) 360 (
            if ¬ (ga S 18 (((90 : Int32) * x1) + x4_5).toNatClampNeg) = 0 then (
              J59)
            else (
              J55)))))))))))) FU (1 : Int32) (0 : Int32)
def f_X7_learn (S : St) (x1 : Int32) (x2 : Int32) : Option (St) :=
  ck (((90 : Int32) * x1) + x2) 360 (
  lt (sa S 18 (((90 : Int32) * x1) + x2).toNatClampNeg (vp_nar .boolean (1 : Int32))) (fun (S_11 : St) =>
  ck x1 4 (
  ck (((90 : Int32) * x1) + (ga S_11 16 x1.toNatClampNeg)) 360 (
  lt (sa S_11 17 (((90 : Int32) * x1) + (ga S_11 16 x1.toNatClampNeg)).toNatClampNeg x2) (fun (S_28 : St) =>
  ck x1 4 (
  ck x1 4 (
  lt (sa S_28 16 x1.toNatClampNeg ((ga S_28 16 x1.toNatClampNeg) + (1 : Int32))) (fun (S_38 : St) =>
  some S_38))))))))
def f_X7_deed (S : St) (x1 : Int32) (x2 : Int32) (x3 : Int32) (x4 : Int32) : Option (Int32 × St) :=
  ck x1 4 (
  ck x1 4 (
  lt (sa S 15 x1.toNatClampNeg ((ga S 15 x1.toNatClampNeg) + (1 : Int32))) (fun (S_9 : St) =>
  ck (gi S_9 1) 90 (
  lt (sa S_9 2 (gi S_9 1).toNatClampNeg x2) (fun (S_19 : St) =>
  ck x1 4 (
  ck (gi S_19 1) 90 (
  lt (sa S_19 3 (gi S_19 1).toNatClampNeg (ga S_19 15 x1.toNatClampNeg)) (fun (S_34 : St) =>
  ck (gi S_34 1) 90 (
  lt (sa S_34 4 (gi S_34 1).toNatClampNeg x1) (fun (S_44 : St) =>
  ck (gi S_44 1) 90 (
  lt (sa S_44 5 (gi S_44 1).toNatClampNeg x3) (fun (S_54 : St) =>
  ck (gi S_54 1) 90 (
  lt (sa S_54 6 (gi S_54 1).toNatClampNeg x4) (fun (S_65 : St) =>
  lt (si S_65 1 ((gi S_65 1) + (1 : Int32))) (fun (S_73 : St) =>
  cl (f_X7_learn S_73 x1 ((gi S_73 1) - (1 : Int32))) (fun (S_84 : St) =>
  some (((gi S_84 1) - (1 : Int32)), S_84)))))))))))))))))
def f_X7_insert (S : St) (x1 : Int32) (x2 : Int32) (x3 : Int32) (x4 : Int32) : Option (Int32 × St) :=
  cl (f_X7_isSite S x1) (fun (v1 : Int32) =>
  jn (
      cl (f_X7_in S x3 (0 : Int32) (99 : Int32)) (fun (v32 : Int32) =>
      jn (fun (t0_70 : Int32) =>
          cl2 (f_X7_goesWell S t0_70) (fun (v70 : Int32) (S_70 : St) =>
          if ¬ v70 = 0 then (
            ck (gi S_70 7) 90 (
            lt (sa S_70 9 (gi S_70 7).toNatClampNeg x2) (fun (S_87 : St) =>
            ck (gi S_87 7) 90 (
            lt (sa S_87 10 (gi S_87 7).toNatClampNeg x3) (fun (S_97 : St) =>
            ck (gi S_97 7) 90 (
            lt (sa S_97 11 (gi S_97 7).toNatClampNeg (vp_nar .boolean x4)) (fun (S_108 : St) =>
            lt (si S_108 7 ((gi S_108 7) + (1 : Int32))) (fun (S_116 : St) =>
            cl2 (f_X7_deed S_116 x1 (0 : Int32) ((gi S_116 7) - (1 : Int32)) (-1 : Int32)) (fun (v139 : Int32) (S_139 : St) =>
            ck ((gi S_116 7) - (1 : Int32)) 90 (
            lt (sa S_139 8 ((gi S_116 7) - (1 : Int32)).toNatClampNeg v139) (fun (S_142 : St) =>
            some (((gi S_142 7) - (1 : Int32)), S_142))))))))))))
          else (
            some ((0 : Int32), S_70)))) (fun J70 =>
      if ¬ (0 : Int32) = 0 then (
        if ¬ v32 = 0 then (
          if ¬ (gi S 1) = (90 : Int32) then (
            J70 (0 : Int32))
          else (
            J70 (3 : Int32)))
        else (
          J70 (2 : Int32)))
      else (
        J70 (1 : Int32))))) (fun J25 =>
  jn (fun (t0_26 : Int32) =>
      cl (f_X7_in S x3 (0 : Int32) (99 : Int32)) (fun (v32 : Int32) =>
      jn (fun (t0_70 : Int32) =>
          cl2 (f_X7_goesWell S t0_70) (fun (v70 : Int32) (S_70 : St) =>
          if ¬ v70 = 0 then (
            ck (gi S_70 7) 90 (
            lt (sa S_70 9 (gi S_70 7).toNatClampNeg x2) (fun (S_87 : St) =>
            ck (gi S_87 7) 90 (
            lt (sa S_87 10 (gi S_87 7).toNatClampNeg x3) (fun (S_97 : St) =>
            ck (gi S_97 7) 90 (
            lt (sa S_97 11 (gi S_97 7).toNatClampNeg (vp_nar .boolean x4)) (fun (S_108 : St) =>
            lt (si S_108 7 ((gi S_108 7) + (1 : Int32))) (fun (S_116 : St) =>
            cl2 (f_X7_deed S_116 x1 (0 : Int32) ((gi S_116 7) - (1 : Int32)) (-1 : Int32)) (fun (v139 : Int32) (S_139 : St) =>
            ck ((gi S_116 7) - (1 : Int32)) 90 (
            lt (sa S_139 8 ((gi S_116 7) - (1 : Int32)).toNatClampNeg v139) (fun (S_142 : St) =>
            some (((gi S_142 7) - (1 : Int32)), S_142))))))))))))
          else (
            some ((0 : Int32), S_70)))) (fun J70 =>
      if ¬ t0_26 = 0 then (
        if ¬ v32 = 0 then (
          if ¬ (gi S 1) = (90 : Int32) then (
            J70 (0 : Int32))
          else (
            J70 (3 : Int32)))
        else (
          J70 (2 : Int32)))
      else (
        J70 (1 : Int32))))) (fun J26 =>
  if v1 = 0 then (
    J25)
  else (
    jn (
        J26 (1 : Int32)) (fun J21 =>
    if x2 = (-1 : Int32) then (
      J21)
    else (
      cl (f_X7_knowsLine S x1 x2) (fun (v15 : Int32) =>
      if v15 = 0 then (
        J25)
      else (
        J21))))))))
def f_X7_isGreater (S : St) (x1 : Int32) (x2 : Int32) : Option (Int32) :=
  ck x1 90 (
  ck x2 90 (
  if (ga S 3 x1.toNatClampNeg) = (ga S 3 x2.toNatClampNeg) then (
    ck x1 90 (
    ck x2 90 (
    if (ga S 4 x1.toNatClampNeg) ≤ (ga S 4 x2.toNatClampNeg) then (
      some (0 : Int32))
    else (
      some (1 : Int32)))))
  else (
    ck x1 90 (
    ck x2 90 (
    if (ga S 3 x1.toNatClampNeg) ≤ (ga S 3 x2.toNatClampNeg) then (
      some (0 : Int32))
    else (
      some (1 : Int32)))))))
def f_X7_pileUp (S : St) (x1 : Int32) (x2 : Int32) (x3 : Int32) : Option (Int32 × St) :=
  Lp3 (fun (x4_6 : Int32) (x5_6 : Int32) (S_6 : St) nx6 =>
    if (gi S_6 7) ≤ x5_6 then (
      some (x4_6, S_6))
    else (
      cl (f_X7_knowsLine S_6 x1 x5_6) (fun (v19 : Int32) =>
      jn (fun (x4_108 : Int32) (S_108 : St) =>
          lt (x5_6 + 1) (fun (x5_108 : Int32) =>
          nx6 x4_108 x5_108 S_108)) (fun J108 =>
      if v19 = 0 then (
        J108 x4_6 S_6)
      else (
        ck x5_6 90 (
        if ¬ (ga S_6 9 x5_6.toNatClampNeg) = x2 then (
          J108 x4_6 S_6)
        else (
          Lp2 (fun (x6_40 : Int32) (S_40 : St) nx40 =>
            jn (
                ck x6_40 90 (
                lt (sa S_40 25 x6_40.toNatClampNeg x5_6) (fun (S_104 : St) =>
                lt (x4_6 + 1) (fun (x4_105 : Int32) =>
                J108 x4_105 S_104)))) (fun J96 =>
            if x6_40 ≤ x3 then (
              J96)
            else (
              ck (x6_40 - (1 : Int32)) 90 (
              ck (ga S_40 25 (x6_40 - (1 : Int32)).toNatClampNeg) 90 (
              ck x5_6 90 (
              cl (f_X7_isGreater S_40 (ga S_40 8 (ga S_40 25 (x6_40 - (1 : Int32)).toNatClampNeg).toNatClampNeg) (ga S_40 8 x5_6.toNatClampNeg)) (fun (v68 : Int32) =>
              if v68 = 0 then (
                J96)
              else (
                ck (x6_40 - (1 : Int32)) 90 (
                ck x6_40 90 (
                lt (sa S_40 25 x6_40.toNatClampNeg (ga S_40 25 (x6_40 - (1 : Int32)).toNatClampNeg)) (fun (S_89 : St) =>
                lt (x6_40 + (-1 : Int32)) (fun (x6_90 : Int32) =>
                nx40 x6_90 S_89)))))))))))) FU x4_6 S_6))))))) FU x3 (0 : Int32) S
def f_X7_arrange (S : St) (x1 : Int32) : Option (St) :=
  lt (si S 23 (0 : Int32)) (fun (S_2 : St) =>
  lt (si S_2 26 (0 : Int32)) (fun (S_7 : St) =>
  cl2 (f_X7_pileUp S_7 x1 (-1 : Int32) (0 : Int32)) (fun (v14 : Int32) (S_14 : St) =>
  Lp2 (fun (x2_18 : Int32) (S_18 : St) nx18 =>
    if x2_18 ≤ 0 then (
      some S_18)
    else (
      lt (x2_18 + (-1 : Int32)) (fun (x2_22 : Int32) =>
      ck x2_22 90 (
      lt (ga S_18 25 x2_22.toNatClampNeg) (fun (x3_31 : Int32) =>
      ck (gi S_18 23) 90 (
      lt (sa S_18 24 (gi S_18 23).toNatClampNeg x3_31) (fun (S_41 : St) =>
      lt (si S_41 23 ((gi S_41 23) + (1 : Int32))) (fun (S_49 : St) =>
      cl (f_X7_isThere S_49 x1 x3_31) (fun (v55 : Int32) =>
      jn (fun (S_81 : St) =>
          cl2 (f_X7_pileUp S_81 x1 x3_31 x2_22) (fun (v85 : Int32) (S_85 : St) =>
          nx18 v85 S_85)) (fun J81 =>
      if v55 = 0 then (
        J81 S_49)
      else (
        ck (gi S_49 26) 90 (
        lt (sa S_49 27 (gi S_49 26).toNatClampNeg x3_31) (fun (S_70 : St) =>
        lt (si S_70 26 ((gi S_70 26) + (1 : Int32))) (fun (S_78 : St) =>
        J81 S_78)))))))))))))) FU v14 S_14)))
def f_X7_placeOf (S : St) (x1 : Int32) (x2 : Int32) : Option (Int32) :=
  ck x2 90 (
  lt (ga S 13 x2.toNatClampNeg) (fun (x3_6 : Int32) =>
  Lp2 (fun (x3_10 : Int32) (x4_10 : Int32) nx10 =>
    if (gi S 1) ≤ x4_10 then (
      Lp2 (fun (x4_107 : Int32) (x5_107 : Int32) nx107 =>
        if (gi S 23) ≤ x5_107 then (
          some (-1 : Int32))
        else (
          ck x5_107 90 (
          cl (f_X7_isThere S x1 (ga S 24 x5_107.toNatClampNeg)) (fun (v125 : Int32) =>
          jn (fun (t0_143 : Int32) =>
              ck x5_107 90 (
              ck x3_10 90 (
              if ¬ (ga S 24 x5_107.toNatClampNeg) = (ga S 5 x3_10.toNatClampNeg) then (
                lt (x5_107 + 1) (fun (x5_190 : Int32) =>
                nx107 t0_143 x5_190))
              else (
                if t0_143 = (-1 : Int32) then (
                  if (gi S 26) ≤ 0 then (
                    some (-1 : Int32))
                  else (
                    ck (0 : Int32) 90 (
                    some (ga S 27 (0 : Int32).toNatClampNeg))))
                else (
                  some t0_143))))) (fun J143 =>
          if v125 = 0 then (
            J143 x4_107)
          else (
            ck x5_107 90 (
            J143 (ga S 24 x5_107.toNatClampNeg)))))))) FU (-1 : Int32) (0 : Int32))
    else (
      ck (((90 : Int32) * x1) + x4_10) 360 (
      jn (
          jn (
              lt (x4_10 + 1) (fun (x4_95 : Int32) =>
              nx10 x3_10 x4_95)) (fun J93 =>
          jn (fun (t0_94 : Int32) =>
              lt (x4_10 + 1) (fun (x4_95 : Int32) =>
              nx10 t0_94 x4_95)) (fun J94 =>
          if (0 : Int32) = 0 then (
            J93)
          else (
            ck x3_10 90 (
            jn (
                J94 x4_10) (fun J88 =>
            if (ga S 2 x3_10.toNatClampNeg) = (2 : Int32) then (
              J88)
            else (
              cl (f_X7_isGreater S x4_10 x3_10) (fun (v82 : Int32) =>
              if v82 = 0 then (
                J93)
              else (
                J88))))))))) (fun J60 =>
      jn (fun (t0_61 : Int32) =>
          jn (
              lt (x4_10 + 1) (fun (x4_95 : Int32) =>
              nx10 x3_10 x4_95)) (fun J93 =>
          jn (fun (t0_94 : Int32) =>
              lt (x4_10 + 1) (fun (x4_95 : Int32) =>
              nx10 t0_94 x4_95)) (fun J94 =>
          if t0_61 = 0 then (
            J93)
          else (
            ck x3_10 90 (
            jn (
                J94 x4_10) (fun J88 =>
            if (ga S 2 x3_10.toNatClampNeg) = (2 : Int32) then (
              J88)
            else (
              cl (f_X7_isGreater S x4_10 x3_10) (fun (v82 : Int32) =>
              if v82 = 0 then (
                J93)
              else (
                J88))))))))) (fun J61 =>
      if (ga S 18 (((90 : Int32) * x1) + x4_10).toNatClampNeg) = 0 then (
        J60)
      else (
        ck x4_10 90 (
        if ¬ (ga S 2 x4_10.toNatClampNeg) = (3 : Int32) then (
          J60)
        else (
          ck x4_10 90 (
          if ¬ (ga S 6 x4_10.toNatClampNeg) = x2 then (
            J60)
          else (
            J61 (1 : Int32))))))))))) FU x3_6 (0 : Int32)))
def f_X7_layRows (S : St) (x1 : Int32) : Option (St) :=
  Lp2 (fun (x2_2 : Int32) (S_2 : St) nx2 =>
    if (gi S_2 26) ≤ x2_2 then (
      Lp2 (fun (x2_25 : Int32) (S_25 : St) nx25 =>
        if (gi S_25 12) ≤ x2_25 then (
          Lp2 (fun (x2_110 : Int32) (S_110 : St) nx110 =>
            if (gi S_110 26) ≤ x2_110 then (
              some S_110)
            else (
              ck x2_110 90 (
              jn (fun (t0_145 : Int32) =>
                  ck x2_110 90 (
                  lt (sa S_110 28 x2_110.toNatClampNeg t0_145) (fun (S_145 : St) =>
                  lt (x2_110 + 1) (fun (x2_146 : Int32) =>
                  nx110 x2_146 S_145)))) (fun J145 =>
              if (ga S_110 28 x2_110.toNatClampNeg) ≤ (6 : Int32) then (
                ck x2_110 90 (
                J145 (ga S_110 28 x2_110.toNatClampNeg)))
              else (
                J145 (6 : Int32)))))) FU (0 : Int32) S_25)
        else (
          cl (f_X7_knowsNote S_25 x1 x2_25) (fun (v36 : Int32) =>
          jn (fun (t0_52 : Int32) =>
              Lp2 (fun (x4_56 : Int32) (S_56 : St) nx56 =>
                if (gi S_56 26) ≤ x4_56 then (
                  lt (x2_25 + 1) (fun (x2_102 : Int32) =>
                  nx25 x2_102 S_56))
                else (
                  ck x4_56 90 (
                  ck x4_56 90 (
                  jn (fun (t0_94 : Int32) =>
                      ck x4_56 90 (
                      lt (sa S_56 28 x4_56.toNatClampNeg ((ga S_56 28 x4_56.toNatClampNeg) + t0_94)) (fun (S_95 : St) =>
                      lt (x4_56 + 1) (fun (x4_96 : Int32) =>
                      nx56 x4_96 S_95)))) (fun J94 =>
                  if ¬ (ga S_56 27 x4_56.toNatClampNeg) = t0_52 then (
                    J94 (0 : Int32))
                  else (
                    ck x2_25 90 (
                    J94 (ga S_56 14 x2_25.toNatClampNeg)))))))) FU (0 : Int32) S_25) (fun J52 =>
          if v36 = 0 then (
            J52 (-1 : Int32))
          else (
            cl (f_X7_placeOf S_25 x1 x2_25) (fun (v45 : Int32) =>
            J52 v45)))))) FU (0 : Int32) S_2)
    else (
      ck x2_2 90 (
      lt (sa S_2 28 x2_2.toNatClampNeg (1 : Int32)) (fun (S_16 : St) =>
      lt (x2_2 + 1) (fun (x2_17 : Int32) =>
      nx2 x2_17 S_16))))) FU (0 : Int32) S
def f_X7_isBegun (S : St) (x1 : Int32) : Option (Int32) :=
  jn (
      some (1 : Int32)) (fun J18 =>
  if x1 = 0 then (
    J18)
  else (
    ck x1 90 (
    ck (ga S 27 x1.toNatClampNeg) 90 (
    if (ga S 11 (ga S 27 x1.toNatClampNeg).toNatClampNeg) = 0 then (
      some (0 : Int32))
    else (
      J18)))))
def f_X7_isBad (S : St) (x1 : Int32) : Option (Int32) :=
  jn (
      cl (f_X7_isBegun S x1) (fun (v42 : Int32) =>
      jn (
          some (0 : Int32)) (fun J66 =>
      if ¬ v42 = 0 then (
        J66)
      else (
        cl (f_X7_isBegun S (x1 - (1 : Int32))) (fun (v52 : Int32) =>
        jn (
            some (1 : Int32)) (fun J62 =>
        if ¬ v52 = 0 then (
          J62)
        else (
          if (1 : Int32) = 0 then (
            J66)
          else (
            J62)))))))) (fun J34 =>
  jn (fun (t0_39 : Int32) =>
      cl (f_X7_isBegun S x1) (fun (v42 : Int32) =>
      jn (
          some (0 : Int32)) (fun J66 =>
      if ¬ v42 = 0 then (
        J66)
      else (
        cl (f_X7_isBegun S (x1 - (1 : Int32))) (fun (v52 : Int32) =>
        jn (
            some (1 : Int32)) (fun J62 =>
        if ¬ v52 = 0 then (
          J62)
        else (
          if t0_39 = 0 then (
            J66)
          else (
            J62)))))))) (fun J39 =>
  if x1 = ((gi S 26) - (1 : Int32)) then (
    J34)
  else (
    jn (fun (t0_28 : Int32) =>
        cl (f_X7_isBegun S t0_28) (fun (v28 : Int32) =>
        if v28 = 0 then (
          J39 (0 : Int32))
        else (
          J34))) (fun J28 =>
    if (gi S 26) ≤ (x1 + (1 : Int32)) then (
      J28 x1)
    else (
      J28 (x1 + (1 : Int32)))))))
def f_X7_endOf (S : St) (x1 : Int32) : Option (Int32) :=
  Lp2 (fun (x2_4 : Int32) (x3_4 : Int32) nx4 =>
    jn (
        if ¬ x3_4 = (gi S 26) then (
          Lp1 (fun (x4_53 : Int32) nx53 =>
            jn (
                if x4_53 ≤ x1 then (
                  some x3_4)
                else (
                  some x4_53)) (fun J74 =>
            if x4_53 ≤ x1 then (
              J74)
            else (
              cl (f_X7_isBad S x4_53) (fun (v62 : Int32) =>
              if v62 = 0 then (
                J74)
              else (
                lt (x4_53 + (-1 : Int32)) (fun (x4_68 : Int32) =>
                nx53 x4_68)))))) FU x3_4)
        else (
          some x3_4)) (fun J40 =>
    if (gi S 26) ≤ x3_4 then (
      J40)
    else (
      ck x3_4 90 (
      if (6 : Int32) < (x2_4 + (ga S 28 x3_4.toNatClampNeg)) then (
        J40)
      else (
        ck x3_4 90 (
        lt (x2_4 + (ga S 28 x3_4.toNatClampNeg)) (fun (x2_33 : Int32) =>
        lt (x3_4 + 1) (fun (x3_34 : Int32) =>
        nx4 x2_33 x3_34)))))))) FU (0 : Int32) x1
def f_X7_lay (S : St) (x1 : Int32) : Option (St) :=
  cl (f_X7_arrange S x1) (fun (S_2 : St) =>
  cl (f_X7_layRows S_2 x1) (fun (S_7 : St) =>
  lt (si S_7 30 (0 : Int32)) (fun (S_12 : St) =>
  Lp2 (fun (x2_17 : Int32) (S_17 : St) nx17 =>
    if (gi S_17 26) ≤ x2_17 then (
      some S_17)
    else (
      cl (f_X7_endOf S_17 x2_17) (fun (v27 : Int32) =>
      Lp2 (fun (x4_34 : Int32) (S_34 : St) nx34 =>
        if v27 ≤ x4_34 then (
          lt (si S_34 30 ((gi S_34 30) + (1 : Int32))) (fun (S_64 : St) =>
          nx17 v27 S_64))
        else (
          ck x4_34 90 (
          lt (sa S_34 29 x4_34.toNatClampNeg (gi S_34 30)) (fun (S_50 : St) =>
          lt (x4_34 + 1) (fun (x4_51 : Int32) =>
          nx34 x4_51 S_50))))) FU x2_17 S_17))) FU (0 : Int32) S_12)))
def f_X7_remove (S : St) (x1 : Int32) (x2 : Int32) : Option (Int32 × St) :=
  cl (f_X7_isSite S x1) (fun (v1 : Int32) =>
  jn (
      jn (fun (t0_58 : Int32) =>
          cl2 (f_X7_goesWell S t0_58) (fun (v58 : Int32) (S_58 : St) =>
          if ¬ v58 = 0 then (
            cl2 (f_X7_deed S_58 x1 (1 : Int32) x2 (-1 : Int32)) (fun (v71 : Int32) (S_71 : St) =>
            cl (f_X7_lay S_71 x1) (fun (S_78 : St) =>
            some ((gi S_78 26), S_78))))
          else (
            some ((0 : Int32), S_58)))) (fun J58 =>
      if ¬ (0 : Int32) = 0 then (
        cl (f_X7_isThere S x1 x2) (fun (v34 : Int32) =>
        if ¬ v34 = 0 then (
          if ¬ (gi S 1) = (90 : Int32) then (
            J58 (0 : Int32))
          else (
            J58 (3 : Int32)))
        else (
          J58 (2 : Int32))))
      else (
        J58 (1 : Int32)))) (fun J20 =>
  jn (fun (t0_21 : Int32) =>
      jn (fun (t0_58 : Int32) =>
          cl2 (f_X7_goesWell S t0_58) (fun (v58 : Int32) (S_58 : St) =>
          if ¬ v58 = 0 then (
            cl2 (f_X7_deed S_58 x1 (1 : Int32) x2 (-1 : Int32)) (fun (v71 : Int32) (S_71 : St) =>
            cl (f_X7_lay S_71 x1) (fun (S_78 : St) =>
            some ((gi S_78 26), S_78))))
          else (
            some ((0 : Int32), S_58)))) (fun J58 =>
      if ¬ t0_21 = 0 then (
        cl (f_X7_isThere S x1 x2) (fun (v34 : Int32) =>
        if ¬ v34 = 0 then (
          if ¬ (gi S 1) = (90 : Int32) then (
            J58 (0 : Int32))
          else (
            J58 (3 : Int32)))
        else (
          J58 (2 : Int32))))
      else (
        J58 (1 : Int32)))) (fun J21 =>
  if v1 = 0 then (
    J20)
  else (
    cl (f_X7_knowsLine S x1 x2) (fun (v10 : Int32) =>
    if v10 = 0 then (
      J20)
    else (
      J21 (1 : Int32)))))))
def f_X7_note (S : St) (x1 : Int32) (x2 : Int32) (x3 : Int32) : Option (Int32 × St) :=
  cl (f_X7_isSite S x1) (fun (v1 : Int32) =>
  jn (
      cl (f_X7_in S x3 (1 : Int32) (3 : Int32)) (fun (v26 : Int32) =>
      jn (fun (t0_77 : Int32) =>
          cl2 (f_X7_goesWell S t0_77) (fun (v77 : Int32) (S_77 : St) =>
          if ¬ v77 = 0 then (
            ck (gi S_77 12) 90 (
            lt (sa S_77 14 (gi S_77 12).toNatClampNeg x3) (fun (S_94 : St) =>
            lt (si S_94 12 ((gi S_94 12) + (1 : Int32))) (fun (S_102 : St) =>
            cl2 (f_X7_deed S_102 x1 (2 : Int32) x2 ((gi S_102 12) - (1 : Int32))) (fun (v125 : Int32) (S_125 : St) =>
            ck ((gi S_102 12) - (1 : Int32)) 90 (
            lt (sa S_125 13 ((gi S_102 12) - (1 : Int32)).toNatClampNeg v125) (fun (S_128 : St) =>
            some (((gi S_128 12) - (1 : Int32)), S_128))))))))
          else (
            some ((0 : Int32), S_77)))) (fun J77 =>
      if ¬ (0 : Int32) = 0 then (
        if ¬ v26 = 0 then (
          cl (f_X7_isThere S x1 x2) (fun (v53 : Int32) =>
          if ¬ v53 = 0 then (
            if ¬ (gi S 1) = (90 : Int32) then (
              J77 (0 : Int32))
            else (
              J77 (4 : Int32)))
          else (
            J77 (3 : Int32))))
        else (
          J77 (2 : Int32)))
      else (
        J77 (1 : Int32))))) (fun J20 =>
  jn (fun (t0_21 : Int32) =>
      cl (f_X7_in S x3 (1 : Int32) (3 : Int32)) (fun (v26 : Int32) =>
      jn (fun (t0_77 : Int32) =>
          cl2 (f_X7_goesWell S t0_77) (fun (v77 : Int32) (S_77 : St) =>
          if ¬ v77 = 0 then (
            ck (gi S_77 12) 90 (
            lt (sa S_77 14 (gi S_77 12).toNatClampNeg x3) (fun (S_94 : St) =>
            lt (si S_94 12 ((gi S_94 12) + (1 : Int32))) (fun (S_102 : St) =>
            cl2 (f_X7_deed S_102 x1 (2 : Int32) x2 ((gi S_102 12) - (1 : Int32))) (fun (v125 : Int32) (S_125 : St) =>
            ck ((gi S_102 12) - (1 : Int32)) 90 (
            lt (sa S_125 13 ((gi S_102 12) - (1 : Int32)).toNatClampNeg v125) (fun (S_128 : St) =>
            some (((gi S_128 12) - (1 : Int32)), S_128))))))))
          else (
            some ((0 : Int32), S_77)))) (fun J77 =>
      if ¬ t0_21 = 0 then (
        if ¬ v26 = 0 then (
          cl (f_X7_isThere S x1 x2) (fun (v53 : Int32) =>
          if ¬ v53 = 0 then (
            if ¬ (gi S 1) = (90 : Int32) then (
              J77 (0 : Int32))
            else (
              J77 (4 : Int32)))
          else (
            J77 (3 : Int32))))
        else (
          J77 (2 : Int32)))
      else (
        J77 (1 : Int32))))) (fun J21 =>
  if v1 = 0 then (
    J20)
  else (
    cl (f_X7_knowsLine S x1 x2) (fun (v10 : Int32) =>
    if v10 = 0 then (
      J20)
    else (
      J21 (1 : Int32)))))))
def f_X7_move (S : St) (x1 : Int32) (x2 : Int32) (x3 : Int32) : Option (St) :=
  cl (f_X7_isSite S x1) (fun (v1 : Int32) =>
  jn (
      jn (fun (t0_69 : Int32) =>
          cl2 (f_X7_goesWell S t0_69) (fun (v69 : Int32) (S_69 : St) =>
          if v69 = 0 then (
            some S_69)
          else (
            cl2 (f_X7_deed S_69 x1 (3 : Int32) x3 x2) (fun (v80 : Int32) (S_80 : St) =>
            some S_80)))) (fun J69 =>
      if ¬ (0 : Int32) = 0 then (
        cl (f_X7_isThere S x1 x3) (fun (v45 : Int32) =>
        if ¬ v45 = 0 then (
          if ¬ (gi S 1) = (90 : Int32) then (
            J69 (0 : Int32))
          else (
            J69 (3 : Int32)))
        else (
          J69 (2 : Int32))))
      else (
        J69 (1 : Int32)))) (fun J29 =>
  jn (fun (t0_30 : Int32) =>
      jn (fun (t0_69 : Int32) =>
          cl2 (f_X7_goesWell S t0_69) (fun (v69 : Int32) (S_69 : St) =>
          if v69 = 0 then (
            some S_69)
          else (
            cl2 (f_X7_deed S_69 x1 (3 : Int32) x3 x2) (fun (v80 : Int32) (S_80 : St) =>
            some S_80)))) (fun J69 =>
      if ¬ t0_30 = 0 then (
        cl (f_X7_isThere S x1 x3) (fun (v45 : Int32) =>
        if ¬ v45 = 0 then (
          if ¬ (gi S 1) = (90 : Int32) then (
            J69 (0 : Int32))
          else (
            J69 (3 : Int32)))
        else (
          J69 (2 : Int32))))
      else (
        J69 (1 : Int32)))) (fun J30 =>
  if v1 = 0 then (
    J29)
  else (
    cl (f_X7_knowsNote S x1 x2) (fun (v10 : Int32) =>
    if v10 = 0 then (
      J29)
    else (
      cl (f_X7_knowsLine S x1 x3) (fun (v19 : Int32) =>
      if v19 = 0 then (
        J29)
      else (
        J30 (1 : Int32)))))))))
def f_X7_sync (S : St) (x1 : Int32) (x2 : Int32) : Option (Int32 × St) :=
  cl (f_X7_isSite S x1) (fun (v2 : Int32) =>
  jn (
      cl2 (f_X7_goesWell S (1 : Int32)) (fun (v20 : Int32) (S_20 : St) =>
      if ¬ v20 = 0 then (
        ck x2 4 (
        lt (ga S_20 16 x2.toNatClampNeg) (fun (x3_34 : Int32) =>
        Lp2 (fun (x4_38 : Int32) (S_38 : St) nx38 =>
          ck x1 4 (
          jn (
              ck x1 4 (
              ck x2 4 (
              jn (fun (t0_131 : Int32) =>
                  ck x2 4 (
                  lt (sa S_38 15 x2.toNatClampNeg t0_131) (fun (S_131 : St) =>
                  ck x2 4 (
                  some (((ga S_131 16 x2.toNatClampNeg) - x3_34), S_131))))) (fun J131 =>
              if (ga S_38 15 x1.toNatClampNeg) ≤ (ga S_38 15 x2.toNatClampNeg) then (
                ck x2 4 (
                J131 (ga S_38 15 x2.toNatClampNeg)))
              else (
                ck x1 4 (
                J131 (ga S_38 15 x1.toNatClampNeg))))))) (fun J96 =>
          if (ga S_38 16 x1.toNatClampNeg) ≤ x4_38 then (
            J96)
          else (
            if x1 = x2 then (
              J96)
            else (
              ck (((90 : Int32) * x1) + x4_38) 360 (
              lt (ga S_38 17 (((90 : Int32) * x1) + x4_38).toNatClampNeg) (fun (x5_66 : Int32) =>
              ck (((90 : Int32) * x2) + x5_66) 360 (
              jn (fun (S_90 : St) =>
                  lt (x4_38 + 1) (fun (x4_90 : Int32) =>
                  nx38 x4_90 S_90)) (fun J90 =>
              if ¬ (ga S_38 18 (((90 : Int32) * x2) + x5_66).toNatClampNeg) = 0 then (
                J90 S_38)
              else (
                cl (f_X7_learn S_38 x2 x5_66) (fun (S_87 : St) =>
                J90 S_87))))))))))) FU (0 : Int32) S_20)))
      else (
        some ((0 : Int32), S_20)))) (fun J19 =>
  jn (fun (t0_20 : Int32) =>
      cl2 (f_X7_goesWell S t0_20) (fun (v20 : Int32) (S_20 : St) =>
      if ¬ v20 = 0 then (
        ck x2 4 (
        lt (ga S_20 16 x2.toNatClampNeg) (fun (x3_34 : Int32) =>
        Lp2 (fun (x4_38 : Int32) (S_38 : St) nx38 =>
          ck x1 4 (
          jn (
              ck x1 4 (
              ck x2 4 (
              jn (fun (t0_131 : Int32) =>
                  ck x2 4 (
                  lt (sa S_38 15 x2.toNatClampNeg t0_131) (fun (S_131 : St) =>
                  ck x2 4 (
                  some (((ga S_131 16 x2.toNatClampNeg) - x3_34), S_131))))) (fun J131 =>
              if (ga S_38 15 x1.toNatClampNeg) ≤ (ga S_38 15 x2.toNatClampNeg) then (
                ck x2 4 (
                J131 (ga S_38 15 x2.toNatClampNeg)))
              else (
                ck x1 4 (
                J131 (ga S_38 15 x1.toNatClampNeg))))))) (fun J96 =>
          if (ga S_38 16 x1.toNatClampNeg) ≤ x4_38 then (
            J96)
          else (
            if x1 = x2 then (
              J96)
            else (
              ck (((90 : Int32) * x1) + x4_38) 360 (
              lt (ga S_38 17 (((90 : Int32) * x1) + x4_38).toNatClampNeg) (fun (x5_66 : Int32) =>
              ck (((90 : Int32) * x2) + x5_66) 360 (
              jn (fun (S_90 : St) =>
                  lt (x4_38 + 1) (fun (x4_90 : Int32) =>
                  nx38 x4_90 S_90)) (fun J90 =>
              if ¬ (ga S_38 18 (((90 : Int32) * x2) + x5_66).toNatClampNeg) = 0 then (
                J90 S_38)
              else (
                cl (f_X7_learn S_38 x2 x5_66) (fun (S_87 : St) =>
                J90 S_87))))))))))) FU (0 : Int32) S_20)))
      else (
        some ((0 : Int32), S_20)))) (fun J20 =>
  if v2 = 0 then (
    J19)
  else (
    cl (f_X7_isSite S x2) (fun (v9 : Int32) =>
    if v9 = 0 then (
      J19)
    else (
      J20 (0 : Int32)))))))
def f_X7_print (S : St) : Option (Int32 × St) :=
  cl (f_X7_lay S (0 : Int32)) (fun (S_2 : St) =>
  jn (fun (t0_24 : Int32) =>
      cl2 (f_X7_goesWell S_2 t0_24) (fun (v24 : Int32) (S_24 : St) =>
      if ¬ v24 = 0 then (
        Lp3 (fun (x1_36 : Int32) (x2_36 : Int32) (S_36 : St) nx36 =>
          if (gi S_36 26) ≤ x2_36 then (
            lt (si S_36 19 ((gi S_36 19) + (1 : Int32))) (fun (S_131 : St) =>
            some (x1_36, S_131)))
          else (
            ck x2_36 90 (
            lt (ga S_36 29 x2_36.toNatClampNeg) (fun (x3_50 : Int32) =>
            nz (2 : Int32) (
            jn (fun (x1_118 : Int32) (S_118 : St) =>
                lt (x2_36 + 1) (fun (x2_118 : Int32) =>
                nx36 x1_118 x2_118 S_118)) (fun J118 =>
            if ¬ (x3_50 / (2 : Int32)) = (gi S_36 19) then (
              J118 x1_36 S_36)
            else (
              ck x3_50 200 (
              ck x2_36 90 (
              ck (((6 : Int32) * x3_50) + (ga S_36 20 x3_50.toNatClampNeg)) 1200 (
              lt (sa S_36 21 (((6 : Int32) * x3_50) + (ga S_36 20 x3_50.toNatClampNeg)).toNatClampNeg (ga S_36 27 x2_36.toNatClampNeg)) (fun (S_82 : St) =>
              ck x3_50 200 (
              ck x2_36 90 (
              ck (((6 : Int32) * x3_50) + (ga S_82 20 x3_50.toNatClampNeg)) 1200 (
              lt (sa S_82 22 (((6 : Int32) * x3_50) + (ga S_82 20 x3_50.toNatClampNeg)).toNatClampNeg (ga S_82 28 x2_36.toNatClampNeg)) (fun (S_104 : St) =>
              ck x3_50 200 (
              ck x3_50 200 (
              lt (sa S_104 20 x3_50.toNatClampNeg ((ga S_104 20 x3_50.toNatClampNeg) + (1 : Int32))) (fun (S_114 : St) =>
              lt (x1_36 + 1) (fun (x1_115 : Int32) =>
              J118 x1_115 S_114))))))))))))))))))) FU (0 : Int32) (0 : Int32) S_24)
      else (
        some ((0 : Int32), S_24)))) (fun J24 =>
  if ((2 : Int32) * (gi S_2 19)) < (gi S_2 30) then (
    J24 (0 : Int32))
  else (
    J24 (1 : Int32))))
def f_X7_sheets (S : St) : Option (Int32 × St) :=
  lt (si S 0 (0 : Int32)) (fun (S_2 : St) =>
  some ((gi S_2 19), S_2))
def f_X7_unlike (S : St) (x1 : Int32) : Option (Int32) :=
  Lp3 (fun (x2_7 : Int32) (x3_7 : Int32) (x4_7 : Int32) nx7 =>
    if (gi S 26) ≤ x4_7 then (
      ck x1 200 (
      some (((ga S 20 x1.toNatClampNeg) + x3_7) - ((2 : Int32) * x2_7))))
    else (
      ck x4_7 90 (
      jn (fun (t0_32 : Int32) =>
          jn (fun (t0_45 : Int32) =>
              lt (x3_7 + t0_45) (fun (x3_46 : Int32) =>
              Lp2 (fun (x2_50 : Int32) (x6_50 : Int32) nx50 =>
                ck x1 200 (
                jn (
                    lt (x4_7 + 1) (fun (x4_136 : Int32) =>
                    nx7 x2_50 x3_46 x4_136)) (fun J136 =>
                if (ga S 20 x1.toNatClampNeg) ≤ x6_50 then (
                  J136)
                else (
                  if t0_32 = 0 then (
                    J136)
                  else (
                    ck (((6 : Int32) * x1) + x6_50) 1200 (
                    ck x4_7 90 (
                    jn (
                        jn (fun (t0_128 : Int32) =>
                            lt (x2_50 + t0_128) (fun (x2_129 : Int32) =>
                            lt (x6_50 + 1) (fun (x6_130 : Int32) =>
                            nx50 x2_129 x6_130))) (fun J128 =>
                        if (0 : Int32) = 0 then (
                          J128 (0 : Int32))
                        else (
                          J128 (1 : Int32)))) (fun J114 =>
                    jn (fun (t0_115 : Int32) =>
                        jn (fun (t0_128 : Int32) =>
                            lt (x2_50 + t0_128) (fun (x2_129 : Int32) =>
                            lt (x6_50 + 1) (fun (x6_130 : Int32) =>
                            nx50 x2_129 x6_130))) (fun J128 =>
                        if t0_115 = 0 then (
                          J128 (0 : Int32))
                        else (
                          J128 (1 : Int32)))) (fun J115 =>
                    if ¬ (ga S 21 (((6 : Int32) * x1) + x6_50).toNatClampNeg) = (ga S 27 x4_7.toNatClampNeg) then (
                      J114)
                    else (
                      ck (((6 : Int32) * x1) + x6_50) 1200 (
                      ck x4_7 90 (
                      if ¬ (ga S 22 (((6 : Int32) * x1) + x6_50).toNatClampNeg) = (ga S 28 x4_7.toNatClampNeg) then (
                        J114)
                      else (
                        J115 (1 : Int32)))))))))))))) FU x2_7 (0 : Int32))) (fun J45 =>
          if t0_32 = 0 then (
            J45 (0 : Int32))
          else (
            J45 (1 : Int32)))) (fun J32 =>
      if ¬ (ga S 29 x4_7.toNatClampNeg) = x1 then (
        J32 (0 : Int32))
      else (
        J32 (1 : Int32)))))) FU (0 : Int32) (0 : Int32) (0 : Int32)
def f_X7_differs (S : St) (x1 : Int32) : Option (Int32 × St) :=
  cl (f_X7_in S x1 (0 : Int32) (((2 : Int32) * (gi S 19)) - (1 : Int32))) (fun (v11 : Int32) =>
  jn (fun (t0_22 : Int32) =>
      cl2 (f_X7_goesWell S t0_22) (fun (v22 : Int32) (S_22 : St) =>
      if ¬ v22 = 0 then (
        cl (f_X7_lay S_22 (0 : Int32)) (fun (S_32 : St) =>
        cl (f_X7_unlike S_32 x1) (fun (v37 : Int32) =>
        some (v37, S_32))))
      else (
        some ((0 : Int32), S_22)))) (fun J22 =>
  if v11 = 0 then (
    J22 (1 : Int32))
  else (
    J22 (0 : Int32))))
def f_X7_cost (S : St) : Option (Int32 × St) :=
  lt (si S 0 (0 : Int32)) (fun (S_2 : St) =>
  cl (f_X7_lay S_2 (0 : Int32)) (fun (S_7 : St) =>
  Lp2 (fun (x1_14 : Int32) (x2_14 : Int32) nx14 =>
    if (gi S_7 19) ≤ x2_14 then (
      some (x1_14, S_7))
    else (
      cl (f_X7_unlike S_7 ((2 : Int32) * x2_14)) (fun (v26 : Int32) =>
      cl (f_X7_unlike S_7 (((2 : Int32) * x2_14) + (1 : Int32))) (fun (v36 : Int32) =>
      jn (fun (t0_52 : Int32) =>
          jn (fun (t0_65 : Int32) =>
              lt (t0_52 + t0_65) (fun (x5_66 : Int32) =>
              jn (fun (t0_83 : Int32) =>
                  lt (x1_14 + t0_83) (fun (x1_84 : Int32) =>
                  lt (x2_14 + 1) (fun (x2_85 : Int32) =>
                  nx14 x1_84 x2_85))) (fun J83 =>
              if (10 : Int32) ≤ x5_66 then (
                J83 (10 : Int32))
              else (
                J83 x5_66)))) (fun J65 =>
          if v36 ≤ 0 then (
            J65 (0 : Int32))
          else (
            J65 ((1 : Int32) + v36)))) (fun J52 =>
      if v26 ≤ 0 then (
        J52 (0 : Int32))
      else (
        J52 ((1 : Int32) + v26))))))) FU (0 : Int32) (0 : Int32)))
def f_X7_lines (S : St) (x1 : Int32) : Option (Int32 × St) :=
  cl (f_X7_isSite S x1) (fun (v2 : Int32) =>
  jn (fun (t0_13 : Int32) =>
      cl2 (f_X7_goesWell S t0_13) (fun (v13 : Int32) (S_13 : St) =>
      if ¬ v13 = 0 then (
        cl (f_X7_arrange S_13 x1) (fun (S_23 : St) =>
        some ((gi S_23 26), S_23)))
      else (
        some ((0 : Int32), S_13)))) (fun J13 =>
  if v2 = 0 then (
    J13 (1 : Int32))
  else (
    J13 (0 : Int32))))
def f_X7_lineAt (S : St) (x1 : Int32) (x2 : Int32) (x3 : Int32) : Option (Int32 × St) :=
  cl (f_X7_isSite S x1) (fun (v1 : Int32) =>
  jn (
      jn (fun (t0_42 : Int32) =>
          cl2 (f_X7_goesWell S t0_42) (fun (v42 : Int32) (S_42 : St) =>
          if ¬ v42 = 0 then (
            cl (f_X7_lay S_42 x1) (fun (S_52 : St) =>
            if x2 < (gi S_52 26) then (
              if ¬ x3 = 0 then (
                if ¬ x3 = (1 : Int32) then (
                  if ¬ x3 = (2 : Int32) then (
                    if ¬ x3 = (3 : Int32) then (
                      ck x2 90 (
                      some ((ga S_52 29 x2.toNatClampNeg), S_52)))
                    else (
                      cl (f_X7_isBegun S_52 x2) (fun (v118 : Int32) =>
                      if v118 = 0 then (
                        some ((0 : Int32), S_52))
                      else (
                        some ((1 : Int32), S_52)))))
                  else (
                    ck x2 90 (
                    some ((ga S_52 28 x2.toNatClampNeg), S_52))))
                else (
                  ck x2 90 (
                  ck (ga S_52 27 x2.toNatClampNeg) 90 (
                  some ((ga S_52 10 (ga S_52 27 x2.toNatClampNeg).toNatClampNeg), S_52)))))
              else (
                ck x2 90 (
                some ((ga S_52 27 x2.toNatClampNeg), S_52))))
            else (
              some ((-1 : Int32), S_52))))
          else (
            some ((0 : Int32), S_42)))) (fun J42 =>
      if ¬ (0 : Int32) = 0 then (
        cl (f_X7_in S x3 (0 : Int32) (4 : Int32)) (fun (v31 : Int32) =>
        if v31 = 0 then (
          J42 (2 : Int32))
        else (
          J42 (0 : Int32))))
      else (
        J42 (1 : Int32)))) (fun J15 =>
  jn (fun (t0_16 : Int32) =>
      jn (fun (t0_42 : Int32) =>
          cl2 (f_X7_goesWell S t0_42) (fun (v42 : Int32) (S_42 : St) =>
          if ¬ v42 = 0 then (
            cl (f_X7_lay S_42 x1) (fun (S_52 : St) =>
            if x2 < (gi S_52 26) then (
              if ¬ x3 = 0 then (
                if ¬ x3 = (1 : Int32) then (
                  if ¬ x3 = (2 : Int32) then (
                    if ¬ x3 = (3 : Int32) then (
                      ck x2 90 (
                      some ((ga S_52 29 x2.toNatClampNeg), S_52)))
                    else (
                      cl (f_X7_isBegun S_52 x2) (fun (v118 : Int32) =>
                      if v118 = 0 then (
                        some ((0 : Int32), S_52))
                      else (
                        some ((1 : Int32), S_52)))))
                  else (
                    ck x2 90 (
                    some ((ga S_52 28 x2.toNatClampNeg), S_52))))
                else (
                  ck x2 90 (
                  ck (ga S_52 27 x2.toNatClampNeg) 90 (
                  some ((ga S_52 10 (ga S_52 27 x2.toNatClampNeg).toNatClampNeg), S_52)))))
              else (
                ck x2 90 (
                some ((ga S_52 27 x2.toNatClampNeg), S_52))))
            else (
              some ((-1 : Int32), S_52))))
          else (
            some ((0 : Int32), S_42)))) (fun J42 =>
      if ¬ t0_16 = 0 then (
        cl (f_X7_in S x3 (0 : Int32) (4 : Int32)) (fun (v31 : Int32) =>
        if v31 = 0 then (
          J42 (2 : Int32))
        else (
          J42 (0 : Int32))))
      else (
        J42 (1 : Int32)))) (fun J16 =>
  if v1 = 0 then (
    J15)
  else (
    if x2 < 0 then (
      J15)
    else (
      J16 (1 : Int32))))))
def f_X7_lineAnew (S : St) (x1 : Int32) (x2 : Int32) : Option (Int32 × St) :=
  cl (f_X7_isSite S x1) (fun (v2 : Int32) =>
  jn (
      cl2 (f_X7_goesWell S (1 : Int32)) (fun (v17 : Int32) (S_17 : St) =>
      if ¬ v17 = 0 then (
        cl (f_X7_arrange S_17 x1) (fun (S_27 : St) =>
        if (gi S_27 26) ≤ x2 then (
          some ((-1 : Int32), S_27))
        else (
          ck x2 90 (
          some ((ga S_27 27 x2.toNatClampNeg), S_27)))))
      else (
        some ((0 : Int32), S_17)))) (fun J16 =>
  jn (fun (t0_17 : Int32) =>
      cl2 (f_X7_goesWell S t0_17) (fun (v17 : Int32) (S_17 : St) =>
      if ¬ v17 = 0 then (
        cl (f_X7_arrange S_17 x1) (fun (S_27 : St) =>
        if (gi S_27 26) ≤ x2 then (
          some ((-1 : Int32), S_27))
        else (
          ck x2 90 (
          some ((ga S_27 27 x2.toNatClampNeg), S_27)))))
      else (
        some ((0 : Int32), S_17)))) (fun J17 =>
  if v2 = 0 then (
    J16)
  else (
    if x2 < 0 then (
      J16)
    else (
      J17 (0 : Int32))))))
def f_X7_noteAt (S : St) (x1 : Int32) (x2 : Int32) : Option (Int32 × St) :=
  cl (f_X7_isSite S x1) (fun (v2 : Int32) =>
  jn (
      cl2 (f_X7_goesWell S (1 : Int32)) (fun (v22 : Int32) (S_22 : St) =>
      if ¬ v22 = 0 then (
        cl (f_X7_arrange S_22 x1) (fun (S_32 : St) =>
        cl (f_X7_placeOf S_32 x1 x2) (fun (v38 : Int32) =>
        some (v38, S_32))))
      else (
        some ((0 : Int32), S_22)))) (fun J21 =>
  jn (fun (t0_22 : Int32) =>
      cl2 (f_X7_goesWell S t0_22) (fun (v22 : Int32) (S_22 : St) =>
      if ¬ v22 = 0 then (
        cl (f_X7_arrange S_22 x1) (fun (S_32 : St) =>
        cl (f_X7_placeOf S_32 x1 x2) (fun (v38 : Int32) =>
        some (v38, S_32))))
      else (
        some ((0 : Int32), S_22)))) (fun J22 =>
  if v2 = 0 then (
    J21)
  else (
    cl (f_X7_knowsNote S x1 x2) (fun (v11 : Int32) =>
    if v11 = 0 then (
      J21)
    else (
      J22 (0 : Int32)))))))
def f_X7_pages (S : St) (x1 : Int32) : Option (Int32 × St) :=
  cl (f_X7_isSite S x1) (fun (v2 : Int32) =>
  jn (fun (t0_13 : Int32) =>
      cl2 (f_X7_goesWell S t0_13) (fun (v13 : Int32) (S_13 : St) =>
      if ¬ v13 = 0 then (
        cl (f_X7_lay S_13 x1) (fun (S_23 : St) =>
        some ((gi S_23 30), S_23)))
      else (
        some ((0 : Int32), S_13)))) (fun J13 =>
  if v2 = 0 then (
    J13 (1 : Int32))
  else (
    J13 (0 : Int32))))
def f_X7_aheadAnew (S : St) (x1 : Int32) (x2 : Int32) : Option (Int32 × St) :=
  cl (f_X7_isSite S x1) (fun (v2 : Int32) =>
  jn (
      cl2 (f_X7_goesWell S (1 : Int32)) (fun (v17 : Int32) (S_17 : St) =>
      if ¬ v17 = 0 then (
        cl (f_X7_lay S_17 x1) (fun (S_27 : St) =>
        Lp2 (fun (x3_35 : Int32) (x4_35 : Int32) nx35 =>
          if (gi S_27 26) ≤ x4_35 then (
            some (x3_35, S_27))
          else (
            ck x4_35 90 (
            jn (fun (t0_61 : Int32) =>
                lt (x3_35 + t0_61) (fun (x3_62 : Int32) =>
                lt (x4_35 + 1) (fun (x4_63 : Int32) =>
                nx35 x3_62 x4_63))) (fun J61 =>
            if x2 ≤ (ga S_27 29 x4_35.toNatClampNeg) then (
              J61 (0 : Int32))
            else (
              J61 (1 : Int32)))))) FU (0 : Int32) (0 : Int32)))
      else (
        some ((0 : Int32), S_17)))) (fun J16 =>
  jn (fun (t0_17 : Int32) =>
      cl2 (f_X7_goesWell S t0_17) (fun (v17 : Int32) (S_17 : St) =>
      if ¬ v17 = 0 then (
        cl (f_X7_lay S_17 x1) (fun (S_27 : St) =>
        Lp2 (fun (x3_35 : Int32) (x4_35 : Int32) nx35 =>
          if (gi S_27 26) ≤ x4_35 then (
            some (x3_35, S_27))
          else (
            ck x4_35 90 (
            jn (fun (t0_61 : Int32) =>
                lt (x3_35 + t0_61) (fun (x3_62 : Int32) =>
                lt (x4_35 + 1) (fun (x4_63 : Int32) =>
                nx35 x3_62 x4_63))) (fun J61 =>
            if x2 ≤ (ga S_27 29 x4_35.toNatClampNeg) then (
              J61 (0 : Int32))
            else (
              J61 (1 : Int32)))))) FU (0 : Int32) (0 : Int32)))
      else (
        some ((0 : Int32), S_17)))) (fun J17 =>
  if v2 = 0 then (
    J16)
  else (
    if x2 < 0 then (
      J16)
    else (
      J17 (0 : Int32))))))
def f_X7_known (S : St) (x1 : Int32) : Option (Int32 × St) :=
  cl (f_X7_isSite S x1) (fun (v2 : Int32) =>
  jn (fun (t0_13 : Int32) =>
      cl2 (f_X7_goesWell S t0_13) (fun (v13 : Int32) (S_13 : St) =>
      if v13 = 0 then (
        some ((0 : Int32), S_13))
      else (
        ck x1 4 (
        some ((ga S_13 16 x1.toNatClampNeg), S_13))))) (fun J13 =>
  if v2 = 0 then (
    J13 (1 : Int32))
  else (
    J13 (0 : Int32))))
def f_X6_siteOf (S : St) (x1 : Int32) : Option (Nat ⊕ Nat) :=
  jn (
      some (.inl 1)) (fun J13 =>
  if x1 < 0 then (
    J13)
  else (
    if x1 < (4 : Int32) then (
      ck x1 4 (
      some (.inr x1.toNatClampNeg)))
    else (
      J13)))
def f_X6_checkLineIsKnown (S : St) (z1 : Nat) (x2 : Int32) : Option (Nat ⊕ Unit) :=
  cl (f_X5_knowsLine S z1 x2) (fun (v5 : Int32) =>
  if ¬ v5 = 0 then (
    some (.inr ()))
  else (
    some (.inl 1)))
def f_X6_checkRoomForDeed (S : St) : Option (Nat ⊕ Unit) :=
  cl (f_X1_deedCount S) (fun (v4 : Int32) =>
  if v4 < (90 : Int32) then (
    some (.inr ()))
  else (
    some (.inl 3)))
def f_X6_insert (S : St) (x1 : Int32) (x2 : Int32) (x3 : Int32) (x4 : Int32) : Option ((Nat ⊕ Int32) × St) :=
  cx (f_X6_siteOf S x1) (fun (e9 : Nat) => some (.inl e9, S)) (fun (z2 : Nat) =>
  jn (
      jn (
          some (.inl 2, S)) (fun J29 =>
      if x3 < 0 then (
        J29)
      else (
        if x3 ≤ (99 : Int32) then (
          cx (f_X6_checkRoomForDeed S) (fun (e9 : Nat) => some (.inl e9, S)) (fun (_u40 : Unit) =>
          cl2 (f_X4_nextStamp S z2) (fun (v45 : Int32) (S_45 : St) =>
          cl2 (f_X1_addLine S_45 v45 x2 x3 x4) (fun (v60 : Int32) (S_60 : St) =>
          cl2 (f_X1_addDeed S_60 (0 : Int32) v45 v60 x2) (fun (v77 : Int32) (S_77 : St) =>
          cl (f_X4_take S_77 z2 v77) (fun (S_80 : St) =>
          some (.inr v60, S_80)))))))
        else (
          J29)))) (fun J19 =>
  if x2 = (-1 : Int32) then (
    J19)
  else (
    cx (f_X6_checkLineIsKnown S z2 x2) (fun (e9 : Nat) => some (.inl e9, S)) (fun (_u16 : Unit) =>
    J19))))
def f_X6_checkLineIsThere (S : St) (z1 : Nat) (x2 : Int32) : Option (Nat ⊕ Unit) :=
  cl (f_X5_hasThere S z1 x2) (fun (v5 : Int32) =>
  if ¬ v5 = 0 then (
    some (.inr ()))
  else (
    some (.inl 4)))
def f_X6_remove (S : St) (x1 : Int32) (x2 : Int32) : Option ((Nat ⊕ Int32) × St) :=
  cx (f_X6_siteOf S x1) (fun (e9 : Nat) => some (.inl e9, S)) (fun (z2 : Nat) =>
  cx (f_X6_checkLineIsKnown S z2 x2) (fun (e9 : Nat) => some (.inl e9, S)) (fun (_u9 : Unit) =>
  cx (f_X6_checkLineIsThere S z2 x2) (fun (e9 : Nat) => some (.inl e9, S)) (fun (_u15 : Unit) =>
  cx (f_X6_checkRoomForDeed S) (fun (e9 : Nat) => some (.inl e9, S)) (fun (_u19 : Unit) =>
  cl2 (f_X4_nextStamp S z2) (fun (v29 : Int32) (S_29 : St) =>
  cl2 (f_X1_addDeed S_29 (1 : Int32) v29 x2 (-1 : Int32)) (fun (v34 : Int32) (S_34 : St) =>
  cl (f_X4_take S_34 z2 v34) (fun (S_37 : St) =>
  cl (f_X0_lineCount S_37 z2) (fun (v44 : Int32) =>
  some (.inr v44, S_37)))))))))
def f_X6_note (S : St) (x1 : Int32) (x2 : Int32) (x3 : Int32) : Option ((Nat ⊕ Int32) × St) :=
  cx (f_X6_siteOf S x1) (fun (e9 : Nat) => some (.inl e9, S)) (fun (z2 : Nat) =>
  cx (f_X6_checkLineIsKnown S z2 x2) (fun (e9 : Nat) => some (.inl e9, S)) (fun (_u11 : Unit) =>
  jn (
      some (.inl 2, S)) (fun J24 =>
  if x3 < (1 : Int32) then (
    J24)
  else (
    if x3 ≤ (3 : Int32) then (
      cx (f_X6_checkLineIsThere S z2 x2) (fun (e9 : Nat) => some (.inl e9, S)) (fun (_u38 : Unit) =>
      cx (f_X6_checkRoomForDeed S) (fun (e9 : Nat) => some (.inl e9, S)) (fun (_u42 : Unit) =>
      cl2 (f_X1_addNote S x3) (fun (v50 : Int32) (S_50 : St) =>
      cl2 (f_X4_nextStamp S_50 z2) (fun (v64 : Int32) (S_64 : St) =>
      cl2 (f_X1_addDeed S_64 (2 : Int32) v64 v50 x2) (fun (v70 : Int32) (S_70 : St) =>
      cl (f_X4_take S_70 z2 v70) (fun (S_73 : St) =>
      some (.inr v50, S_73))))))))
    else (
      J24)))))
def f_X6_checkNoteIsKnown (S : St) (z1 : Nat) (x2 : Int32) : Option (Nat ⊕ Unit) :=
  cl (f_X5_knowsNote S z1 x2) (fun (v5 : Int32) =>
  if ¬ v5 = 0 then (
    some (.inr ()))
  else (
    some (.inl 1)))
def f_X6_move (S : St) (x1 : Int32) (x2 : Int32) (x3 : Int32) : Option ((Nat ⊕ Unit) × St) :=
  cx (f_X6_siteOf S x1) (fun (e9 : Nat) => some (.inl e9, S)) (fun (z2 : Nat) =>
  cx (f_X6_checkNoteIsKnown S z2 x2) (fun (e9 : Nat) => some (.inl e9, S)) (fun (_u11 : Unit) =>
  cx (f_X6_checkLineIsKnown S z2 x3) (fun (e9 : Nat) => some (.inl e9, S)) (fun (_u18 : Unit) =>
  cx (f_X6_checkLineIsThere S z2 x3) (fun (e9 : Nat) => some (.inl e9, S)) (fun (_u25 : Unit) =>
  cx (f_X6_checkRoomForDeed S) (fun (e9 : Nat) => some (.inl e9, S)) (fun (_u29 : Unit) =>
  cl2 (f_X4_nextStamp S z2) (fun (v41 : Int32) (S_41 : St) =>
  cl2 (f_X1_addDeed S_41 (3 : Int32) v41 x2 x3) (fun (v46 : Int32) (S_46 : St) =>
  cl (f_X4_take S_46 z2 v46) (fun (S_49 : St) =>
  some (.inr (), S_49)))))))))
def f_X6_sync (S : St) (x1 : Int32) (x2 : Int32) : Option ((Nat ⊕ Int32) × St) :=
  cx (f_X6_siteOf S x1) (fun (e9 : Nat) => some (.inl e9, S)) (fun (z2 : Nat) =>
  cx (f_X6_siteOf S x2) (fun (e9 : Nat) => some (.inl e9, S)) (fun (z8 : Nat) =>
  cl2 (f_X4_takeAllOf S z8 z2) (fun (v16 : Int32) (S_16 : St) =>
  some (.inr v16, S_16))))
def f_X6_print (S : St) : Option ((Nat ⊕ Int32) × St) :=
  cl (f_X3_hasPageToPrint S) (fun (v4 : Int32) =>
  if ¬ v4 = 0 then (
    cl2 (f_X3_printSheet S) (fun (v24 : Int32) (S_24 : St) =>
    some (.inr v24, S_24)))
  else (
    some (.inl 3, S)))
def f_X6_sheets (S : St) : Option (Int32) :=
  cl (f_X3_sheetCount S) (fun (v4 : Int32) =>
  some v4)
def f_X6_differs (S : St) (x1 : Int32) : Option (Nat ⊕ Int32) :=
  jn (
      some (.inl 1)) (fun J15 =>
  if x1 < 0 then (
    J15)
  else (
    cl (f_X3_pageCount S) (fun (v9 : Int32) =>
    if x1 < v9 then (
      cl (f_X3_difference S x1) (fun (v30 : Int32) =>
      some (.inr v30)))
    else (
      J15))))
def f_X6_cost (S : St) : Option (Int32) :=
  cl (f_X3_bill S) (fun (v4 : Int32) =>
  some v4)
def f_X6_lines (S : St) (x1 : Int32) : Option (Nat ⊕ Int32) :=
  cx (f_X6_siteOf S x1) (fun (e9 : Nat) => some (.inl e9)) (fun (z2 : Nat) =>
  cl (f_X0_lineCount S z2) (fun (v8 : Int32) =>
  some (.inr v8)))
def f_X6_checkFromNought (S : St) (x1 : Int32) : Option (Nat ⊕ Unit) :=
  if 0 ≤ x1 then (
    some (.inr ()))
  else (
    some (.inl 1))
def f_X6_lineAt (S : St) (x1 : Int32) (x2 : Int32) (x3 : Int32) : Option (Nat ⊕ Int32) :=
  cx (f_X6_siteOf S x1) (fun (e9 : Nat) => some (.inl e9)) (fun (z2 : Nat) =>
  cx (f_X6_checkFromNought S x2) (fun (e9 : Nat) => some (.inl e9)) (fun (_u12 : Unit) =>
  jn (
      some (.inl 2)) (fun J24 =>
  if x3 < 0 then (
    J24)
  else (
    if x3 ≤ (4 : Int32) then (
      cl (f_X0_lineCount S z2) (fun (v37 : Int32) =>
      if x2 < v37 then (
        if x3 = (0 : Int32) then (
          cl (f_X0_line S z2 x2) (fun (v79 : Int32) =>
          some (.inr v79)))
        else (
        if x3 = (1 : Int32) then (
          cl (f_X0_line S z2 x2) (fun (v90 : Int32) =>
          cl (f_X1_valueOf S v90) (fun (v93 : Int32) =>
          some (.inr v93))))
        else (
        if x3 = (2 : Int32) then (
          cl (f_X0_rows S z2 x2) (fun (v100 : Int32) =>
          some (.inr v100)))
        else (
        if x3 = (3 : Int32) then (
          cl (f_X0_beginsParagraph S z2 x2) (fun (v107 : Int32) =>
          if v107 = 0 then (
            some (.inr (0 : Int32)))
          else (
            some (.inr (1 : Int32)))))
        else (
        cl (f_X0_pageOf S z2 x2) (fun (v122 : Int32) =>
        some (.inr v122)))))))
      else (
        some (.inr (-1 : Int32)))))
    else (
      J24)))))
def f_X6_lineAnew (S : St) (x1 : Int32) (x2 : Int32) : Option ((Nat ⊕ Int32) × St) :=
  cx (f_X6_siteOf S x1) (fun (e9 : Nat) => some (.inl e9, S)) (fun (z2 : Nat) =>
  cx (f_X6_checkFromNought S x2) (fun (e9 : Nat) => some (.inl e9, S)) (fun (_u8 : Unit) =>
  cl2 (f_X5_findAnew S z2 x2) (fun (v16 : Int32) (S_16 : St) =>
  some (.inr v16, S_16))))
def f_X6_noteAt (S : St) (x1 : Int32) (x2 : Int32) : Option (Nat ⊕ Int32) :=
  cx (f_X6_siteOf S x1) (fun (e9 : Nat) => some (.inl e9)) (fun (z2 : Nat) =>
  cx (f_X6_checkNoteIsKnown S z2 x2) (fun (e9 : Nat) => some (.inl e9)) (fun (_u9 : Unit) =>
  cl (f_X5_lineOfNote S z2 x2) (fun (v17 : Int32) =>
  some (.inr v17))))
def f_X6_pages (S : St) (x1 : Int32) : Option (Nat ⊕ Int32) :=
  cx (f_X6_siteOf S x1) (fun (e9 : Nat) => some (.inl e9)) (fun (z2 : Nat) =>
  cl (f_X0_pageCount S z2) (fun (v8 : Int32) =>
  some (.inr v8)))
def f_X6_aheadAnew (S : St) (x1 : Int32) (x2 : Int32) : Option (Nat ⊕ Int32) :=
  cx (f_X6_siteOf S x1) (fun (e9 : Nat) => some (.inl e9)) (fun (z2 : Nat) =>
  cx (f_X6_checkFromNought S x2) (fun (e9 : Nat) => some (.inl e9)) (fun (_u8 : Unit) =>
  cl (f_X0_countAheadAnew S z2 x2) (fun (v16 : Int32) =>
  some (.inr v16))))
def f_X6_known (S : St) (x1 : Int32) : Option (Nat ⊕ Int32) :=
  cx (f_X6_siteOf S x1) (fun (e9 : Nat) => some (.inl e9)) (fun (z2 : Nat) =>
  cl (f_X4_deedCount S z2) (fun (v5 : Int32) =>
  some (.inr v5)))
theorem siteOf_lt {S : St} {x1 : Int32} {z : Nat} (h : f_X6_siteOf S x1 = some (.inr z)) : z < 4 := by
  unfold f_X6_siteOf jn at h
  split at h
  · cases h
  · split at h
    · obtain ⟨h1, h2⟩ := ck_some h
      cases h2
      exact vp_lt h1
    · cases h
