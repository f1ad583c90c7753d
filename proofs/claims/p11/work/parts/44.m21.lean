/-! 156 FormulaTrees$Writer.end(I)V -/
set_option maxRecDepth 100000 in
theorem zm156 : zP[156]? = some zM156 := rfl
def dm156_13 (s : aS) : Option (aS) :=
  if (sI s 117 4) ≤ 0 then
    some s
  else
    nx (wI s 117 4 ((sI s 117 4) - 1)) fun s2 =>
    if aB (sI s2 117 4) 128 then
      if (sI s2 120 (jN (sI s2 117 4))) = 0 then
        some s2
      else
        bu (dm141 41 s2) fun s9 =>
        some s9
    else none
set_option maxRecDepth 100000 in
theorem dt156_13 {sio : Bool} {tt : Nat} {cc : Nat → Nat → Int32} {d : Nat} (hd : 1 ≤ d) {x1 : Int32} {s : aS} (hl : Ly tt cc s) {o : aS} (h : dm156_13  s = some o) : Q 1 sio tt cc d 156 13 [some (.ref 117), some (.int x1)] [] s (.inl none, o) := by
  unfold dm156_13 at h
  obtain ⟨d, rfl⟩ : ∃ e, d = e + 1 := ⟨d - 1, by omega⟩
  refine Q.run zm156 1 (i' := 14) (ls' := [some (.ref 117), some (.int x1)]) (st' := [.ref 117]) rfl ?_
  refine Q.map (A.gf (gI_of zm156 (e := (28, 3, .getfield 30, [8, 4])) rfl) (hl.lt (a := 117) (by decide)) (hl.T (a := 117) (p := (8, 11)) 39 rfl rfl) (by decide) rfl) ?_
  by_cases hc1 : (sI s 117 4) ≤ 0
  · rw [if_pos hc1] at h
    refine Q.map (A.zT (gI_of zm156 (e := (31, 3, .ifCond .le 31, [31])) rfl) (decide_eq_true hc1)) ?_
    cases h
    exact Q.ret (A.rv zm156 (show zM156.2.2.2.2.2[31]? = some (62, 1, .return_, []) from rfl) rfl) hl
  · rw [if_neg hc1] at h
    refine Q.map (A.zF (gI_of zm156 (e := (31, 3, .ifCond .le 31, [31])) rfl) (fun q => hc1 (of_decide_eq_true q))) ?_
    refine Q.run zm156 2 (i' := 18) (ls' := [some (.ref 117), some (.int x1)]) (st' := [.ref 117, .ref 117]) rfl ?_
    refine Q.map (A.gf (gI_of zm156 (e := (36, 3, .getfield 30, [8, 4])) rfl) (hl.lt (a := 117) (by decide)) (hl.T (a := 117) (p := (8, 11)) 39 rfl rfl) (by decide) rfl) ?_
    refine Q.run zm156 2 (i' := 21) (ls' := [some (.ref 117), some (.int x1)]) (st' := [.int ((sI s 117 4) - 1), .ref 117]) rfl ?_
    obtain ⟨s2, hs3, h⟩ := nx_so h
    refine Q.pf hs3 rfl (gI_of zm156 (e := (41, 3, .putfield 30, [8, 4, 0])) rfl) (hl.lt (a := 117) (by decide)) (by decide) (hl.T (a := 117) (p := (8, 11)) 39 rfl rfl) (by decide) rfl rfl ?_
    have hl4 : Ly tt cc s2 := by rw [hs3]; exact hl.wId (by decide)
    refine Q.run zm156 1 (i' := 23) (ls' := [some (.ref 117), some (.int x1)]) (st' := [.ref 117]) rfl ?_
    refine Q.map (A.gf (gI_of zm156 (e := (45, 3, .getfield 18, [8, 3])) rfl) (hl4.lt (a := 117) (by decide)) (hl4.T (a := 117) (p := (8, 11)) 39 rfl rfl) (by decide) (hl4.R 22 rfl)) ?_
    refine Q.run zm156 1 (i' := 25) (ls' := [some (.ref 117), some (.int x1)]) (st' := [.ref 117, .ref 120]) rfl ?_
    refine Q.map (A.gf (gI_of zm156 (e := (49, 3, .getfield 30, [8, 4])) rfl) (hl4.lt (a := 117) (by decide)) (hl4.T (a := 117) (p := (8, 11)) 39 rfl rfl) (by decide) rfl) ?_
    obtain ⟨hc5, h⟩ := ite_so h
    refine Q.map (A.ba (gI_of zm156 (e := (52, 1, .baload, [])) rfl) (hl4.lt (a := 120) (by decide)) (hl4.T (a := 120) (p := (103, 128)) 42 rfl rfl) (by decide) hc5) ?_
    by_cases hc6 : (sI s2 120 (jN (sI s2 117 4))) = 0
    · rw [if_pos hc6] at h
      refine Q.map (A.zT (gI_of zm156 (e := (53, 3, .ifCond .eq 9, [31])) rfl) (decide_eq_true hc6)) ?_
      cases h
      exact Q.ret (A.rv zm156 (show zM156.2.2.2.2.2[31]? = some (62, 1, .return_, []) from rfl) rfl) hl4
    · rw [if_neg hc6] at h
      refine Q.map (A.zF (gI_of zm156 (e := (53, 3, .ifCond .eq 9, [31])) rfl) (fun q => hc6 (of_decide_eq_true q))) ?_
      refine Q.run zm156 2 (i' := 30) (ls' := [some (.ref 117), some (.int x1)]) (st' := [.int 41, .ref 117]) rfl ?_
      obtain ⟨s9, hc8, h⟩ := bu_so h
      have hq7 : Q 1 sio tt cc d 141 0 [some (.ref 117), some (.int 41)] [] s2 (.inl none, s9) := dt141 (by omega) hl4  hc8
      refine Q.callV (gC_vi zm156 (show zM156.2.2.2.2.2[30]? = some (59, 3, .invokevirtual 72, [0, 141, 1, 8]) from rfl) zm141 (hl4.lt (a := 117) (by decide)) (hl4.T (a := 117) (p := (8, 11)) 39 rfl rfl) rfl (show aCr 1 117 [.int 41, .ref 117] 2 = some ([some (.ref 117), some (.int 41)], []) from rfl)) hq7 ?_
      cases h
      exact Q.ret (A.rv zm156 (show zM156.2.2.2.2.2[31]? = some (62, 1, .return_, []) from rfl) rfl) hq7.1
def dm156 (x1 : Int32) (s : aS) : Option (aS) :=
  if x1 = 9 then
    bu (dm141 37 s) fun s4 =>
    dm156_13 s4
  else
    if x1 = 7 then
      bu (dm141 41 s) fun s8 =>
      dm156_13 s8
    else
      dm156_13 s
set_option maxRecDepth 100000 in
theorem dt156 {sio : Bool} {tt : Nat} {cc : Nat → Nat → Int32} {d : Nat} (hd : 1 ≤ d) {x1 : Int32} {s : aS} (hl : Ly tt cc s) {o : aS} (h : dm156  x1 s = some o) : Q 1 sio tt cc d 156 0 [some (.ref 117), some (.int x1)] [] s (.inl none, o) := by
  unfold dm156 at h
  obtain ⟨d, rfl⟩ : ∃ e, d = e + 1 := ⟨d - 1, by omega⟩
  refine Q.run zm156 2 (i' := 2) (ls' := [some (.ref 117), some (.int x1)]) (st' := [.int 9, .int x1]) rfl ?_
  by_cases hc1 : x1 = 9
  · rw [if_pos hc1] at h
    refine Q.map (A.bF (gI_of zm156 (e := (3, 3, .if_icmp .ne 12, [7])) rfl) (fun q => of_decide_eq_true q hc1)) ?_
    refine Q.run zm156 2 (i' := 5) (ls' := [some (.ref 117), some (.int x1)]) (st' := [.int 37, .ref 117]) rfl ?_
    obtain ⟨s4, hc3, h⟩ := bu_so h
    have hq2 : Q 1 sio tt cc d 141 0 [some (.ref 117), some (.int 37)] [] s (.inl none, s4) := dt141 (by omega) hl  hc3
    refine Q.callV (gC_vi zm156 (show zM156.2.2.2.2.2[5]? = some (9, 3, .invokevirtual 72, [0, 141, 1, 8]) from rfl) zm141 (hl.lt (a := 117) (by decide)) (hl.T (a := 117) (p := (8, 11)) 39 rfl rfl) rfl (show aCr 1 117 [.int 37, .ref 117] 2 = some ([some (.ref 117), some (.int 37)], []) from rfl)) hq2 ?_
    refine Q.run zm156 1 (i' := 13) (ls' := [some (.ref 117), some (.int x1)]) (st' := []) rfl ?_
    exact dt156_13 hd hq2.1  h
  · rw [if_neg hc1] at h
    refine Q.map (A.bT (gI_of zm156 (e := (3, 3, .if_icmp .ne 12, [7])) rfl) (decide_eq_true hc1)) ?_
    refine Q.run zm156 2 (i' := 9) (ls' := [some (.ref 117), some (.int x1)]) (st' := [.int 7, .int x1]) rfl ?_
    by_cases hc5 : x1 = 7
    · rw [if_pos hc5] at h
      refine Q.map (A.bF (gI_of zm156 (e := (18, 3, .if_icmp .ne 9, [13])) rfl) (fun q => of_decide_eq_true q hc5)) ?_
      refine Q.run zm156 2 (i' := 12) (ls' := [some (.ref 117), some (.int x1)]) (st' := [.int 41, .ref 117]) rfl ?_
      obtain ⟨s8, hc7, h⟩ := bu_so h
      have hq6 : Q 1 sio tt cc d 141 0 [some (.ref 117), some (.int 41)] [] s (.inl none, s8) := dt141 (by omega) hl  hc7
      refine Q.callV (gC_vi zm156 (show zM156.2.2.2.2.2[12]? = some (24, 3, .invokevirtual 72, [0, 141, 1, 8]) from rfl) zm141 (hl.lt (a := 117) (by decide)) (hl.T (a := 117) (p := (8, 11)) 39 rfl rfl) rfl (show aCr 1 117 [.int 41, .ref 117] 2 = some ([some (.ref 117), some (.int 41)], []) from rfl)) hq6 ?_
      exact dt156_13 hd hq6.1  h
    · rw [if_neg hc5] at h
      refine Q.map (A.bT (gI_of zm156 (e := (18, 3, .if_icmp .ne 9, [13])) rfl) (decide_eq_true hc5)) ?_
      exact dt156_13 hd hl  h
/-! 157 FormulaTrees$Writer.signBetween(I)Ljava/lang/String; -/
set_option maxRecDepth 100000 in
theorem zm157 : zP[157]? = some zM157 := rfl
def dm157 (x0 : Int32) : Option (Value) :=
  if x0 = 11 then
    some (.ref 47)
  else
    if x0 = 12 then
      some (.ref 49)
    else
      if x0 = 13 then
        some (.ref 51)
      else
        if x0 = 14 then
          some (.ref 53)
        else
          if x0 = 15 then
            some (.ref 55)
          else
            if x0 = 16 then
              some (.ref 57)
            else
              if x0 = 17 then
                some (.ref 59)
              else
                if x0 = 18 then
                  some (.ref 61)
                else
                  if x0 = 19 then
                    some (.ref 63)
                  else
                    if x0 = 20 then
                      some (.ref 65)
                    else
                      if x0 = 21 then
                        some (.ref 67)
                      else
                        some (.ref 69)
set_option maxRecDepth 100000 in
theorem dt157 {sio : Bool} {tt : Nat} {cc : Nat → Nat → Int32} {d : Nat} (hd : 0 ≤ d) {x0 : Int32} {s : aS} (hl : Ly tt cc s) {o : Value} (h : dm157  x0 = some o) : Q 1 sio tt cc d 157 0 [some (.int x0)] [] s (.inl (some o), s) := by
  unfold dm157 at h
  refine Q.run zm157 1 (i' := 1) (ls' := [some (.int x0)]) (st' := [.int x0]) rfl ?_
  by_cases hc1 : x0 = 11
  · rw [if_pos hc1] at h
    refine Q.map (A.ts (gI_of zm157 (e := (1, 59, .tableswitch 92 11 21 #[59, 62, 65, 68, 71, 74, 77, 80, 83, 86, 89], [24, 2, 4, 6, 8, 10, 12, 14, 16, 18, 20, 22])) rfl) (t := 2) (by rw [hc1] <;> decide)) ?_
    refine Q.run zm157 1 (i' := 3) (ls' := [some (.int x0)]) (st' := [.ref 47]) rfl ?_
    cases h
    exact Q.ret (A.ra zm157 (show zM157.2.2.2.2.2[3]? = some (62, 1, .areturn, []) from rfl) rfl rfl rfl) hl
  · rw [if_neg hc1] at h
    by_cases hc2 : x0 = 12
    · rw [if_pos hc2] at h
      refine Q.map (A.ts (gI_of zm157 (e := (1, 59, .tableswitch 92 11 21 #[59, 62, 65, 68, 71, 74, 77, 80, 83, 86, 89], [24, 2, 4, 6, 8, 10, 12, 14, 16, 18, 20, 22])) rfl) (t := 4) (by rw [hc2] <;> decide)) ?_
      refine Q.run zm157 1 (i' := 5) (ls' := [some (.int x0)]) (st' := [.ref 49]) rfl ?_
      cases h
      exact Q.ret (A.ra zm157 (show zM157.2.2.2.2.2[5]? = some (65, 1, .areturn, []) from rfl) rfl rfl rfl) hl
    · rw [if_neg hc2] at h
      by_cases hc3 : x0 = 13
      · rw [if_pos hc3] at h
        refine Q.map (A.ts (gI_of zm157 (e := (1, 59, .tableswitch 92 11 21 #[59, 62, 65, 68, 71, 74, 77, 80, 83, 86, 89], [24, 2, 4, 6, 8, 10, 12, 14, 16, 18, 20, 22])) rfl) (t := 6) (by rw [hc3] <;> decide)) ?_
        refine Q.run zm157 1 (i' := 7) (ls' := [some (.int x0)]) (st' := [.ref 51]) rfl ?_
        cases h
        exact Q.ret (A.ra zm157 (show zM157.2.2.2.2.2[7]? = some (68, 1, .areturn, []) from rfl) rfl rfl rfl) hl
      · rw [if_neg hc3] at h
        by_cases hc4 : x0 = 14
        · rw [if_pos hc4] at h
          refine Q.map (A.ts (gI_of zm157 (e := (1, 59, .tableswitch 92 11 21 #[59, 62, 65, 68, 71, 74, 77, 80, 83, 86, 89], [24, 2, 4, 6, 8, 10, 12, 14, 16, 18, 20, 22])) rfl) (t := 8) (by rw [hc4] <;> decide)) ?_
          refine Q.run zm157 1 (i' := 9) (ls' := [some (.int x0)]) (st' := [.ref 53]) rfl ?_
          cases h
          exact Q.ret (A.ra zm157 (show zM157.2.2.2.2.2[9]? = some (71, 1, .areturn, []) from rfl) rfl rfl rfl) hl
        · rw [if_neg hc4] at h
          by_cases hc5 : x0 = 15
          · rw [if_pos hc5] at h
            refine Q.map (A.ts (gI_of zm157 (e := (1, 59, .tableswitch 92 11 21 #[59, 62, 65, 68, 71, 74, 77, 80, 83, 86, 89], [24, 2, 4, 6, 8, 10, 12, 14, 16, 18, 20, 22])) rfl) (t := 10) (by rw [hc5] <;> decide)) ?_
            refine Q.run zm157 1 (i' := 11) (ls' := [some (.int x0)]) (st' := [.ref 55]) rfl ?_
            cases h
            exact Q.ret (A.ra zm157 (show zM157.2.2.2.2.2[11]? = some (74, 1, .areturn, []) from rfl) rfl rfl rfl) hl
          · rw [if_neg hc5] at h
            by_cases hc6 : x0 = 16
            · rw [if_pos hc6] at h
              refine Q.map (A.ts (gI_of zm157 (e := (1, 59, .tableswitch 92 11 21 #[59, 62, 65, 68, 71, 74, 77, 80, 83, 86, 89], [24, 2, 4, 6, 8, 10, 12, 14, 16, 18, 20, 22])) rfl) (t := 12) (by rw [hc6] <;> decide)) ?_
              refine Q.run zm157 1 (i' := 13) (ls' := [some (.int x0)]) (st' := [.ref 57]) rfl ?_
              cases h
              exact Q.ret (A.ra zm157 (show zM157.2.2.2.2.2[13]? = some (77, 1, .areturn, []) from rfl) rfl rfl rfl) hl
            · rw [if_neg hc6] at h
              by_cases hc7 : x0 = 17
              · rw [if_pos hc7] at h
                refine Q.map (A.ts (gI_of zm157 (e := (1, 59, .tableswitch 92 11 21 #[59, 62, 65, 68, 71, 74, 77, 80, 83, 86, 89], [24, 2, 4, 6, 8, 10, 12, 14, 16, 18, 20, 22])) rfl) (t := 14) (by rw [hc7] <;> decide)) ?_
                refine Q.run zm157 1 (i' := 15) (ls' := [some (.int x0)]) (st' := [.ref 59]) rfl ?_
                cases h
                exact Q.ret (A.ra zm157 (show zM157.2.2.2.2.2[15]? = some (80, 1, .areturn, []) from rfl) rfl rfl rfl) hl
              · rw [if_neg hc7] at h
                by_cases hc8 : x0 = 18
                · rw [if_pos hc8] at h
                  refine Q.map (A.ts (gI_of zm157 (e := (1, 59, .tableswitch 92 11 21 #[59, 62, 65, 68, 71, 74, 77, 80, 83, 86, 89], [24, 2, 4, 6, 8, 10, 12, 14, 16, 18, 20, 22])) rfl) (t := 16) (by rw [hc8] <;> decide)) ?_
                  refine Q.run zm157 1 (i' := 17) (ls' := [some (.int x0)]) (st' := [.ref 61]) rfl ?_
                  cases h
                  exact Q.ret (A.ra zm157 (show zM157.2.2.2.2.2[17]? = some (83, 1, .areturn, []) from rfl) rfl rfl rfl) hl
                · rw [if_neg hc8] at h
                  by_cases hc9 : x0 = 19
                  · rw [if_pos hc9] at h
                    refine Q.map (A.ts (gI_of zm157 (e := (1, 59, .tableswitch 92 11 21 #[59, 62, 65, 68, 71, 74, 77, 80, 83, 86, 89], [24, 2, 4, 6, 8, 10, 12, 14, 16, 18, 20, 22])) rfl) (t := 18) (by rw [hc9] <;> decide)) ?_
                    refine Q.run zm157 1 (i' := 19) (ls' := [some (.int x0)]) (st' := [.ref 63]) rfl ?_
                    cases h
                    exact Q.ret (A.ra zm157 (show zM157.2.2.2.2.2[19]? = some (86, 1, .areturn, []) from rfl) rfl rfl rfl) hl
                  · rw [if_neg hc9] at h
                    by_cases hc10 : x0 = 20
                    · rw [if_pos hc10] at h
                      refine Q.map (A.ts (gI_of zm157 (e := (1, 59, .tableswitch 92 11 21 #[59, 62, 65, 68, 71, 74, 77, 80, 83, 86, 89], [24, 2, 4, 6, 8, 10, 12, 14, 16, 18, 20, 22])) rfl) (t := 20) (by rw [hc10] <;> decide)) ?_
                      refine Q.run zm157 1 (i' := 21) (ls' := [some (.int x0)]) (st' := [.ref 65]) rfl ?_
                      cases h
                      exact Q.ret (A.ra zm157 (show zM157.2.2.2.2.2[21]? = some (89, 1, .areturn, []) from rfl) rfl rfl rfl) hl
                    · rw [if_neg hc10] at h
                      by_cases hc11 : x0 = 21
                      · rw [if_pos hc11] at h
                        refine Q.map (A.ts (gI_of zm157 (e := (1, 59, .tableswitch 92 11 21 #[59, 62, 65, 68, 71, 74, 77, 80, 83, 86, 89], [24, 2, 4, 6, 8, 10, 12, 14, 16, 18, 20, 22])) rfl) (t := 22) (by rw [hc11] <;> decide)) ?_
                        refine Q.run zm157 1 (i' := 23) (ls' := [some (.int x0)]) (st' := [.ref 67]) rfl ?_
                        cases h
                        exact Q.ret (A.ra zm157 (show zM157.2.2.2.2.2[23]? = some (92, 1, .areturn, []) from rfl) rfl rfl rfl) hl
                      · rw [if_neg hc11] at h
                        refine Q.map (A.ts (gI_of zm157 (e := (1, 59, .tableswitch 92 11 21 #[59, 62, 65, 68, 71, 74, 77, 80, 83, 86, 89], [24, 2, 4, 6, 8, 10, 12, 14, 16, 18, 20, 22])) rfl) (t := 24) (by have := (show x0.toInt ≠ 11 ∧ x0.toInt ≠ 12 ∧ x0.toInt ≠ 13 ∧ x0.toInt ≠ 14 ∧ x0.toInt ≠ 15 ∧ x0.toInt ≠ 16 ∧ x0.toInt ≠ 17 ∧ x0.toInt ≠ 18 ∧ x0.toInt ≠ 19 ∧ x0.toInt ≠ 20 ∧ x0.toInt ≠ 21 from ⟨i32_ne (n := 11) hc1 (by decide), i32_ne (n := 12) hc2 (by decide), i32_ne (n := 13) hc3 (by decide), i32_ne (n := 14) hc4 (by decide), i32_ne (n := 15) hc5 (by decide), i32_ne (n := 16) hc6 (by decide), i32_ne (n := 17) hc7 (by decide), i32_ne (n := 18) hc8 (by decide), i32_ne (n := 19) hc9 (by decide), i32_ne (n := 20) hc10 (by decide), i32_ne (n := 21) hc11 (by decide)⟩); rw [if_pos]; omega)) ?_
                        refine Q.run zm157 1 (i' := 25) (ls' := [some (.int x0)]) (st' := [.ref 69]) rfl ?_
                        cases h
                        exact Q.ret (A.ra zm157 (show zM157.2.2.2.2.2[25]? = some (95, 1, .areturn, []) from rfl) rfl rfl rfl) hl
/-! 158 FormulaTrees$Writer.needsBrackets(II)Z -/
set_option maxRecDepth 100000 in
theorem zm158 : zP[158]? = some zM158 := rfl
def dm158_24 (s : aS) : Option (Int32) :=
  some 1
set_option maxRecDepth 100000 in
theorem dt158_24 {sio : Bool} {tt : Nat} {cc : Nat → Nat → Int32} {d : Nat} (hd : 1 ≤ d) {x1 : Int32} {x2 : Int32} {x3 : Int32} {x4 : Int32} {s : aS} (hl : Ly tt cc s) {o : Int32} (h : dm158_24  s = some o) : Q 1 sio tt cc d 158 24 [some (.ref 117), some (.int x1), some (.int x2), some (.int x3), some (.int x4)] [] s (.inl (some (.int o)), s) := by
  unfold dm158_24 at h
  obtain ⟨d, rfl⟩ : ∃ e, d = e + 1 := ⟨d - 1, by omega⟩
  refine Q.run zm158 2 (i' := 27) (ls' := [some (.ref 117), some (.int x1), some (.int x2), some (.int x3), some (.int x4)]) (st' := [.int 1]) rfl ?_
  cases h
  exact Q.ret (A.ri zm158 (show zM158.2.2.2.2.2[27]? = some (51, 1, .ireturn, []) from rfl) rfl rfl) hl
def dm158 (x1 : Int32) (x2 : Int32) (s : aS) : Option (Int32) :=
  if x1 = 7 then
    some 0
  else
    bu (dm85 x1) fun r4 =>
    vN (sR s 117 5) (
      none
    ) fun b6 =>
      if aK s b6 3 then
        bu (dm57 b6 (sI s 117 6) 0 s) fun r10 =>
        bu (dm85 r10) fun r13 =>
        if r13 < r4 then
          dm158_24 s
        else
          if r13 = r4 then
            if x2 ≤ 0 then
              some 0
            else
              dm158_24 s
          else
            some 0
      else none
set_option maxRecDepth 100000 in
theorem dt158 {sio : Bool} {tt : Nat} {cc : Nat → Nat → Int32} {d : Nat} (hd : 1 ≤ d) {x1 : Int32} {x2 : Int32} {s : aS} (hl : Ly tt cc s) {o : Int32} (h : dm158  x1 x2 s = some o) : Q 1 sio tt cc d 158 0 [some (.ref 117), some (.int x1), some (.int x2), none, none] [] s (.inl (some (.int o)), s) := by
  unfold dm158 at h
  obtain ⟨d, rfl⟩ : ∃ e, d = e + 1 := ⟨d - 1, by omega⟩
  refine Q.run zm158 2 (i' := 2) (ls' := [some (.ref 117), some (.int x1), some (.int x2), none, none]) (st' := [.int 7, .int x1]) rfl ?_
  by_cases hc1 : x1 = 7
  · rw [if_pos hc1] at h
    refine Q.map (A.bF (gI_of zm158 (e := (3, 3, .if_icmp .ne 5, [5])) rfl) (fun q => of_decide_eq_true q hc1)) ?_
    refine Q.run zm158 1 (i' := 4) (ls' := [some (.ref 117), some (.int x1), some (.int x2), none, none]) (st' := [.int 0]) rfl ?_
    cases h
    exact Q.ret (A.ri zm158 (show zM158.2.2.2.2.2[4]? = some (7, 1, .ireturn, []) from rfl) rfl rfl) hl
  · rw [if_neg hc1] at h
    refine Q.map (A.bT (gI_of zm158 (e := (3, 3, .if_icmp .ne 5, [5])) rfl) (decide_eq_true hc1)) ?_
    refine Q.run zm158 1 (i' := 6) (ls' := [some (.ref 117), some (.int x1), some (.int x2), none, none]) (st' := [.int x1]) rfl ?_
    obtain ⟨r4, hc3, h⟩ := bu_so h
    have hq2 : Q 1 sio tt cc d 85 0 [some (.int x1)] [] s (.inl (some (.int r4)), s) := dt85 (by omega) hl  hc3
    refine Q.callI (gC_st zm158 (show zM158.2.2.2.2.2[6]? = some (9, 3, .invokestatic 98, [0, 85, 1]) from rfl) zm85 (show aC 1 [.int x1] 1 = some ([some (.int x1)], []) from rfl)) hq2 ?_
    refine Q.run zm158 2 (i' := 9) (ls' := [some (.ref 117), some (.int x1), some (.int x2), some (.int r4), none]) (st' := [.ref 117]) rfl ?_
    rcases vN_so h with ⟨hv5, h⟩ | ⟨b6, hv5, h⟩
    · refine Q.map (A.gf (gI_of zm158 (e := (14, 3, .getfield 26, [8, 5])) rfl) (hl.lt (a := 117) (by decide)) (hl.T (a := 117) (p := (8, 11)) 39 rfl rfl) (by decide) hv5) ?_
      refine Q.run zm158 1 (i' := 11) (ls' := [some (.ref 117), some (.int x1), some (.int x2), some (.int r4), none]) (st' := [.ref 117, .null]) rfl ?_
      refine Q.map (A.gf (gI_of zm158 (e := (18, 3, .getfield 34, [8, 6])) rfl) (hl.lt (a := 117) (by decide)) (hl.T (a := 117) (p := (8, 11)) 39 rfl rfl) (by decide) rfl) ?_
      refine Q.run zm158 1 (i' := 13) (ls' := [some (.ref 117), some (.int x1), some (.int x2), some (.int r4), none]) (st' := [.int 0, .int (sI s 117 6), .null]) rfl ?_
      cases h
    · obtain ⟨hr7, h⟩ := ite_so h
      refine Q.map (A.gf (gI_of zm158 (e := (14, 3, .getfield 26, [8, 5])) rfl) (hl.lt (a := 117) (by decide)) (hl.T (a := 117) (p := (8, 11)) 39 rfl rfl) (by decide) hv5) ?_
      refine Q.run zm158 1 (i' := 11) (ls' := [some (.ref 117), some (.int x1), some (.int x2), some (.int r4), none]) (st' := [.ref 117, .ref b6]) rfl ?_
      refine Q.map (A.gf (gI_of zm158 (e := (18, 3, .getfield 34, [8, 6])) rfl) (hl.lt (a := 117) (by decide)) (hl.T (a := 117) (p := (8, 11)) 39 rfl rfl) (by decide) rfl) ?_
      refine Q.run zm158 1 (i' := 13) (ls' := [some (.ref 117), some (.int x1), some (.int x2), some (.int r4), none]) (st' := [.int 0, .int (sI s 117 6), .ref b6]) rfl ?_
      obtain ⟨r10, hc9, h⟩ := bu_so h
      have hq8 : Q 1 sio tt cc d 57 0 [some (.ref b6), some (.int (sI s 117 6)), some (.int 0), none] [] s (.inl (some (.int r10)), s) := dt57 (by omega) hl hr7 hc9
      refine Q.callI (gC_vi zm158 (show zM158.2.2.2.2.2[13]? = some (22, 3, .invokevirtual 75, [0, 57, 2, 3]) from rfl) zm57 hr7.1 (hl.tr hr7).1 rfl (show aCr 2 b6 [.int 0, .int (sI s 117 6), .ref b6] 4 = some ([some (.ref b6), some (.int (sI s 117 6)), some (.int 0), none], []) from rfl)) hq8 ?_
      obtain ⟨r13, hc12, h⟩ := bu_so h
      have hq11 : Q 1 sio tt cc d 85 0 [some (.int r10)] [] s (.inl (some (.int r13)), s) := dt85 (by omega) hl  hc12
      refine Q.callI (gC_st zm158 (show zM158.2.2.2.2.2[14]? = some (25, 3, .invokestatic 98, [0, 85, 1]) from rfl) zm85 (show aC 1 [.int r10] 1 = some ([some (.int r10)], []) from rfl)) hq11 ?_
      refine Q.run zm158 3 (i' := 18) (ls' := [some (.ref 117), some (.int x1), some (.int x2), some (.int r4), some (.int r13)]) (st' := [.int r4, .int r13]) rfl ?_
      by_cases hc14 : r13 < r4
      · rw [if_pos hc14] at h
        refine Q.map (A.bT (gI_of zm158 (e := (33, 3, .if_icmp .lt 13, [24])) rfl) (decide_eq_true hc14)) ?_
        exact dt158_24 hd hl  h
      · rw [if_neg hc14] at h
        refine Q.map (A.bF (gI_of zm158 (e := (33, 3, .if_icmp .lt 13, [24])) rfl) (fun q => hc14 (of_decide_eq_true q))) ?_
        refine Q.run zm158 2 (i' := 21) (ls' := [some (.ref 117), some (.int x1), some (.int x2), some (.int r4), some (.int r13)]) (st' := [.int r4, .int r13]) rfl ?_
        by_cases hc15 : r13 = r4
        · rw [if_pos hc15] at h
          refine Q.map (A.bF (gI_of zm158 (e := (39, 3, .if_icmp .ne 11, [26])) rfl) (fun q => of_decide_eq_true q hc15)) ?_
          refine Q.run zm158 1 (i' := 23) (ls' := [some (.ref 117), some (.int x1), some (.int x2), some (.int r4), some (.int r13)]) (st' := [.int x2]) rfl ?_
          by_cases hc16 : x2 ≤ 0
          · rw [if_pos hc16] at h
            refine Q.map (A.zT (gI_of zm158 (e := (43, 3, .ifCond .le 7, [26])) rfl) (decide_eq_true hc16)) ?_
            refine Q.run zm158 1 (i' := 27) (ls' := [some (.ref 117), some (.int x1), some (.int x2), some (.int r4), some (.int r13)]) (st' := [.int 0]) rfl ?_
            cases h
            exact Q.ret (A.ri zm158 (show zM158.2.2.2.2.2[27]? = some (51, 1, .ireturn, []) from rfl) rfl rfl) hl
          · rw [if_neg hc16] at h
            refine Q.map (A.zF (gI_of zm158 (e := (43, 3, .ifCond .le 7, [26])) rfl) (fun q => hc16 (of_decide_eq_true q))) ?_
            exact dt158_24 hd hl  h
        · rw [if_neg hc15] at h
          refine Q.map (A.bT (gI_of zm158 (e := (39, 3, .if_icmp .ne 11, [26])) rfl) (decide_eq_true hc15)) ?_
          refine Q.run zm158 1 (i' := 27) (ls' := [some (.ref 117), some (.int x1), some (.int x2), some (.int r4), some (.int r13)]) (st' := [.int 0]) rfl ?_
          cases h
          exact Q.ret (A.ri zm158 (show zM158.2.2.2.2.2[27]? = some (51, 1, .ireturn, []) from rfl) rfl rfl) hl
/-! 155 FormulaTrees$Writer.goOn(II)V -/
set_option maxRecDepth 100000 in
theorem zm155 : zP[155]? = some zM155 := rfl
def dm155_28 (x2 : Int32) (x3 : Int32) (s : aS) : Option (aS) :=
  bu (dm158 x3 x2 s) fun r3 =>
  bu (dm140 r3 s) fun s6 =>
  some s6
set_option maxRecDepth 100000 in
theorem dt155_28 {sio : Bool} {tt : Nat} {cc : Nat → Nat → Int32} {d : Nat} (hd : 5 ≤ d) {x2 : Int32} {x3 : Int32} {x1 : Int32} {s : aS} (hl : Ly tt cc s) {o : aS} (h : dm155_28  x2 x3 s = some o) : Q 1 sio tt cc d 155 28 [some (.ref 117), some (.int x1), some (.int x2), some (.int x3)] [] s (.inl none, o) := by
  unfold dm155_28 at h
  obtain ⟨d, rfl⟩ : ∃ e, d = e + 1 := ⟨d - 1, by omega⟩
  refine Q.run zm155 4 (i' := 32) (ls' := [some (.ref 117), some (.int x1), some (.int x2), some (.int x3)]) (st' := [.int x2, .int x3, .ref 117, .ref 117]) rfl ?_
  obtain ⟨r3, hc2, h⟩ := bu_so h
  have hq1 : Q 1 sio tt cc d 158 0 [some (.ref 117), some (.int x3), some (.int x2), none, none] [] s (.inl (some (.int r3)), s) := dt158 (by omega) hl  hc2
  refine Q.callI (gC_vi zm155 (show zM155.2.2.2.2.2[32]? = some (56, 3, .invokevirtual 94, [0, 158, 2, 8]) from rfl) zm158 (hl.lt (a := 117) (by decide)) (hl.T (a := 117) (p := (8, 11)) 39 rfl rfl) rfl (show aCr 2 117 [.int x2, .int x3, .ref 117, .ref 117] 5 = some ([some (.ref 117), some (.int x3), some (.int x2), none, none], [.ref 117]) from rfl)) hq1 ?_
  obtain ⟨s6, hc5, h⟩ := bu_so h
  have hq4 : Q 1 sio tt cc d 140 0 [some (.ref 117), some (.int r3)] [] s (.inl none, s6) := dt140 (by omega) hl  hc5
  refine Q.callV (gC_vi zm155 (show zM155.2.2.2.2.2[33]? = some (59, 3, .invokevirtual 46, [0, 140, 1, 8]) from rfl) zm140 (hl.lt (a := 117) (by decide)) (hl.T (a := 117) (p := (8, 11)) 39 rfl rfl) rfl (show aCr 1 117 [.int r3, .ref 117] 2 = some ([some (.ref 117), some (.int r3)], []) from rfl)) hq4 ?_
  cases h
  exact Q.ret (A.rv zm155 (show zM155.2.2.2.2.2[34]? = some (62, 1, .return_, []) from rfl) rfl) hq4.1
def dm155_27 (x2 : Int32) (x3 : Int32) (c1 : Nat) (s : aS) : Option (aS) :=
  bu (dm147 c1 s) fun s3 =>
  dm155_28 x2 x3 s3
set_option maxRecDepth 100000 in
theorem dt155_27 {sio : Bool} {tt : Nat} {cc : Nat → Nat → Int32} {d : Nat} (hd : 5 ≤ d) {x2 : Int32} {x3 : Int32} {c1 : Nat} {x1 : Int32} {s : aS} (hl : Ly tt cc s) (hk_c1 : aK s c1 70) {o : aS} (h : dm155_27  x2 x3 c1 s = some o) : Q 1 sio tt cc d 155 27 [some (.ref 117), some (.int x1), some (.int x2), some (.int x3)] [.ref c1, .ref 117] s (.inl none, o) := by
  unfold dm155_27 at h
  obtain ⟨d, rfl⟩ : ∃ e, d = e + 1 := ⟨d - 1, by omega⟩
  obtain ⟨s3, hc2, h⟩ := bu_so h
  have hq1 : Q 1 sio tt cc d 147 0 [some (.ref 117), some (.ref c1), none] [] s (.inl none, s3) := dt147 (by omega) hl hk_c1 hc2
  refine Q.callV (gC_vi zm155 (show zM155.2.2.2.2.2[27]? = some (49, 3, .invokevirtual 90, [0, 147, 1, 8]) from rfl) zm147 (hl.lt (a := 117) (by decide)) (hl.T (a := 117) (p := (8, 11)) 39 rfl rfl) rfl (show aCr 1 117 [.ref c1, .ref 117] 3 = some ([some (.ref 117), some (.ref c1), none], []) from rfl)) hq1 ?_
  have hr4 : aK s3 c1 70 := hq1.2.1.k hk_c1
  exact dt155_28 hd hq1.1  h
def dm155 (x1 : Int32) (x2 : Int32) (s : aS) : Option (aS) :=
  vN (sR s 117 5) (
    none
  ) fun b2 =>
    if aK s b2 3 then
      bu (dm57 b2 x1 0 s) fun r6 =>
      vN (sR s 117 5) (
        none
      ) fun b8 =>
        if aK s b8 3 then
          bu (dm57 b8 x1 1 s) fun r12 =>
          if x2 < r12 then
            if x2 ≤ 0 then
              dm155_28 x2 r6 s
            else
              if r6 = 7 then
                dm155_27 x2 r6 45 s
              else
                bu (dm157 r6) fun r18 =>
                vR r18 fun b19 =>
                if aK s b19 70 then
                  dm155_27 x2 r6 b19 s
                else none
          else
            bu (dm156 r6 s) fun s24 =>
            some s24
        else none
    else none
set_option maxRecDepth 100000 in
theorem dt155 {sio : Bool} {tt : Nat} {cc : Nat → Nat → Int32} {d : Nat} (hd : 5 ≤ d) {x1 : Int32} {x2 : Int32} {s : aS} (hl : Ly tt cc s) {o : aS} (h : dm155  x1 x2 s = some o) : Q 1 sio tt cc d 155 0 [some (.ref 117), some (.int x1), some (.int x2), none] [] s (.inl none, o) := by
  unfold dm155 at h
  obtain ⟨d, rfl⟩ : ∃ e, d = e + 1 := ⟨d - 1, by omega⟩
  refine Q.run zm155 1 (i' := 1) (ls' := [some (.ref 117), some (.int x1), some (.int x2), none]) (st' := [.ref 117]) rfl ?_
  rcases vN_so h with ⟨hv1, h⟩ | ⟨b2, hv1, h⟩
  · refine Q.map (A.gf (gI_of zm155 (e := (1, 3, .getfield 26, [8, 5])) rfl) (hl.lt (a := 117) (by decide)) (hl.T (a := 117) (p := (8, 11)) 39 rfl rfl) (by decide) hv1) ?_
    refine Q.run zm155 2 (i' := 4) (ls' := [some (.ref 117), some (.int x1), some (.int x2), none]) (st' := [.int 0, .int x1, .null]) rfl ?_
    cases h
  · obtain ⟨hr3, h⟩ := ite_so h
    refine Q.map (A.gf (gI_of zm155 (e := (1, 3, .getfield 26, [8, 5])) rfl) (hl.lt (a := 117) (by decide)) (hl.T (a := 117) (p := (8, 11)) 39 rfl rfl) (by decide) hv1) ?_
    refine Q.run zm155 2 (i' := 4) (ls' := [some (.ref 117), some (.int x1), some (.int x2), none]) (st' := [.int 0, .int x1, .ref b2]) rfl ?_
    obtain ⟨r6, hc5, h⟩ := bu_so h
    have hq4 : Q 1 sio tt cc d 57 0 [some (.ref b2), some (.int x1), some (.int 0), none] [] s (.inl (some (.int r6)), s) := dt57 (by omega) hl hr3 hc5
    refine Q.callI (gC_vi zm155 (show zM155.2.2.2.2.2[4]? = some (6, 3, .invokevirtual 75, [0, 57, 2, 3]) from rfl) zm57 hr3.1 (hl.tr hr3).1 rfl (show aCr 2 b2 [.int 0, .int x1, .ref b2] 4 = some ([some (.ref b2), some (.int x1), some (.int 0), none], []) from rfl)) hq4 ?_
    refine Q.run zm155 3 (i' := 8) (ls' := [some (.ref 117), some (.int x1), some (.int x2), some (.int r6)]) (st' := [.ref 117, .int x2]) rfl ?_
    rcases vN_so h with ⟨hv7, h⟩ | ⟨b8, hv7, h⟩
    · refine Q.map (A.gf (gI_of zm155 (e := (12, 3, .getfield 26, [8, 5])) rfl) (hl.lt (a := 117) (by decide)) (hl.T (a := 117) (p := (8, 11)) 39 rfl rfl) (by decide) hv7) ?_
      refine Q.run zm155 2 (i' := 11) (ls' := [some (.ref 117), some (.int x1), some (.int x2), some (.int r6)]) (st' := [.int 1, .int x1, .null, .int x2]) rfl ?_
      cases h
    · obtain ⟨hr9, h⟩ := ite_so h
      refine Q.map (A.gf (gI_of zm155 (e := (12, 3, .getfield 26, [8, 5])) rfl) (hl.lt (a := 117) (by decide)) (hl.T (a := 117) (p := (8, 11)) 39 rfl rfl) (by decide) hv7) ?_
      refine Q.run zm155 2 (i' := 11) (ls' := [some (.ref 117), some (.int x1), some (.int x2), some (.int r6)]) (st' := [.int 1, .int x1, .ref b8, .int x2]) rfl ?_
      obtain ⟨r12, hc11, h⟩ := bu_so h
      have hq10 : Q 1 sio tt cc d 57 0 [some (.ref b8), some (.int x1), some (.int 1), none] [] s (.inl (some (.int r12)), s) := dt57 (by omega) hl hr9 hc11
      refine Q.callI (gC_vi zm155 (show zM155.2.2.2.2.2[11]? = some (17, 3, .invokevirtual 75, [0, 57, 2, 3]) from rfl) zm57 hr9.1 (hl.tr hr9).1 rfl (show aCr 2 b8 [.int 1, .int x1, .ref b8, .int x2] 4 = some ([some (.ref b8), some (.int x1), some (.int 1), none], [.int x2]) from rfl)) hq10 ?_
      by_cases hc13 : x2 < r12
      · rw [if_pos hc13] at h
        refine Q.map (A.bT (gI_of zm155 (e := (20, 3, .if_icmp .lt 9, [17])) rfl) (decide_eq_true hc13)) ?_
        refine Q.run zm155 1 (i' := 18) (ls' := [some (.ref 117), some (.int x1), some (.int x2), some (.int r6)]) (st' := [.int x2]) rfl ?_
        by_cases hc14 : x2 ≤ 0
        · rw [if_pos hc14] at h
          refine Q.map (A.zT (gI_of zm155 (e := (30, 3, .ifCond .le 22, [28])) rfl) (decide_eq_true hc14)) ?_
          exact dt155_28 hd hl  h
        · rw [if_neg hc14] at h
          refine Q.map (A.zF (gI_of zm155 (e := (30, 3, .ifCond .le 22, [28])) rfl) (fun q => hc14 (of_decide_eq_true q))) ?_
          refine Q.run zm155 3 (i' := 22) (ls' := [some (.ref 117), some (.int x1), some (.int x2), some (.int r6)]) (st' := [.int 7, .int r6, .ref 117]) rfl ?_
          by_cases hc15 : r6 = 7
          · rw [if_pos hc15] at h
            refine Q.map (A.bF (gI_of zm155 (e := (37, 3, .if_icmp .ne 8, [25])) rfl) (fun q => of_decide_eq_true q hc15)) ?_
            refine Q.run zm155 2 (i' := 27) (ls' := [some (.ref 117), some (.int x1), some (.int x2), some (.int r6)]) (st' := [.ref 45, .ref 117]) rfl ?_
            exact dt155_27 hd hl (hl.lowK (a := 45) (c := 70) (by decide) (by decide)) h
          · rw [if_neg hc15] at h
            refine Q.map (A.bT (gI_of zm155 (e := (37, 3, .if_icmp .ne 8, [25])) rfl) (decide_eq_true hc15)) ?_
            refine Q.run zm155 1 (i' := 26) (ls' := [some (.ref 117), some (.int x1), some (.int x2), some (.int r6)]) (st' := [.int r6, .ref 117]) rfl ?_
            obtain ⟨r18, hc17, h⟩ := bu_so h
            have hq16 : Q 1 sio tt cc d 157 0 [some (.int r6)] [] s (.inl (some r18), s) := dt157 (by omega) hl  hc17
            obtain ⟨b19, hv20, h9⟩ := vR_so h
            clear h
            subst hv20
            have h := h9
            obtain ⟨hr21, h⟩ := ite_so h
            refine Q.callR (gC_st zm155 (show zM155.2.2.2.2.2[26]? = some (46, 3, .invokestatic 86, [0, 157, 1]) from rfl) zm157 (show aC 1 [.int r6, .ref 117] 1 = some ([some (.int r6)], [.ref 117]) from rfl)) hq16 ?_
            exact dt155_27 hd hl hr21 h
      · rw [if_neg hc13] at h
        refine Q.map (A.bF (gI_of zm155 (e := (20, 3, .if_icmp .lt 9, [17])) rfl) (fun q => hc13 (of_decide_eq_true q))) ?_
        refine Q.run zm155 2 (i' := 15) (ls' := [some (.ref 117), some (.int x1), some (.int x2), some (.int r6)]) (st' := [.int r6, .ref 117]) rfl ?_
        obtain ⟨s24, hc23, h⟩ := bu_so h
        have hq22 : Q 1 sio tt cc d 156 0 [some (.ref 117), some (.int r6)] [] s (.inl none, s24) := dt156 (by omega) hl  hc23
        refine Q.callV (gC_vi zm155 (show zM155.2.2.2.2.2[15]? = some (25, 3, .invokevirtual 81, [0, 156, 1, 8]) from rfl) zm156 (hl.lt (a := 117) (by decide)) (hl.T (a := 117) (p := (8, 11)) 39 rfl rfl) rfl (show aCr 1 117 [.int r6, .ref 117] 2 = some ([some (.ref 117), some (.int r6)], []) from rfl)) hq22 ?_
        have hr25 : aK s24 b2 3 := hq22.2.1.k hr3
        have hr26 : aK s24 b8 3 := hq22.2.1.k hr9
        cases h
        exact Q.ret (A.rv zm155 (show zM155.2.2.2.2.2[16]? = some (28, 1, .return_, []) from rfl) rfl) hq22.1
/-! 139 FormulaTrees$Writer.character(LFormulaTrees$Tree;I)I -/
set_option maxRecDepth 100000 in
theorem zm139 : zP[139]? = some zM139 := rfl
def dm139_66 (k23 : Int32 → aS → Option (Int32 × aS)) (x3 : Int32) (s : aS) : Option (Int32 × aS) :=
  k23 (x3 + 1) s
set_option maxRecDepth 100000 in
theorem dt139_66 {sio : Bool} {tt : Nat} {cc : Nat → Nat → Int32} {d : Nat} (hd : 6 ≤ d) {k23 : Int32 → aS → Option (Int32 × aS)} (hk23 : ∀ {x3 : Int32} {b1 : Nat} {x2 : Int32} {s : aS}, Ly tt cc s → ∀ {o : Int32 × aS}, k23 x3 s = some o → Q 1 sio tt cc d 139 23 [some (.ref 117), some (.ref b1), some (.int x2), some (.int x3)] [] s (.inl (some (.int o.1)), o.2)) {x3 : Int32} {b1 : Nat} {x2 : Int32} {s : aS} (hl : Ly tt cc s) {o : Int32 × aS} (h : dm139_66 k23 x3 s = some o) : Q 1 sio tt cc d 139 66 [some (.ref 117), some (.ref b1), some (.int x2), some (.int x3)] [] s (.inl (some (.int o.1)), o.2) := by
  unfold dm139_66 at h
  obtain ⟨d, rfl⟩ : ∃ e, d = e + 1 := ⟨d - 1, by omega⟩
  refine Q.run zm139 2 (i' := 23) (ls' := [some (.ref 117), some (.ref b1), some (.int x2), some (.int (x3 + 1))]) (st' := []) rfl ?_
  exact hk23 hl  h
def dm139_23 : Nat → Int32 → aS → Option (Int32 × aS)
  | 0, _, _ => none
  | n + 1, x3, s =>
    if 384 ≤ x3 then
      some (sI s 117 10, s)
    else
      if (sI s 117 4) ≤ 0 then
        some (sI s 117 10, s)
      else
        if (sI s 117 9) < (sI s 117 8) then
          some (sI s 117 10, s)
        else
          if (sI s 117 7) = 0 then
            if aB ((sI s 117 4) - 1) 128 then
              if aB ((sI s 117 4) - 1) 128 then
                bu (dm155 (sI s 118 (jN ((sI s 117 4) - 1))) (sI s 119 (jN ((sI s 117 4) - 1))) s) fun s9 =>
                dm139_66 (dm139_23 n) x3 s9
              else none
            else none
          else
            nx (wI s 117 7 0) fun s10 =>
            if aB ((sI s10 117 4) - 1) 128 then
              bu (dm142 (sI s10 118 (jN ((sI s10 117 4) - 1))) s10) fun s16 =>
              dm139_66 (dm139_23 n) x3 s16
            else none
set_option maxRecDepth 100000 in
theorem dt139_23 {sio : Bool} {tt : Nat} {cc : Nat → Nat → Int32} {d : Nat} (hd : 6 ≤ d) : ∀ (n : Nat) {x3 : Int32} {b1 : Nat} {x2 : Int32} {s : aS} (_ : Ly tt cc s) {o : Int32 × aS} (_ : dm139_23  n x3 s = some o), Q 1 sio tt cc d 139 23 [some (.ref 117), some (.ref b1), some (.int x2), some (.int x3)] [] s (.inl (some (.int o.1)), o.2) := by
  obtain ⟨d, rfl⟩ : ∃ e, d = e + 1 := ⟨d - 1, by omega⟩
  intro n
  induction n with
  | zero => intro x3 b1 x2 s hl o h; rw [dm139_23] at h; cases h
  | succ n ih =>
    intro x3 b1 x2 s hl o h
    rw [dm139_23] at h
    refine Q.run zm139 2 (i' := 25) (ls' := [some (.ref 117), some (.ref b1), some (.int x2), some (.int x3)]) (st' := [.int 384, .int x3]) rfl ?_
    by_cases hc1 : 384 ≤ x3
    · rw [if_pos hc1] at h
      refine Q.map (A.bT (gI_of zm139 (e := (41, 3, .if_icmp .ge 83, [68])) rfl) (decide_eq_true hc1)) ?_
      refine Q.run zm139 1 (i' := 69) (ls' := [some (.ref 117), some (.ref b1), some (.int x2), some (.int x3)]) (st' := [.ref 117]) rfl ?_
      refine Q.map (A.gf (gI_of zm139 (e := (125, 3, .getfield 43, [8, 10])) rfl) (hl.lt (a := 117) (by decide)) (hl.T (a := 117) (p := (8, 11)) 39 rfl rfl) (by decide) rfl) ?_
      cases h
      exact Q.ret (A.ri zm139 (show zM139.2.2.2.2.2[70]? = some (128, 1, .ireturn, []) from rfl) rfl rfl) hl
    · rw [if_neg hc1] at h
      refine Q.map (A.bF (gI_of zm139 (e := (41, 3, .if_icmp .ge 83, [68])) rfl) (fun q => hc1 (of_decide_eq_true q))) ?_
      refine Q.run zm139 1 (i' := 27) (ls' := [some (.ref 117), some (.ref b1), some (.int x2), some (.int x3)]) (st' := [.ref 117]) rfl ?_
      refine Q.map (A.gf (gI_of zm139 (e := (45, 3, .getfield 30, [8, 4])) rfl) (hl.lt (a := 117) (by decide)) (hl.T (a := 117) (p := (8, 11)) 39 rfl rfl) (by decide) rfl) ?_
      by_cases hc2 : (sI s 117 4) ≤ 0
      · rw [if_pos hc2] at h
        refine Q.map (A.zT (gI_of zm139 (e := (48, 3, .ifCond .le 76, [68])) rfl) (decide_eq_true hc2)) ?_
        refine Q.run zm139 1 (i' := 69) (ls' := [some (.ref 117), some (.ref b1), some (.int x2), some (.int x3)]) (st' := [.ref 117]) rfl ?_
        refine Q.map (A.gf (gI_of zm139 (e := (125, 3, .getfield 43, [8, 10])) rfl) (hl.lt (a := 117) (by decide)) (hl.T (a := 117) (p := (8, 11)) 39 rfl rfl) (by decide) rfl) ?_
        cases h
        exact Q.ret (A.ri zm139 (show zM139.2.2.2.2.2[70]? = some (128, 1, .ireturn, []) from rfl) rfl rfl) hl
      · rw [if_neg hc2] at h
        refine Q.map (A.zF (gI_of zm139 (e := (48, 3, .ifCond .le 76, [68])) rfl) (fun q => hc2 (of_decide_eq_true q))) ?_
        refine Q.run zm139 1 (i' := 30) (ls' := [some (.ref 117), some (.ref b1), some (.int x2), some (.int x3)]) (st' := [.ref 117]) rfl ?_
        refine Q.map (A.gf (gI_of zm139 (e := (52, 3, .getfield 37, [8, 8])) rfl) (hl.lt (a := 117) (by decide)) (hl.T (a := 117) (p := (8, 11)) 39 rfl rfl) (by decide) rfl) ?_
        refine Q.run zm139 1 (i' := 32) (ls' := [some (.ref 117), some (.ref b1), some (.int x2), some (.int x3)]) (st' := [.ref 117, .int (sI s 117 8)]) rfl ?_
        refine Q.map (A.gf (gI_of zm139 (e := (56, 3, .getfield 40, [8, 9])) rfl) (hl.lt (a := 117) (by decide)) (hl.T (a := 117) (p := (8, 11)) 39 rfl rfl) (by decide) rfl) ?_
        by_cases hc3 : (sI s 117 9) < (sI s 117 8)
        · rw [if_pos hc3] at h
          refine Q.map (A.bT (gI_of zm139 (e := (59, 3, .if_icmp .gt 65, [68])) rfl) (decide_eq_true hc3)) ?_
          refine Q.run zm139 1 (i' := 69) (ls' := [some (.ref 117), some (.ref b1), some (.int x2), some (.int x3)]) (st' := [.ref 117]) rfl ?_
          refine Q.map (A.gf (gI_of zm139 (e := (125, 3, .getfield 43, [8, 10])) rfl) (hl.lt (a := 117) (by decide)) (hl.T (a := 117) (p := (8, 11)) 39 rfl rfl) (by decide) rfl) ?_
          cases h
          exact Q.ret (A.ri zm139 (show zM139.2.2.2.2.2[70]? = some (128, 1, .ireturn, []) from rfl) rfl rfl) hl
        · rw [if_neg hc3] at h
          refine Q.map (A.bF (gI_of zm139 (e := (59, 3, .if_icmp .gt 65, [68])) rfl) (fun q => hc3 (of_decide_eq_true q))) ?_
          refine Q.run zm139 1 (i' := 35) (ls' := [some (.ref 117), some (.ref b1), some (.int x2), some (.int x3)]) (st' := [.ref 117]) rfl ?_
          refine Q.map (A.gf (gI_of zm139 (e := (63, 3, .getfield 50, [8, 7])) rfl) (hl.lt (a := 117) (by decide)) (hl.T (a := 117) (p := (8, 11)) 39 rfl rfl) (by decide) rfl) ?_
          by_cases hc4 : (sI s 117 7) = 0
          · rw [if_pos hc4] at h
            refine Q.map (A.zT (gI_of zm139 (e := (66, 3, .ifCond .eq 26, [50])) rfl) (decide_eq_true hc4)) ?_
            refine Q.run zm139 2 (i' := 52) (ls' := [some (.ref 117), some (.ref b1), some (.int x2), some (.int x3)]) (st' := [.ref 117, .ref 117]) rfl ?_
            refine Q.map (A.gf (gI_of zm139 (e := (94, 3, .getfield 9, [8, 1])) rfl) (hl.lt (a := 117) (by decide)) (hl.T (a := 117) (p := (8, 11)) 39 rfl rfl) (by decide) (hl.R 20 rfl)) ?_
            refine Q.run zm139 1 (i' := 54) (ls' := [some (.ref 117), some (.ref b1), some (.int x2), some (.int x3)]) (st' := [.ref 117, .ref 118, .ref 117]) rfl ?_
            refine Q.map (A.gf (gI_of zm139 (e := (98, 3, .getfield 30, [8, 4])) rfl) (hl.lt (a := 117) (by decide)) (hl.T (a := 117) (p := (8, 11)) 39 rfl rfl) (by decide) rfl) ?_
            refine Q.run zm139 2 (i' := 57) (ls' := [some (.ref 117), some (.ref b1), some (.int x2), some (.int x3)]) (st' := [.int ((sI s 117 4) - 1), .ref 118, .ref 117]) rfl ?_
            obtain ⟨hc5, h⟩ := ite_so h
            refine Q.map (A.ia (gI_of zm139 (e := (103, 1, .iaload, [])) rfl) (hl.lt (a := 118) (by decide)) (hl.T (a := 118) (p := (100, 128)) 40 rfl rfl) hc5) ?_
            refine Q.run zm139 1 (i' := 59) (ls' := [some (.ref 117), some (.ref b1), some (.int x2), some (.int x3)]) (st' := [.ref 117, .int (sI s 118 (jN ((sI s 117 4) - 1))), .ref 117]) rfl ?_
            refine Q.map (A.gf (gI_of zm139 (e := (105, 3, .getfield 15, [8, 2])) rfl) (hl.lt (a := 117) (by decide)) (hl.T (a := 117) (p := (8, 11)) 39 rfl rfl) (by decide) (hl.R 21 rfl)) ?_
            refine Q.run zm139 1 (i' := 61) (ls' := [some (.ref 117), some (.ref b1), some (.int x2), some (.int x3)]) (st' := [.ref 117, .ref 119, .int (sI s 118 (jN ((sI s 117 4) - 1))), .ref 117]) rfl ?_
            refine Q.map (A.gf (gI_of zm139 (e := (109, 3, .getfield 30, [8, 4])) rfl) (hl.lt (a := 117) (by decide)) (hl.T (a := 117) (p := (8, 11)) 39 rfl rfl) (by decide) rfl) ?_
            refine Q.run zm139 2 (i' := 64) (ls' := [some (.ref 117), some (.ref b1), some (.int x2), some (.int x3)]) (st' := [.int ((sI s 117 4) - 1), .ref 119, .int (sI s 118 (jN ((sI s 117 4) - 1))), .ref 117]) rfl ?_
            obtain ⟨hc6, h⟩ := ite_so h
            refine Q.map (A.ia (gI_of zm139 (e := (114, 1, .iaload, [])) rfl) (hl.lt (a := 119) (by decide)) (hl.T (a := 119) (p := (100, 128)) 41 rfl rfl) hc6) ?_
            obtain ⟨s9, hc8, h⟩ := bu_so h
            have hq7 : Q 1 sio tt cc d 155 0 [some (.ref 117), some (.int (sI s 118 (jN ((sI s 117 4) - 1)))), some (.int (sI s 119 (jN ((sI s 117 4) - 1)))), none] [] s (.inl none, s9) := dt155 (by omega) hl  hc8
            refine Q.callV (gC_vi zm139 (show zM139.2.2.2.2.2[65]? = some (115, 3, .invokevirtual 58, [0, 155, 2, 8]) from rfl) zm155 (hl.lt (a := 117) (by decide)) (hl.T (a := 117) (p := (8, 11)) 39 rfl rfl) rfl (show aCr 2 117 [.int (sI s 119 (jN ((sI s 117 4) - 1))), .int (sI s 118 (jN ((sI s 117 4) - 1))), .ref 117] 4 = some ([some (.ref 117), some (.int (sI s 118 (jN ((sI s 117 4) - 1)))), some (.int (sI s 119 (jN ((sI s 117 4) - 1)))), none], []) from rfl)) hq7 ?_
            exact dt139_66 hd ih hq7.1  h
          · rw [if_neg hc4] at h
            refine Q.map (A.zF (gI_of zm139 (e := (66, 3, .ifCond .eq 26, [50])) rfl) (fun q => hc4 (of_decide_eq_true q))) ?_
            refine Q.run zm139 2 (i' := 39) (ls' := [some (.ref 117), some (.ref b1), some (.int x2), some (.int x3)]) (st' := [.int 0, .ref 117]) rfl ?_
            obtain ⟨s10, hs11, h⟩ := nx_so h
            refine Q.pf hs11 rfl (gI_of zm139 (e := (71, 3, .putfield 50, [8, 7, 1])) rfl) (hl.lt (a := 117) (by decide)) (by decide) (hl.T (a := 117) (p := (8, 11)) 39 rfl rfl) (by decide) rfl rfl ?_
            have hl12 : Ly tt cc s10 := by rw [hs11]; exact hl.wId (by decide)
            refine Q.run zm139 2 (i' := 42) (ls' := [some (.ref 117), some (.ref b1), some (.int x2), some (.int x3)]) (st' := [.ref 117, .ref 117]) rfl ?_
            refine Q.map (A.gf (gI_of zm139 (e := (76, 3, .getfield 9, [8, 1])) rfl) (hl12.lt (a := 117) (by decide)) (hl12.T (a := 117) (p := (8, 11)) 39 rfl rfl) (by decide) (hl12.R 20 rfl)) ?_
            refine Q.run zm139 1 (i' := 44) (ls' := [some (.ref 117), some (.ref b1), some (.int x2), some (.int x3)]) (st' := [.ref 117, .ref 118, .ref 117]) rfl ?_
            refine Q.map (A.gf (gI_of zm139 (e := (80, 3, .getfield 30, [8, 4])) rfl) (hl12.lt (a := 117) (by decide)) (hl12.T (a := 117) (p := (8, 11)) 39 rfl rfl) (by decide) rfl) ?_
            refine Q.run zm139 2 (i' := 47) (ls' := [some (.ref 117), some (.ref b1), some (.int x2), some (.int x3)]) (st' := [.int ((sI s10 117 4) - 1), .ref 118, .ref 117]) rfl ?_
            obtain ⟨hc13, h⟩ := ite_so h
            refine Q.map (A.ia (gI_of zm139 (e := (85, 1, .iaload, [])) rfl) (hl12.lt (a := 118) (by decide)) (hl12.T (a := 118) (p := (100, 128)) 40 rfl rfl) hc13) ?_
            obtain ⟨s16, hc15, h⟩ := bu_so h
            have hq14 : Q 1 sio tt cc d 142 0 [some (.ref 117), some (.int (sI s10 118 (jN ((sI s10 117 4) - 1))))] [] s10 (.inl none, s16) := dt142 (by omega) hl12  hc15
            refine Q.callV (gC_vi zm139 (show zM139.2.2.2.2.2[48]? = some (86, 3, .invokevirtual 54, [0, 142, 1, 8]) from rfl) zm142 (hl12.lt (a := 117) (by decide)) (hl12.T (a := 117) (p := (8, 11)) 39 rfl rfl) rfl (show aCr 1 117 [.int (sI s10 118 (jN ((sI s10 117 4) - 1))), .ref 117] 2 = some ([some (.ref 117), some (.int (sI s10 118 (jN ((sI s10 117 4) - 1))))], []) from rfl)) hq14 ?_
            refine Q.run zm139 1 (i' := 66) (ls' := [some (.ref 117), some (.ref b1), some (.int x2), some (.int x3)]) (st' := []) rfl ?_
            exact dt139_66 hd ih hq14.1  h
def dm139 (b1 : Nat) (x2 : Int32) (s : aS) : Option (Int32 × aS) :=
  nx (wR s 117 5 (.ref b1)) fun s1 =>
  nx (wI s1 117 4 0) fun s5 =>
  nx (wI s5 117 6 0) fun s9 =>
  nx (wI s9 117 8 0) fun s13 =>
  nx (wI s13 117 9 x2) fun s17 =>
  nx (wI s17 117 10 (-1)) fun s21 =>
  bu (dm140 0 s21) fun s27 =>
  dm139_23 5000 0 s27
set_option maxRecDepth 100000 in
theorem dt139 {sio : Bool} {tt : Nat} {cc : Nat → Nat → Int32} {d : Nat} (hd : 6 ≤ d) {b1 : Nat} {x2 : Int32} {s : aS} (hl : Ly tt cc s) (hk_b1 : aK s b1 3) {o : Int32 × aS} (h : dm139  b1 x2 s = some o) : Q 1 sio tt cc d 139 0 [some (.ref 117), some (.ref b1), some (.int x2), none] [] s (.inl (some (.int o.1)), o.2) := by
  unfold dm139 at h
  obtain ⟨d, rfl⟩ : ∃ e, d = e + 1 := ⟨d - 1, by omega⟩
  refine Q.run zm139 2 (i' := 2) (ls' := [some (.ref 117), some (.ref b1), some (.int x2), none]) (st' := [.ref b1, .ref 117]) rfl ?_
  obtain ⟨s1, hs2, h⟩ := nx_so h
  refine Q.pr hs2 rfl (gI_of zm139 (e := (2, 3, .putfield 26, [8, 5, 2])) rfl) (hl.lt (a := 117) (by decide)) (by decide) (hl.T (a := 117) (p := (8, 11)) 39 rfl rfl) (by decide) rfl rfl ?_
  have hl3 : Ly tt cc s1 := by rw [hs2]; exact hl.wRd (hl.T (a := 117) (p := (8, 11)) 39 rfl rfl) (by decide) (by decide)
  have hr4 : aK s1 b1 3 := by rw [hs2]; exact hk_b1
  refine Q.run zm139 2 (i' := 5) (ls' := [some (.ref 117), some (.ref b1), some (.int x2), none]) (st' := [.int 0, .ref 117]) rfl ?_
  obtain ⟨s5, hs6, h⟩ := nx_so h
  refine Q.pf hs6 rfl (gI_of zm139 (e := (7, 3, .putfield 30, [8, 4, 0])) rfl) (hl3.lt (a := 117) (by decide)) (by decide) (hl3.T (a := 117) (p := (8, 11)) 39 rfl rfl) (by decide) rfl rfl ?_
  have hl7 : Ly tt cc s5 := by rw [hs6]; exact hl3.wId (by decide)
  have hr8 : aK s5 b1 3 := by rw [hs6]; exact hr4
  refine Q.run zm139 2 (i' := 8) (ls' := [some (.ref 117), some (.ref b1), some (.int x2), none]) (st' := [.int 0, .ref 117]) rfl ?_
  obtain ⟨s9, hs10, h⟩ := nx_so h
  refine Q.pf hs10 rfl (gI_of zm139 (e := (12, 3, .putfield 34, [8, 6, 0])) rfl) (hl7.lt (a := 117) (by decide)) (by decide) (hl7.T (a := 117) (p := (8, 11)) 39 rfl rfl) (by decide) rfl rfl ?_
  have hl11 : Ly tt cc s9 := by rw [hs10]; exact hl7.wId (by decide)
  have hr12 : aK s9 b1 3 := by rw [hs10]; exact hr8
  refine Q.run zm139 2 (i' := 11) (ls' := [some (.ref 117), some (.ref b1), some (.int x2), none]) (st' := [.int 0, .ref 117]) rfl ?_
  obtain ⟨s13, hs14, h⟩ := nx_so h
  refine Q.pf hs14 rfl (gI_of zm139 (e := (17, 3, .putfield 37, [8, 8, 0])) rfl) (hl11.lt (a := 117) (by decide)) (by decide) (hl11.T (a := 117) (p := (8, 11)) 39 rfl rfl) (by decide) rfl rfl ?_
  have hl15 : Ly tt cc s13 := by rw [hs14]; exact hl11.wId (by decide)
  have hr16 : aK s13 b1 3 := by rw [hs14]; exact hr12
  refine Q.run zm139 2 (i' := 14) (ls' := [some (.ref 117), some (.ref b1), some (.int x2), none]) (st' := [.int x2, .ref 117]) rfl ?_
  obtain ⟨s17, hs18, h⟩ := nx_so h
  refine Q.pf hs18 rfl (gI_of zm139 (e := (22, 3, .putfield 40, [8, 9, 0])) rfl) (hl15.lt (a := 117) (by decide)) (by decide) (hl15.T (a := 117) (p := (8, 11)) 39 rfl rfl) (by decide) rfl rfl ?_
  have hl19 : Ly tt cc s17 := by rw [hs18]; exact hl15.wId (by decide)
  have hr20 : aK s17 b1 3 := by rw [hs18]; exact hr16
  refine Q.run zm139 2 (i' := 17) (ls' := [some (.ref 117), some (.ref b1), some (.int x2), none]) (st' := [.int (-1), .ref 117]) rfl ?_
  obtain ⟨s21, hs22, h⟩ := nx_so h
  refine Q.pf hs22 rfl (gI_of zm139 (e := (27, 3, .putfield 43, [8, 10, 0])) rfl) (hl19.lt (a := 117) (by decide)) (by decide) (hl19.T (a := 117) (p := (8, 11)) 39 rfl rfl) (by decide) rfl rfl ?_
  have hl23 : Ly tt cc s21 := by rw [hs22]; exact hl19.wId (by decide)
  have hr24 : aK s21 b1 3 := by rw [hs22]; exact hr20
  refine Q.run zm139 2 (i' := 20) (ls' := [some (.ref 117), some (.ref b1), some (.int x2), none]) (st' := [.int 0, .ref 117]) rfl ?_
  obtain ⟨s27, hc26, h⟩ := bu_so h
  have hq25 : Q 1 sio tt cc d 140 0 [some (.ref 117), some (.int 0)] [] s21 (.inl none, s27) := dt140 (by omega) hl23  hc26
  refine Q.callV (gC_vi zm139 (show zM139.2.2.2.2.2[20]? = some (32, 3, .invokevirtual 46, [0, 140, 1, 8]) from rfl) zm140 (hl23.lt (a := 117) (by decide)) (hl23.T (a := 117) (p := (8, 11)) 39 rfl rfl) rfl (show aCr 1 117 [.int 0, .ref 117] 2 = some ([some (.ref 117), some (.int 0)], []) from rfl)) hq25 ?_
  have hr28 : aK s27 b1 3 := hq25.2.1.k hr24
  refine Q.run zm139 2 (i' := 23) (ls' := [some (.ref 117), some (.ref b1), some (.int x2), some (.int 0)]) (st' := []) rfl ?_
  exact dt139_23 hd _ hq25.1  h
/-! 138 FormulaTrees.form(II)I -/
set_option maxRecDepth 100000 in
theorem zm138 : zP[138]? = some zM138 := rfl
def dm138 (x1 : Int32) (x2 : Int32) (s : aS) : Option (xZ × aS) :=
  bu (dm54 x1 s) fun r3 =>
  vN r3 (
    some (.inr 2, nw s 82 0)
  ) fun b5 =>
    if aK s b5 3 then
      bv (dm139 b5 x2 s) fun r10 s9 =>
      some (.inl (some (.int r10)), s9)
    else none
set_option maxRecDepth 100000 in
theorem dt138 {sio : Bool} {tt : Nat} {cc : Nat → Nat → Int32} {d : Nat} (hd : 9 ≤ d) {x1 : Int32} {x2 : Int32} {s : aS} (hl : Ly tt cc s) {o : xZ × aS} (h : dm138  x1 x2 s = some o) : Q 1 sio tt cc d 138 0 [some (.ref 78), some (.int x1), some (.int x2), none] [] s o := by
  unfold dm138 at h
  obtain ⟨d, rfl⟩ : ∃ e, d = e + 1 := ⟨d - 1, by omega⟩
  refine Q.run zm138 2 (i' := 2) (ls' := [some (.ref 78), some (.int x1), some (.int x2), none]) (st' := [.int x1, .ref 78]) rfl ?_
  obtain ⟨r3, hc2, h⟩ := bu_so h
  have hq1 : Q 1 sio tt cc d 54 0 [some (.ref 78), some (.int x1)] [] s (.inl (some r3), s) := dt54 (by omega) hl  hc2
  rcases vN_so h with ⟨hv4, h9⟩ | ⟨b5, hv4, h9⟩
  · clear h
    subst hv4
    have h := h9
    refine Q.callR (gC_vi zm138 (show zM138.2.2.2.2.2[2]? = some (2, 3, .invokevirtual 114, [0, 54, 1, 0]) from rfl) zm54 (hl.lt (a := 78) (by decide)) (hl.T (a := 78) (p := (0, 7)) 0 rfl rfl) rfl (show aCr 1 78 [.int x1, .ref 78] 2 = some ([some (.ref 78), some (.int x1)], []) from rfl)) hq1 ?_
    refine Q.run zm138 3 (i' := 6) (ls' := [some (.ref 78), some (.int x1), some (.int x2), some (.null)]) (st' := []) rfl ?_
    cases h
    exact Q.t zm138 (show zM138.2.2.2.2.2[6]? = some (10, 3, .new 100, [202]) from rfl) rfl rfl hl.gL (by omega) hl
  · clear h
    subst hv4
    have h := h9
    obtain ⟨hr6, h⟩ := ite_so h
    refine Q.callR (gC_vi zm138 (show zM138.2.2.2.2.2[2]? = some (2, 3, .invokevirtual 114, [0, 54, 1, 0]) from rfl) zm54 (hl.lt (a := 78) (by decide)) (hl.T (a := 78) (p := (0, 7)) 0 rfl rfl) rfl (show aCr 1 78 [.int x1, .ref 78] 2 = some ([some (.ref 78), some (.int x1)], []) from rfl)) hq1 ?_
    refine Q.run zm138 4 (i' := 12) (ls' := [some (.ref 78), some (.int x1), some (.int x2), some (.ref b5)]) (st' := [.ref 78]) rfl ?_
    refine Q.map (A.gf (gI_of zm138 (e := (21, 3, .getfield 54, [0, 5])) rfl) (hl.lt (a := 78) (by decide)) (hl.T (a := 78) (p := (0, 7)) 0 rfl rfl) (by decide) (hl.R 5 rfl)) ?_
    refine Q.run zm138 2 (i' := 15) (ls' := [some (.ref 78), some (.int x1), some (.int x2), some (.ref b5)]) (st' := [.int x2, .ref b5, .ref 117]) rfl ?_
    obtain ⟨r10, s9, hc8, h⟩ := bv_so h
    have hq7 : Q 1 sio tt cc d 139 0 [some (.ref 117), some (.ref b5), some (.int x2), none] [] s (.inl (some (.int r10)), s9) := dt139 (by omega) hl hr6 hc8
    refine Q.callI (gC_vi zm138 (show zM138.2.2.2.2.2[15]? = some (26, 3, .invokevirtual 159, [0, 139, 2, 8]) from rfl) zm139 (hl.lt (a := 117) (by decide)) (hl.T (a := 117) (p := (8, 11)) 39 rfl rfl) rfl (show aCr 2 117 [.int x2, .ref b5, .ref 117] 4 = some ([some (.ref 117), some (.ref b5), some (.int x2), none], []) from rfl)) hq7 ?_
    have hr11 : aK s9 b5 3 := hq7.2.1.k hr6
    cases h
    exact Q.ret (A.ri zm138 (show zM138.2.2.2.2.2[16]? = some (29, 1, .ireturn, []) from rfl) rfl rfl) hq7.1
/-! 9 FormulaTreesLaw.form(LFormulaTrees;II[J)I -/
set_option maxRecDepth 100000 in
theorem zm9 : zP[9]? = some zM9 := rfl
def dm9 (x1 : Int32) (x2 : Int32) (s : aS) : Option (Int32 × aS) :=
  bv (dm138 x1 x2 s) fun z4 s3 =>
  zN z4 (fun v5 =>
    vI v5 fun r7 =>
    if aB 0 1 then
      nx (wJ s3 148 (jN 0) r7.toInt64) fun s10 =>
      some (0, s10)
    else none
  ) fun e6 =>
    if e6 = 2 then
      some (1, s3)
    else
      none
set_option maxRecDepth 100000 in
theorem dt9 {sio : Bool} {tt : Nat} {cc : Nat → Nat → Int32} {d : Nat} (hd : 10 ≤ d) {x1 : Int32} {x2 : Int32} {s : aS} (hl : Ly tt cc s) {o : Int32 × aS} (h : dm9  x1 x2 s = some o) : Q 1 sio tt cc d 9 0 [some (.ref 78), some (.int x1), some (.int x2), some (.ref 148), none] [] s (.inl (some (.int o.1)), o.2) := by
  unfold dm9 at h
  obtain ⟨d, rfl⟩ : ∃ e, d = e + 1 := ⟨d - 1, by omega⟩
  refine Q.run zm9 5 (i' := 5) (ls' := [some (.ref 78), some (.int x1), some (.int x2), some (.ref 148), none]) (st' := [.int x2, .int x1, .ref 78, .int 0, .ref 148]) rfl ?_
  obtain ⟨z4, s3, hc2, h⟩ := bv_so h
  have hq1 : Q 1 sio tt cc d 138 0 [some (.ref 78), some (.int x1), some (.int x2), none] [] s (z4, s3) := dt138 (by omega) hl  hc2
  rcases zN_so h with ⟨v5, hz13, h8⟩ | ⟨e6, hz13, h8⟩
  · clear h
    subst hz13
    have h := h8
    obtain ⟨r7, hv8, h9⟩ := vI_so h
    clear h
    subst hv8
    have h := h9
    refine Q.callI (gC_vi zm9 (show zM9.2.2.2.2.2[5]? = some (5, 3, .invokevirtual 45, [0, 138, 2, 0]) from rfl) zm138 (hl.lt (a := 78) (by decide)) (hl.T (a := 78) (p := (0, 7)) 0 rfl rfl) rfl (show aCr 2 78 [.int x2, .int x1, .ref 78, .int 0, .ref 148] 4 = some ([some (.ref 78), some (.int x1), some (.int x2), none], [.int 0, .ref 148]) from rfl)) hq1 ?_
    refine Q.run zm9 1 (i' := 7) (ls' := [some (.ref 78), some (.int x1), some (.int x2), some (.ref 148), none]) (st' := [.long r7.toInt64, .int 0, .ref 148]) rfl ?_
    obtain ⟨hc9, h⟩ := ite_so h
    obtain ⟨s10, hs11, h⟩ := nx_so h
    refine Q.lS hs11 rfl (gI_of zm9 (e := (9, 1, .lastore, [])) rfl) (hq1.1.lt (a := 148) (by decide)) (by decide) (hq1.1.T (a := 148) (p := (104, 1)) 70 rfl rfl) hc9 ?_
    have hl12 : Ly tt cc s10 := by rw [hs11]; exact hq1.1.wJd
    refine Q.run zm9 2 (i' := 13) (ls' := [some (.ref 78), some (.int x1), some (.int x2), some (.ref 148), none]) (st' := [.int 0]) rfl ?_
    cases h
    exact Q.ret (A.ri zm9 (show zM9.2.2.2.2.2[13]? = some (18, 1, .ireturn, []) from rfl) rfl rfl) hl12
  · clear h
    subst hz13
    have h := h8
    by_cases hc14 : e6 = 2
    · rw [if_pos hc14] at h
      subst hc14
      refine Q.hc (gC_vi zm9 (show zM9.2.2.2.2.2[5]? = some (5, 3, .invokevirtual 45, [0, 138, 2, 0]) from rfl) zm138 (hl.lt (a := 78) (by decide)) (hl.T (a := 78) (p := (0, 7)) 0 rfl rfl) rfl (show aCr 2 78 [.int x2, .int x1, .ref 78, .int 0, .ref 148] 4 = some ([some (.ref 78), some (.int x1), some (.int x2), none], [.int 0, .ref 148]) from rfl)) hq1 (t := 9) rfl ?_
      refine Q.run zm9 2 (i' := 11) (ls' := [some (.ref 78), some (.int x1), some (.int x2), some (.ref 148), some (.ref (sL s3 - 1))]) (st' := [.int 1]) rfl ?_
      cases h
      exact Q.ret (A.ri zm9 (show zM9.2.2.2.2.2[11]? = some (16, 1, .ireturn, []) from rfl) rfl rfl) hq1.1
    · rw [if_neg hc14] at h
      cases h
/-! 235 FormulaTreesModel.put(I)V -/
set_option maxRecDepth 100000 in
theorem zm235 : zP[235]? = some zM235 := rfl
def dm235_10 (y1 : Int32) (s : aS) : Option (aS) :=
  nx (wI s 121 44 y1) fun s1 =>
  nx (wI s1 121 42 ((sI s1 121 42) + 1)) fun s4 =>
  some s4
set_option maxRecDepth 100000 in
theorem dt235_10 {sio : Bool} {tt : Nat} {cc : Nat → Nat → Int32} {d : Nat} (hd : 0 ≤ d) {y1 : Int32} {x1 : Int32} {s : aS} (hl : Ly tt cc s) {o : aS} (h : dm235_10  y1 s = some o) : Q 2 sio tt cc d 235 10 [some (.ref 121), some (.int x1)] [.int y1, .ref 121] s (.inl none, o) := by
  unfold dm235_10 at h
  obtain ⟨s1, hs2, h⟩ := nx_so h
  refine Q.pf hs2 rfl (gI_of zm235 (e := (20, 3, .putfield 334, [9, 44, 0])) rfl) (hl.lt (a := 121) (by decide)) (by decide) (hl.T (a := 121) (p := (9, 45)) 43 rfl rfl) (by decide) rfl rfl ?_
  have hl3 : Ly tt cc s1 := by rw [hs2]; exact hl.wId (by decide)
  refine Q.run zm235 2 (i' := 13) (ls' := [some (.ref 121), some (.int x1)]) (st' := [.ref 121, .ref 121]) rfl ?_
  refine Q.map (A.gf (gI_of zm235 (e := (25, 3, .getfield 328, [9, 42])) rfl) (hl3.lt (a := 121) (by decide)) (hl3.T (a := 121) (p := (9, 45)) 43 rfl rfl) (by decide) rfl) ?_
  refine Q.run zm235 2 (i' := 16) (ls' := [some (.ref 121), some (.int x1)]) (st' := [.int ((sI s1 121 42) + 1), .ref 121]) rfl ?_
  obtain ⟨s4, hs5, h⟩ := nx_so h
  refine Q.pf hs5 rfl (gI_of zm235 (e := (30, 3, .putfield 328, [9, 42, 0])) rfl) (hl3.lt (a := 121) (by decide)) (by decide) (hl3.T (a := 121) (p := (9, 45)) 43 rfl rfl) (by decide) rfl rfl ?_
  have hl6 : Ly tt cc s4 := by rw [hs5]; exact hl3.wId (by decide)
  cases h
  exact Q.ret (A.rv zm235 (show zM235.2.2.2.2.2[17]? = some (33, 1, .return_, []) from rfl) rfl) hl6
def dm235 (x1 : Int32) (s : aS) : Option (aS) :=
  if (sI s 121 42) = (sI s 121 43) then
    dm235_10 x1 s
  else
    dm235_10 (sI s 121 44) s
set_option maxRecDepth 100000 in
theorem dt235 {sio : Bool} {tt : Nat} {cc : Nat → Nat → Int32} {d : Nat} (hd : 0 ≤ d) {x1 : Int32} {s : aS} (hl : Ly tt cc s) {o : aS} (h : dm235  x1 s = some o) : Q 2 sio tt cc d 235 0 [some (.ref 121), some (.int x1)] [] s (.inl none, o) := by
  unfold dm235 at h
  refine Q.run zm235 2 (i' := 2) (ls' := [some (.ref 121), some (.int x1)]) (st' := [.ref 121, .ref 121]) rfl ?_
  refine Q.map (A.gf (gI_of zm235 (e := (2, 3, .getfield 328, [9, 42])) rfl) (hl.lt (a := 121) (by decide)) (hl.T (a := 121) (p := (9, 45)) 43 rfl rfl) (by decide) rfl) ?_
  refine Q.run zm235 1 (i' := 4) (ls' := [some (.ref 121), some (.int x1)]) (st' := [.ref 121, .int (sI s 121 42), .ref 121]) rfl ?_
  refine Q.map (A.gf (gI_of zm235 (e := (6, 3, .getfield 331, [9, 43])) rfl) (hl.lt (a := 121) (by decide)) (hl.T (a := 121) (p := (9, 45)) 43 rfl rfl) (by decide) rfl) ?_
  by_cases hc1 : (sI s 121 42) = (sI s 121 43)
  · rw [if_pos hc1] at h
    refine Q.map (A.bF (gI_of zm235 (e := (9, 3, .if_icmp .ne 7, [8])) rfl) (fun q => of_decide_eq_true q hc1)) ?_
    refine Q.run zm235 2 (i' := 10) (ls' := [some (.ref 121), some (.int x1)]) (st' := [.int x1, .ref 121]) rfl ?_
    exact dt235_10 hd hl  h
  · rw [if_neg hc1] at h
    refine Q.map (A.bT (gI_of zm235 (e := (9, 3, .if_icmp .ne 7, [8])) rfl) (decide_eq_true hc1)) ?_
    refine Q.run zm235 1 (i' := 9) (ls' := [some (.ref 121), some (.int x1)]) (st' := [.ref 121, .ref 121]) rfl ?_
    refine Q.map (A.gf (gI_of zm235 (e := (17, 3, .getfield 334, [9, 44])) rfl) (hl.lt (a := 121) (by decide)) (hl.T (a := 121) (p := (9, 45)) 43 rfl rfl) (by decide) rfl) ?_
    exact dt235_10 hd hl  h
/-! 234 FormulaTreesModel.putToken(II)V -/
set_option maxRecDepth 100000 in
theorem zm234 : zP[234]? = some zM234 := rfl
def dm234_2 : Nat → Int32 → Int32 → Int32 → aS → Option (aS)
  | 0, _, _, _, _ => none
  | n + 1, x1, x2, x3, s =>
    if aB x2 1152 then
      if (sI s 138 (jN x2)) ≤ x3 then
        some s
      else
        if aB x2 1152 then
          if aB (((256 * x1) + (sI s 137 (jN x2))) + x3) 2304 then
            bu (dm235 (sI s 139 (jN (((256 * x1) + (sI s 137 (jN x2))) + x3))) s) fun s7 =>
            dm234_2 n x1 x2 (x3 + 1) s7
          else none
        else none
    else none
set_option maxRecDepth 100000 in
theorem dt234_2 {sio : Bool} {tt : Nat} {cc : Nat → Nat → Int32} {d : Nat} (hd : 1 ≤ d) : ∀ (n : Nat) {x1 : Int32} {x2 : Int32} {x3 : Int32} {s : aS} (_ : Ly tt cc s) {o : aS} (_ : dm234_2  n x1 x2 x3 s = some o), Q 2 sio tt cc d 234 2 [some (.ref 121), some (.int x1), some (.int x2), some (.int x3)] [] s (.inl none, o) := by
  obtain ⟨d, rfl⟩ : ∃ e, d = e + 1 := ⟨d - 1, by omega⟩
  intro n
  induction n with
  | zero => intro x1 x2 x3 s hl o h; rw [dm234_2] at h; cases h
  | succ n ih =>
    intro x1 x2 x3 s hl o h
    rw [dm234_2] at h
    refine Q.run zm234 2 (i' := 4) (ls' := [some (.ref 121), some (.int x1), some (.int x2), some (.int x3)]) (st' := [.ref 121, .int x3]) rfl ?_
    refine Q.map (A.gf (gI_of zm234 (e := (4, 3, .getfield 59, [9, 19])) rfl) (hl.lt (a := 121) (by decide)) (hl.T (a := 121) (p := (9, 45)) 43 rfl rfl) (by decide) (hl.R 39 rfl)) ?_
    refine Q.run zm234 1 (i' := 6) (ls' := [some (.ref 121), some (.int x1), some (.int x2), some (.int x3)]) (st' := [.int x2, .ref 138, .int x3]) rfl ?_
    obtain ⟨hc1, h⟩ := ite_so h
    refine Q.map (A.ia (gI_of zm234 (e := (8, 1, .iaload, [])) rfl) (hl.lt (a := 138) (by decide)) (hl.T (a := 138) (p := (100, 1152)) 60 rfl rfl) hc1) ?_
    by_cases hc2 : (sI s 138 (jN x2)) ≤ x3
    · rw [if_pos hc2] at h
      refine Q.map (A.bT (gI_of zm234 (e := (9, 3, .if_icmp .ge 32, [25])) rfl) (decide_eq_true hc2)) ?_
      cases h
      exact Q.ret (A.rv zm234 (show zM234.2.2.2.2.2[25]? = some (41, 1, .return_, []) from rfl) rfl) hl
    · rw [if_neg hc2] at h
      refine Q.map (A.bF (gI_of zm234 (e := (9, 3, .if_icmp .ge 32, [25])) rfl) (fun q => hc2 (of_decide_eq_true q))) ?_
      refine Q.run zm234 2 (i' := 10) (ls' := [some (.ref 121), some (.int x1), some (.int x2), some (.int x3)]) (st' := [.ref 121, .ref 121]) rfl ?_
      refine Q.map (A.gf (gI_of zm234 (e := (14, 3, .getfield 62, [9, 20])) rfl) (hl.lt (a := 121) (by decide)) (hl.T (a := 121) (p := (9, 45)) 43 rfl rfl) (by decide) (hl.R 40 rfl)) ?_
      refine Q.run zm234 4 (i' := 15) (ls' := [some (.ref 121), some (.int x1), some (.int x2), some (.int x3)]) (st' := [.ref 121, .int (256 * x1), .ref 139, .ref 121]) rfl ?_
      refine Q.map (A.gf (gI_of zm234 (e := (23, 3, .getfield 56, [9, 18])) rfl) (hl.lt (a := 121) (by decide)) (hl.T (a := 121) (p := (9, 45)) 43 rfl rfl) (by decide) (hl.R 38 rfl)) ?_
      refine Q.run zm234 1 (i' := 17) (ls' := [some (.ref 121), some (.int x1), some (.int x2), some (.int x3)]) (st' := [.int x2, .ref 137, .int (256 * x1), .ref 139, .ref 121]) rfl ?_
      obtain ⟨hc3, h⟩ := ite_so h
      refine Q.map (A.ia (gI_of zm234 (e := (27, 1, .iaload, [])) rfl) (hl.lt (a := 137) (by decide)) (hl.T (a := 137) (p := (100, 1152)) 59 rfl rfl) hc3) ?_
      refine Q.run zm234 3 (i' := 21) (ls' := [some (.ref 121), some (.int x1), some (.int x2), some (.int x3)]) (st' := [.int (((256 * x1) + (sI s 137 (jN x2))) + x3), .ref 139, .ref 121]) rfl ?_
      obtain ⟨hc4, h⟩ := ite_so h
      refine Q.map (A.ia (gI_of zm234 (e := (31, 1, .iaload, [])) rfl) (hl.lt (a := 139) (by decide)) (hl.T (a := 139) (p := (100, 2304)) 61 rfl rfl) hc4) ?_
      obtain ⟨s7, hc6, h⟩ := bu_so h
      have hq5 : Q 2 sio tt cc d 235 0 [some (.ref 121), some (.int (sI s 139 (jN (((256 * x1) + (sI s 137 (jN x2))) + x3))))] [] s (.inl none, s7) := dt235 (by omega) hl  hc6
      refine Q.callV (gC_vi zm234 (show zM234.2.2.2.2.2[22]? = some (32, 3, .invokevirtual 337, [0, 235, 1, 9]) from rfl) zm235 (hl.lt (a := 121) (by decide)) (hl.T (a := 121) (p := (9, 45)) 43 rfl rfl) rfl (show aCr 1 121 [.int (sI s 139 (jN (((256 * x1) + (sI s 137 (jN x2))) + x3))), .ref 121] 2 = some ([some (.ref 121), some (.int (sI s 139 (jN (((256 * x1) + (sI s 137 (jN x2))) + x3))))], []) from rfl)) hq5 ?_
      refine Q.run zm234 2 (i' := 2) (ls' := [some (.ref 121), some (.int x1), some (.int x2), some (.int (x3 + 1))]) (st' := []) rfl ?_
      exact ih hq5.1  h
def dm234 (x1 : Int32) (x2 : Int32) (s : aS) : Option (aS) :=
  dm234_2 5000 x1 x2 0 s
set_option maxRecDepth 100000 in
theorem dt234 {sio : Bool} {tt : Nat} {cc : Nat → Nat → Int32} {d : Nat} (hd : 1 ≤ d) {x1 : Int32} {x2 : Int32} {s : aS} (hl : Ly tt cc s) {o : aS} (h : dm234  x1 x2 s = some o) : Q 2 sio tt cc d 234 0 [some (.ref 121), some (.int x1), some (.int x2), none] [] s (.inl none, o) := by
  unfold dm234 at h
  obtain ⟨d, rfl⟩ : ∃ e, d = e + 1 := ⟨d - 1, by omega⟩
  refine Q.run zm234 2 (i' := 2) (ls' := [some (.ref 121), some (.int x1), some (.int x2), some (.int 0)]) (st' := []) rfl ?_
  exact dt234_2 hd _ hl  h
/-! 237 FormulaTreesModel.sign(I)I -/
set_option maxRecDepth 100000 in
theorem zm237 : zP[237]? = some zM237 := rfl
def dm237_41 : Option (Int32) :=
  some 62
set_option maxRecDepth 100000 in
theorem dt237_41 {sio : Bool} {tt : Nat} {cc : Nat → Nat → Int32} {d : Nat} (hd : 0 ≤ d) {x0 : Int32} {s : aS} (hl : Ly tt cc s) {o : Int32} (h : dm237_41   = some o) : Q 2 sio tt cc d 237 41 [some (.int x0)] [] s (.inl (some (.int o)), s) := by
  unfold dm237_41 at h
  refine Q.run zm237 2 (i' := 44) (ls' := [some (.int x0)]) (st' := [.int 62]) rfl ?_
  cases h
  exact Q.ret (A.ri zm237 (show zM237.2.2.2.2.2[44]? = some (96, 1, .ireturn, []) from rfl) rfl rfl) hl
def dm237 (x0 : Int32) : Option (Int32) :=
  if x0 = 11 then
    some 94
  else
    if x0 = 12 then
      some 42
    else
      if x0 = 13 then
        some 47
      else
        if x0 = 14 then
          some 43
        else
          if x0 = 15 then
            some 45
          else
            if x0 = 16 then
              some 38
            else
              if x0 = 17 then
                some 61
              else
                if x0 = 20 then
                  dm237_41 
                else
                  if x0 = 22 then
                    dm237_41 
                  else
                    some 60
set_option maxRecDepth 100000 in
theorem dt237 {sio : Bool} {tt : Nat} {cc : Nat → Nat → Int32} {d : Nat} (hd : 0 ≤ d) {x0 : Int32} {s : aS} (hl : Ly tt cc s) {o : Int32} (h : dm237  x0 = some o) : Q 2 sio tt cc d 237 0 [some (.int x0)] [] s (.inl (some (.int o)), s) := by
  unfold dm237 at h
  refine Q.run zm237 2 (i' := 2) (ls' := [some (.int x0)]) (st' := [.int 11, .int x0]) rfl ?_
  by_cases hc1 : x0 = 11
  · rw [if_pos hc1] at h
    refine Q.map (A.bF (gI_of zm237 (e := (3, 3, .if_icmp .ne 8, [5])) rfl) (fun q => of_decide_eq_true q hc1)) ?_
    refine Q.run zm237 2 (i' := 44) (ls' := [some (.int x0)]) (st' := [.int 94]) rfl ?_
    cases h
    exact Q.ret (A.ri zm237 (show zM237.2.2.2.2.2[44]? = some (96, 1, .ireturn, []) from rfl) rfl rfl) hl
  · rw [if_neg hc1] at h
    refine Q.map (A.bT (gI_of zm237 (e := (3, 3, .if_icmp .ne 8, [5])) rfl) (decide_eq_true hc1)) ?_
    refine Q.run zm237 2 (i' := 7) (ls' := [some (.int x0)]) (st' := [.int 12, .int x0]) rfl ?_
    by_cases hc2 : x0 = 12
    · rw [if_pos hc2] at h
      refine Q.map (A.bF (gI_of zm237 (e := (14, 3, .if_icmp .ne 8, [10])) rfl) (fun q => of_decide_eq_true q hc2)) ?_
      refine Q.run zm237 2 (i' := 44) (ls' := [some (.int x0)]) (st' := [.int 42]) rfl ?_
      cases h
      exact Q.ret (A.ri zm237 (show zM237.2.2.2.2.2[44]? = some (96, 1, .ireturn, []) from rfl) rfl rfl) hl
    · rw [if_neg hc2] at h
      refine Q.map (A.bT (gI_of zm237 (e := (14, 3, .if_icmp .ne 8, [10])) rfl) (decide_eq_true hc2)) ?_
      refine Q.run zm237 2 (i' := 12) (ls' := [some (.int x0)]) (st' := [.int 13, .int x0]) rfl ?_
      by_cases hc3 : x0 = 13
      · rw [if_pos hc3] at h
        refine Q.map (A.bF (gI_of zm237 (e := (25, 3, .if_icmp .ne 8, [15])) rfl) (fun q => of_decide_eq_true q hc3)) ?_
        refine Q.run zm237 2 (i' := 44) (ls' := [some (.int x0)]) (st' := [.int 47]) rfl ?_
        cases h
        exact Q.ret (A.ri zm237 (show zM237.2.2.2.2.2[44]? = some (96, 1, .ireturn, []) from rfl) rfl rfl) hl
      · rw [if_neg hc3] at h
        refine Q.map (A.bT (gI_of zm237 (e := (25, 3, .if_icmp .ne 8, [15])) rfl) (decide_eq_true hc3)) ?_
        refine Q.run zm237 2 (i' := 17) (ls' := [some (.int x0)]) (st' := [.int 14, .int x0]) rfl ?_
        by_cases hc4 : x0 = 14
        · rw [if_pos hc4] at h
          refine Q.map (A.bF (gI_of zm237 (e := (36, 3, .if_icmp .ne 8, [20])) rfl) (fun q => of_decide_eq_true q hc4)) ?_
          refine Q.run zm237 2 (i' := 44) (ls' := [some (.int x0)]) (st' := [.int 43]) rfl ?_
          cases h
          exact Q.ret (A.ri zm237 (show zM237.2.2.2.2.2[44]? = some (96, 1, .ireturn, []) from rfl) rfl rfl) hl
        · rw [if_neg hc4] at h
          refine Q.map (A.bT (gI_of zm237 (e := (36, 3, .if_icmp .ne 8, [20])) rfl) (decide_eq_true hc4)) ?_
          refine Q.run zm237 2 (i' := 22) (ls' := [some (.int x0)]) (st' := [.int 15, .int x0]) rfl ?_
          by_cases hc5 : x0 = 15
          · rw [if_pos hc5] at h
            refine Q.map (A.bF (gI_of zm237 (e := (47, 3, .if_icmp .ne 8, [25])) rfl) (fun q => of_decide_eq_true q hc5)) ?_
            refine Q.run zm237 2 (i' := 44) (ls' := [some (.int x0)]) (st' := [.int 45]) rfl ?_
            cases h
            exact Q.ret (A.ri zm237 (show zM237.2.2.2.2.2[44]? = some (96, 1, .ireturn, []) from rfl) rfl rfl) hl
          · rw [if_neg hc5] at h
            refine Q.map (A.bT (gI_of zm237 (e := (47, 3, .if_icmp .ne 8, [25])) rfl) (decide_eq_true hc5)) ?_
            refine Q.run zm237 2 (i' := 27) (ls' := [some (.int x0)]) (st' := [.int 16, .int x0]) rfl ?_
            by_cases hc6 : x0 = 16
            · rw [if_pos hc6] at h
              refine Q.map (A.bF (gI_of zm237 (e := (58, 3, .if_icmp .ne 8, [30])) rfl) (fun q => of_decide_eq_true q hc6)) ?_
              refine Q.run zm237 2 (i' := 44) (ls' := [some (.int x0)]) (st' := [.int 38]) rfl ?_
              cases h
              exact Q.ret (A.ri zm237 (show zM237.2.2.2.2.2[44]? = some (96, 1, .ireturn, []) from rfl) rfl rfl) hl
            · rw [if_neg hc6] at h
              refine Q.map (A.bT (gI_of zm237 (e := (58, 3, .if_icmp .ne 8, [30])) rfl) (decide_eq_true hc6)) ?_
              refine Q.run zm237 2 (i' := 32) (ls' := [some (.int x0)]) (st' := [.int 17, .int x0]) rfl ?_
              by_cases hc7 : x0 = 17
              · rw [if_pos hc7] at h
                refine Q.map (A.bF (gI_of zm237 (e := (69, 3, .if_icmp .ne 8, [35])) rfl) (fun q => of_decide_eq_true q hc7)) ?_
                refine Q.run zm237 2 (i' := 44) (ls' := [some (.int x0)]) (st' := [.int 61]) rfl ?_
                cases h
                exact Q.ret (A.ri zm237 (show zM237.2.2.2.2.2[44]? = some (96, 1, .ireturn, []) from rfl) rfl rfl) hl
              · rw [if_neg hc7] at h
                refine Q.map (A.bT (gI_of zm237 (e := (69, 3, .if_icmp .ne 8, [35])) rfl) (decide_eq_true hc7)) ?_
                refine Q.run zm237 2 (i' := 37) (ls' := [some (.int x0)]) (st' := [.int 20, .int x0]) rfl ?_
                by_cases hc8 : x0 = 20
                · rw [if_pos hc8] at h
                  refine Q.map (A.bT (gI_of zm237 (e := (80, 3, .if_icmp .eq 9, [41])) rfl) (decide_eq_true hc8)) ?_
                  exact dt237_41 hd hl  h
                · rw [if_neg hc8] at h
                  refine Q.map (A.bF (gI_of zm237 (e := (80, 3, .if_icmp .eq 9, [41])) rfl) (fun q => hc8 (of_decide_eq_true q))) ?_
                  refine Q.run zm237 2 (i' := 40) (ls' := [some (.int x0)]) (st' := [.int 22, .int x0]) rfl ?_
                  by_cases hc9 : x0 = 22
                  · rw [if_pos hc9] at h
                    refine Q.map (A.bF (gI_of zm237 (e := (86, 3, .if_icmp .ne 8, [43])) rfl) (fun q => of_decide_eq_true q hc9)) ?_
                    exact dt237_41 hd hl  h
                  · rw [if_neg hc9] at h
                    refine Q.map (A.bT (gI_of zm237 (e := (86, 3, .if_icmp .ne 8, [43])) rfl) (decide_eq_true hc9)) ?_
                    refine Q.run zm237 1 (i' := 44) (ls' := [some (.int x0)]) (st' := [.int 60]) rfl ?_
                    cases h
                    exact Q.ret (A.ri zm237 (show zM237.2.2.2.2.2[44]? = some (96, 1, .ireturn, []) from rfl) rfl rfl) hl
/-! 240 FormulaTreesModel.truthNamed(IJI)Z -/
set_option maxRecDepth 100000 in
theorem zm240 : zP[240]? = some zM240 := rfl
def dm240_42 (k12 : Int32 → Int64 → Int32 → Int32 → Int32 → aS → Option (Int32)) (x1 : Int32) (x2 : Int64) (x4 : Int32) (x6 : Int32) (y0 : Int32) (s : aS) : Option (Int32) :=
  k12 x1 x2 x4 y0 (x6 + 1) s
set_option maxRecDepth 100000 in
theorem dt240_42 {sio : Bool} {tt : Nat} {cc : Nat → Nat → Int32} {d : Nat} (hd : 1 ≤ d) {k12 : Int32 → Int64 → Int32 → Int32 → Int32 → aS → Option (Int32)} (hk12 : ∀ {x1 : Int32} {x2 : Int64} {x4 : Int32} {x5 : Int32} {x6 : Int32} {s : aS}, Ly tt cc s → ∀ {o : Int32}, k12 x1 x2 x4 x5 x6 s = some o → Q 2 sio tt cc d 240 12 [some (.ref 121), some (.int x1), some (.long x2), none, some (.int x4), some (.int x5), some (.int x6)] [] s (.inl (some (.int o)), s)) {x1 : Int32} {x2 : Int64} {x4 : Int32} {x6 : Int32} {y0 : Int32} {x5 : Int32} {s : aS} (hl : Ly tt cc s) {o : Int32} (h : dm240_42 k12 x1 x2 x4 x6 y0 s = some o) : Q 2 sio tt cc d 240 42 [some (.ref 121), some (.int x1), some (.long x2), none, some (.int x4), some (.int x5), some (.int x6)] [.int y0] s (.inl (some (.int o)), s) := by
  unfold dm240_42 at h
  obtain ⟨d, rfl⟩ : ∃ e, d = e + 1 := ⟨d - 1, by omega⟩
  refine Q.run zm240 3 (i' := 12) (ls' := [some (.ref 121), some (.int x1), some (.long x2), none, some (.int x4), some (.int y0), some (.int (x6 + 1))]) (st' := []) rfl ?_
  exact hk12 hl  h
def dm240_12 : Nat → Int32 → Int64 → Int32 → Int32 → Int32 → aS → Option (Int32)
  | 0, _, _, _, _, _, _ => none
  | n + 1, x1, x2, x4, x5, x6, s =>
    if x4 ≤ x6 then
      if x5 = 0 ∨ x5 = 1 then
        some x5
      else none
    else
      if x5 = 0 then
        if x5 = 0 ∨ x5 = 1 then
          some x5
        else none
      else
        if aB ((32 * x1) + x6) 256 then
          bu (dm178 (sI s 124 (jN ((32 * x1) + x6)))) fun r8 =>
          if r8 = (((x2 >>> ((8 * ((x4 - 1) - x6)).toInt64 &&& 63)) &&& 255).toInt32) then
            dm240_42 (dm240_12 n) x1 x2 x4 x6 1 s
          else
            dm240_42 (dm240_12 n) x1 x2 x4 x6 0 s
        else none
set_option maxRecDepth 100000 in
theorem dt240_12 {sio : Bool} {tt : Nat} {cc : Nat → Nat → Int32} {d : Nat} (hd : 1 ≤ d) : ∀ (n : Nat) {x1 : Int32} {x2 : Int64} {x4 : Int32} {x5 : Int32} {x6 : Int32} {s : aS} (_ : Ly tt cc s) {o : Int32} (_ : dm240_12  n x1 x2 x4 x5 x6 s = some o), Q 2 sio tt cc d 240 12 [some (.ref 121), some (.int x1), some (.long x2), none, some (.int x4), some (.int x5), some (.int x6)] [] s (.inl (some (.int o)), s) := by
  obtain ⟨d, rfl⟩ : ∃ e, d = e + 1 := ⟨d - 1, by omega⟩
  intro n
  induction n with
  | zero => intro x1 x2 x4 x5 x6 s hl o h; rw [dm240_12] at h; cases h
  | succ n ih =>
    intro x1 x2 x4 x5 x6 s hl o h
    rw [dm240_12] at h
    refine Q.run zm240 2 (i' := 14) (ls' := [some (.ref 121), some (.int x1), some (.long x2), none, some (.int x4), some (.int x5), some (.int x6)]) (st' := [.int x4, .int x6]) rfl ?_
    by_cases hc1 : x4 ≤ x6
    · rw [if_pos hc1] at h
      refine Q.map (A.bT (gI_of zm240 (e := (25, 3, .if_icmp .ge 56, [45])) rfl) (decide_eq_true hc1)) ?_
      refine Q.run zm240 1 (i' := 46) (ls' := [some (.ref 121), some (.int x1), some (.long x2), none, some (.int x4), some (.int x5), some (.int x6)]) (st' := [.int x5]) rfl ?_
      obtain ⟨hc2, h⟩ := ite_so h
      cases h
      exact Q.ret (A.ri zm240 (show zM240.2.2.2.2.2[46]? = some (83, 1, .ireturn, []) from rfl) rfl (fit1 hc2)) hl
    · rw [if_neg hc1] at h
      refine Q.map (A.bF (gI_of zm240 (e := (25, 3, .if_icmp .ge 56, [45])) rfl) (fun q => hc1 (of_decide_eq_true q))) ?_
      refine Q.run zm240 1 (i' := 16) (ls' := [some (.ref 121), some (.int x1), some (.long x2), none, some (.int x4), some (.int x5), some (.int x6)]) (st' := [.int x5]) rfl ?_
      by_cases hc3 : x5 = 0
      · rw [if_pos hc3] at h
        refine Q.map (A.zT (gI_of zm240 (e := (30, 3, .ifCond .eq 51, [45])) rfl) (decide_eq_true hc3)) ?_
        refine Q.run zm240 1 (i' := 46) (ls' := [some (.ref 121), some (.int x1), some (.long x2), none, some (.int x4), some (.int x5), some (.int x6)]) (st' := [.int x5]) rfl ?_
        obtain ⟨hc4, h⟩ := ite_so h
        cases h
        exact Q.ret (A.ri zm240 (show zM240.2.2.2.2.2[46]? = some (83, 1, .ireturn, []) from rfl) rfl (fit1 hc4)) hl
      · rw [if_neg hc3] at h
        refine Q.map (A.zF (gI_of zm240 (e := (30, 3, .ifCond .eq 51, [45])) rfl) (fun q => hc3 (of_decide_eq_true q))) ?_
        refine Q.run zm240 1 (i' := 18) (ls' := [some (.ref 121), some (.int x1), some (.long x2), none, some (.int x4), some (.int x5), some (.int x6)]) (st' := [.ref 121]) rfl ?_
        refine Q.map (A.gf (gI_of zm240 (e := (34, 3, .getfield 16, [9, 5])) rfl) (hl.lt (a := 121) (by decide)) (hl.T (a := 121) (p := (9, 45)) 43 rfl rfl) (by decide) (hl.R 25 rfl)) ?_
        refine Q.run zm240 5 (i' := 24) (ls' := [some (.ref 121), some (.int x1), some (.long x2), none, some (.int x4), some (.int x5), some (.int x6)]) (st' := [.int ((32 * x1) + x6), .ref 124]) rfl ?_
        obtain ⟨hc5, h⟩ := ite_so h
        refine Q.map (A.ia (gI_of zm240 (e := (44, 1, .iaload, [])) rfl) (hl.lt (a := 124) (by decide)) (hl.T (a := 124) (p := (100, 256)) 46 rfl rfl) hc5) ?_
        obtain ⟨r8, hc7, h⟩ := bu_so h
        have hq6 : Q 2 sio tt cc d 178 0 [some (.int (sI s 124 (jN ((32 * x1) + x6))))] [] s (.inl (some (.int r8)), s) := dt178 (by omega) hl  hc7
        refine Q.callI (gC_st zm240 (show zM240.2.2.2.2.2[25]? = some (45, 3, .invokestatic 109, [0, 178, 1]) from rfl) zm178 (show aC 1 [.int (sI s 124 (jN ((32 * x1) + x6)))] 1 = some ([some (.int (sI s 124 (jN ((32 * x1) + x6))))], []) from rfl)) hq6 ?_
        refine Q.run zm240 12 (i' := 38) (ls' := [some (.ref 121), some (.int x1), some (.long x2), none, some (.int x4), some (.int x5), some (.int x6)]) (st' := [.int (((x2 >>> ((8 * ((x4 - 1) - x6)).toInt64 &&& 63)) &&& 255).toInt32), .int r8]) rfl ?_
        by_cases hc9 : r8 = (((x2 >>> ((8 * ((x4 - 1) - x6)).toInt64 &&& 63)) &&& 255).toInt32)
        · rw [if_pos hc9] at h
          refine Q.map (A.bF (gI_of zm240 (e := (65, 3, .if_icmp .ne 7, [41])) rfl) (fun q => of_decide_eq_true q hc9)) ?_
          refine Q.run zm240 2 (i' := 42) (ls' := [some (.ref 121), some (.int x1), some (.long x2), none, some (.int x4), some (.int x5), some (.int x6)]) (st' := [.int 1]) rfl ?_
          exact dt240_42 hd ih hl  h
        · rw [if_neg hc9] at h
          refine Q.map (A.bT (gI_of zm240 (e := (65, 3, .if_icmp .ne 7, [41])) rfl) (decide_eq_true hc9)) ?_
          refine Q.run zm240 1 (i' := 42) (ls' := [some (.ref 121), some (.int x1), some (.long x2), none, some (.int x4), some (.int x5), some (.int x6)]) (st' := [.int 0]) rfl ?_
          exact dt240_42 hd ih hl  h
def dm240_9 (x1 : Int32) (x2 : Int64) (x4 : Int32) (y0 : Int32) (s : aS) : Option (Int32) :=
  dm240_12 5000 x1 x2 x4 y0 0 s
set_option maxRecDepth 100000 in
theorem dt240_9 {sio : Bool} {tt : Nat} {cc : Nat → Nat → Int32} {d : Nat} (hd : 1 ≤ d) {x1 : Int32} {x2 : Int64} {x4 : Int32} {y0 : Int32} {s : aS} (hl : Ly tt cc s) {o : Int32} (h : dm240_9  x1 x2 x4 y0 s = some o) : Q 2 sio tt cc d 240 9 [some (.ref 121), some (.int x1), some (.long x2), none, some (.int x4), none, none] [.int y0] s (.inl (some (.int o)), s) := by
  unfold dm240_9 at h
  obtain ⟨d, rfl⟩ : ∃ e, d = e + 1 := ⟨d - 1, by omega⟩
  refine Q.run zm240 3 (i' := 12) (ls' := [some (.ref 121), some (.int x1), some (.long x2), none, some (.int x4), some (.int y0), some (.int 0)]) (st' := []) rfl ?_
  exact dt240_12 hd _ hl  h
def dm240 (x1 : Int32) (x2 : Int64) (x4 : Int32) (s : aS) : Option (Int32) :=
  if aB x1 8 then
    if (sI s 123 (jN x1)) = x4 then
      dm240_9 x1 x2 x4 1 s
    else
      dm240_9 x1 x2 x4 0 s
  else none
set_option maxRecDepth 100000 in
theorem dt240 {sio : Bool} {tt : Nat} {cc : Nat → Nat → Int32} {d : Nat} (hd : 1 ≤ d) {x1 : Int32} {x2 : Int64} {x4 : Int32} {s : aS} (hl : Ly tt cc s) {o : Int32} (h : dm240  x1 x2 x4 s = some o) : Q 2 sio tt cc d 240 0 [some (.ref 121), some (.int x1), some (.long x2), none, some (.int x4), none, none] [] s (.inl (some (.int o)), s) := by
  unfold dm240 at h
  obtain ⟨d, rfl⟩ : ∃ e, d = e + 1 := ⟨d - 1, by omega⟩
  refine Q.run zm240 1 (i' := 1) (ls' := [some (.ref 121), some (.int x1), some (.long x2), none, some (.int x4), none, none]) (st' := [.ref 121]) rfl ?_
  refine Q.map (A.gf (gI_of zm240 (e := (1, 3, .getfield 13, [9, 4])) rfl) (hl.lt (a := 121) (by decide)) (hl.T (a := 121) (p := (9, 45)) 43 rfl rfl) (by decide) (hl.R 24 rfl)) ?_
  refine Q.run zm240 1 (i' := 3) (ls' := [some (.ref 121), some (.int x1), some (.long x2), none, some (.int x4), none, none]) (st' := [.int x1, .ref 123]) rfl ?_
  obtain ⟨hc1, h⟩ := ite_so h
  refine Q.map (A.ia (gI_of zm240 (e := (5, 1, .iaload, [])) rfl) (hl.lt (a := 123) (by decide)) (hl.T (a := 123) (p := (100, 8)) 45 rfl rfl) hc1) ?_
  refine Q.run zm240 1 (i' := 5) (ls' := [some (.ref 121), some (.int x1), some (.long x2), none, some (.int x4), none, none]) (st' := [.int x4, .int (sI s 123 (jN x1))]) rfl ?_
  by_cases hc2 : (sI s 123 (jN x1)) = x4
  · rw [if_pos hc2] at h
    refine Q.map (A.bF (gI_of zm240 (e := (8, 3, .if_icmp .ne 7, [8])) rfl) (fun q => of_decide_eq_true q hc2)) ?_
    refine Q.run zm240 2 (i' := 9) (ls' := [some (.ref 121), some (.int x1), some (.long x2), none, some (.int x4), none, none]) (st' := [.int 1]) rfl ?_
    exact dt240_9 hd hl  h
  · rw [if_neg hc2] at h
    refine Q.map (A.bT (gI_of zm240 (e := (8, 3, .if_icmp .ne 7, [8])) rfl) (decide_eq_true hc2)) ?_
    refine Q.run zm240 1 (i' := 9) (ls' := [some (.ref 121), some (.int x1), some (.long x2), none, some (.int x4), none, none]) (st' := [.int 0]) rfl ?_
    exact dt240_9 hd hl  h
