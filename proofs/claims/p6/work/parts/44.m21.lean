section
/-! 156 FormulaTrees$Writer.end(I)V -/
set_option maxRecDepth 100000 in
theorem zm156 : zP[156]? = some zM156 := rfl
def dm156_13 (s : aS) : Option (aS) :=
  if (sI s 117 4) ≤ 0 then
    some s
  else
    nx (wI s 117 4 ((sI s 117 4) - 1)) fun s2 =>
    if aB (sI s2 117 4) 128 then
      if (sI s2 120 (jN (sI s2 117 4))) = 0 then
        some s2
      else
        bu (dm141 41 s2) fun s9 =>
        some s9
    else none
set_option maxRecDepth 100000 in
theorem dt156_13 {sio : Bool} {tt : Nat} {cc : Nat → Nat → Int32} {d : Nat} (hd : 1 ≤ d) {x1 : Int32} {s : aS} (hl : Ly tt cc s) {o : aS} (h : dm156_13  s = some o) : Q 1 sio tt cc d 156 13 [some (.ref 117), some (.int x1)] [] s (.inl none, o) := by
  unfold dm156_13 at h
  obtain ⟨d, rfl⟩ : ∃ e, d = e + 1 := ⟨d - 1, by omega⟩
  refine Q.run zm156 1 (i' := 14) (ls' := [some (.ref 117), some (.int x1)]) (st' := [.ref 117]) rfl ?_
  refine Q.map (A.gf (gI_of zm156 (e := (28, 3, .getfield 30, [8, 4])) rfl) (hl.lt (a := 117) (by decide)) (hl.T (a := 117) (p := (8, 11)) 39 rfl rfl) (by decide) rfl) ?_
  by_cases hc1 : (sI s 117 4) ≤ 0
  · rw [if_pos hc1] at h
    refine Q.map (A.zT (gI_of zm156 (e := (31, 3, .ifCond .le 31, [31])) rfl) (decide_eq_true hc1)) ?_
    cases h
    exact Q.ret (A.rv zm156 (show zM156.2.2.2.2.2[31]? = some (62, 1, .return_, []) from rfl) rfl) hl
  · rw [if_neg hc1] at h
    refine Q.map (A.zF (gI_of zm156 (e := (31, 3, .ifCond .le 31, [31])) rfl) (fun q => hc1 (of_decide_eq_true q))) ?_
    refine Q.run zm156 2 (i' := 18) (ls' := [some (.ref 117), some (.int x1)]) (st' := [.ref 117, .ref 117]) rfl ?_
    refine Q.map (A.gf (gI_of zm156 (e := (36, 3, .getfield 30, [8, 4])) rfl) (hl.lt (a := 117) (by decide)) (hl.T (a := 117) (p := (8, 11)) 39 rfl rfl) (by decide) rfl) ?_
    refine Q.run zm156 2 (i' := 21) (ls' := [some (.ref 117), some (.int x1)]) (st' := [.int ((sI s 117 4) - 1), .ref 117]) rfl ?_
    obtain ⟨s2, hs3, h⟩ := nx_so h
    refine Q.pf hs3 rfl (gI_of zm156 (e := (41, 3, .putfield 30, [8, 4, 0])) rfl) (hl.lt (a := 117) (by decide)) (by decide) (hl.T (a := 117) (p := (8, 11)) 39 rfl rfl) (by decide) rfl rfl ?_
    have hl4 : Ly tt cc s2 := by rw [hs3]; exact hl.wId (by decide)
    refine Q.run zm156 1 (i' := 23) (ls' := [some (.ref 117), some (.int x1)]) (st' := [.ref 117]) rfl ?_
    refine Q.map (A.gf (gI_of zm156 (e := (45, 3, .getfield 18, [8, 3])) rfl) (hl4.lt (a := 117) (by decide)) (hl4.T (a := 117) (p := (8, 11)) 39 rfl rfl) (by decide) (hl4.R 22 rfl)) ?_
    refine Q.run zm156 1 (i' := 25) (ls' := [some (.ref 117), some (.int x1)]) (st' := [.ref 117, .ref 120]) rfl ?_
    refine Q.map (A.gf (gI_of zm156 (e := (49, 3, .getfield 30, [8, 4])) rfl) (hl4.lt (a := 117) (by decide)) (hl4.T (a := 117) (p := (8, 11)) 39 rfl rfl) (by decide) rfl) ?_
    obtain ⟨hc5, h⟩ := ite_so h
    refine Q.map (A.ba (gI_of zm156 (e := (52, 1, .baload, [])) rfl) (hl4.lt (a := 120) (by decide)) (hl4.T (a := 120) (p := (103, 128)) 42 rfl rfl) (by decide) hc5) ?_
    by_cases hc6 : (sI s2 120 (jN (sI s2 117 4))) = 0
    · rw [if_pos hc6] at h
      refine Q.map (A.zT (gI_of zm156 (e := (53, 3, .ifCond .eq 9, [31])) rfl) (decide_eq_true hc6)) ?_
      cases h
      exact Q.ret (A.rv zm156 (show zM156.2.2.2.2.2[31]? = some (62, 1, .return_, []) from rfl) rfl) hl4
    · rw [if_neg hc6] at h
      refine Q.map (A.zF (gI_of zm156 (e := (53, 3, .ifCond .eq 9, [31])) rfl) (fun q => hc6 (of_decide_eq_true q))) ?_
      refine Q.run zm156 2 (i' := 30) (ls' := [some (.ref 117), some (.int x1)]) (st' := [.int 41, .ref 117]) rfl ?_
      obtain ⟨s9, hc8, h⟩ := bu_so h
      have hq7 : Q 1 sio tt cc d 141 0 [some (.ref 117), some (.int 41)] [] s2 (.inl none, s9) := dt141 (by omega) hl4  hc8
      refine Q.callV (gC_vi zm156 (show zM156.2.2.2.2.2[30]? = some (59, 3, .invokevirtual 72, [0, 141, 1, 8]) from rfl) zm141 (hl4.lt (a := 117) (by decide)) (hl4.T (a := 117) (p := (8, 11)) 39 rfl rfl) rfl (show aCr 1 117 [.int 41, .ref 117] 2 = some ([some (.ref 117), some (.int 41)], []) from rfl)) hq7 ?_
      cases h
      exact Q.ret (A.rv zm156 (show zM156.2.2.2.2.2[31]? = some (62, 1, .return_, []) from rfl) rfl) hq7.1
def dm156 (x1 : Int32) (s : aS) : Option (aS) :=
  if x1 = 9 then
    bu (dm141 37 s) fun s4 =>
    dm156_13 s4
  else
    if x1 = 7 then
      bu (dm141 41 s) fun s8 =>
      dm156_13 s8
    else
      dm156_13 s
set_option maxRecDepth 100000 in
theorem dt156 {sio : Bool} {tt : Nat} {cc : Nat → Nat → Int32} {d : Nat} (hd : 1 ≤ d) {x1 : Int32} {s : aS} (hl : Ly tt cc s) {o : aS} (h : dm156  x1 s = some o) : Q 1 sio tt cc d 156 0 [some (.ref 117), some (.int x1)] [] s (.inl none, o) := by
  unfold dm156 at h
  obtain ⟨d, rfl⟩ : ∃ e, d = e + 1 := ⟨d - 1, by omega⟩
  refine Q.run zm156 2 (i' := 2) (ls' := [some (.ref 117), some (.int x1)]) (st' := [.int 9, .int x1]) rfl ?_
  by_cases hc1 : x1 = 9
  · rw [if_pos hc1] at h
    refine Q.map (A.bF (gI_of zm156 (e := (3, 3, .if_icmp .ne 12, [7])) rfl) (fun q => of_decide_eq_true q hc1)) ?_
    refine Q.run zm156 2 (i' := 5) (ls' := [some (.ref 117), some (.int x1)]) (st' := [.int 37, .ref 117]) rfl ?_
    obtain ⟨s4, hc3, h⟩ := bu_so h
    have hq2 : Q 1 sio tt cc d 141 0 [some (.ref 117), some (.int 37)] [] s (.inl none, s4) := dt141 (by omega) hl  hc3
    refine Q.callV (gC_vi zm156 (show zM156.2.2.2.2.2[5]? = some (9, 3, .invokevirtual 72, [0, 141, 1, 8]) from rfl) zm141 (hl.lt (a := 117) (by decide)) (hl.T (a := 117) (p := (8, 11)) 39 rfl rfl) rfl (show aCr 1 117 [.int 37, .ref 117] 2 = some ([some (.ref 117), some (.int 37)], []) from rfl)) hq2 ?_
    refine Q.run zm156 1 (i' := 13) (ls' := [some (.ref 117), some (.int x1)]) (st' := []) rfl ?_
    exact dt156_13 hd hq2.1  h
  · rw [if_neg hc1] at h
    refine Q.map (A.bT (gI_of zm156 (e := (3, 3, .if_icmp .ne 12, [7])) rfl) (decide_eq_true hc1)) ?_
    refine Q.run zm156 2 (i' := 9) (ls' := [some (.ref 117), some (.int x1)]) (st' := [.int 7, .int x1]) rfl ?_
    by_cases hc5 : x1 = 7
    · rw [if_pos hc5] at h
      refine Q.map (A.bF (gI_of zm156 (e := (18, 3, .if_icmp .ne 9, [13])) rfl) (fun q => of_decide_eq_true q hc5)) ?_
      refine Q.run zm156 2 (i' := 12) (ls' := [some (.ref 117), some (.int x1)]) (st' := [.int 41, .ref 117]) rfl ?_
      obtain ⟨s8, hc7, h⟩ := bu_so h
      have hq6 : Q 1 sio tt cc d 141 0 [some (.ref 117), some (.int 41)] [] s (.inl none, s8) := dt141 (by omega) hl  hc7
      refine Q.callV (gC_vi zm156 (show zM156.2.2.2.2.2[12]? = some (24, 3, .invokevirtual 72, [0, 141, 1, 8]) from rfl) zm141 (hl.lt (a := 117) (by decide)) (hl.T (a := 117) (p := (8, 11)) 39 rfl rfl) rfl (show aCr 1 117 [.int 41, .ref 117] 2 = some ([some (.ref 117), some (.int 41)], []) from rfl)) hq6 ?_
      exact dt156_13 hd hq6.1  h
    · rw [if_neg hc5] at h
      refine Q.map (A.bT (gI_of zm156 (e := (18, 3, .if_icmp .ne 9, [13])) rfl) (decide_eq_true hc5)) ?_
      exact dt156_13 hd hl  h
/-! 157 FormulaTrees$Writer.signBetween(I)Ljava/lang/String; -/
set_option maxRecDepth 100000 in
theorem zm157 : zP[157]? = some zM157 := rfl
def dm157 (x0 : Int32) : Option (Value) :=
  if x0 = 11 then
    some (.ref 47)
  else
    if x0 = 12 then
      some (.ref 49)
    else
      if x0 = 13 then
        some (.ref 51)
      else
        if x0 = 14 then
          some (.ref 53)
        else
          if x0 = 15 then
            some (.ref 55)
          else
            if x0 = 16 then
              some (.ref 57)
            else
              if x0 = 17 then
                some (.ref 59)
              else
                if x0 = 18 then
                  some (.ref 61)
                else
                  if x0 = 19 then
                    some (.ref 63)
                  else
                    if x0 = 20 then
                      some (.ref 65)
                    else
                      if x0 = 21 then
                        some (.ref 67)
                      else
                        some (.ref 69)
set_option maxRecDepth 100000 in
theorem dt157 {sio : Bool} {tt : Nat} {cc : Nat → Nat → Int32} {d : Nat} (hd : 0 ≤ d) {x0 : Int32} {s : aS} (hl : Ly tt cc s) {o : Value} (h : dm157  x0 = some o) : Q 1 sio tt cc d 157 0 [some (.int x0)] [] s (.inl (some o), s) := by
  unfold dm157 at h
  refine Q.run zm157 1 (i' := 1) (ls' := [some (.int x0)]) (st' := [.int x0]) rfl ?_
  by_cases hc1 : x0 = 11
  · rw [if_pos hc1] at h
    refine Q.map (A.ts (gI_of zm157 (e := (1, 59, .tableswitch 92 11 21 #[59, 62, 65, 68, 71, 74, 77, 80, 83, 86, 89], [24, 2, 4, 6, 8, 10, 12, 14, 16, 18, 20, 22])) rfl) (t := 2) (by rw [hc1] <;> decide)) ?_
    refine Q.run zm157 1 (i' := 3) (ls' := [some (.int x0)]) (st' := [.ref 47]) rfl ?_
    cases h
    exact Q.ret (A.ra zm157 (show zM157.2.2.2.2.2[3]? = some (62, 1, .areturn, []) from rfl) rfl rfl rfl) hl
  · rw [if_neg hc1] at h
    by_cases hc2 : x0 = 12
    · rw [if_pos hc2] at h
      refine Q.map (A.ts (gI_of zm157 (e := (1, 59, .tableswitch 92 11 21 #[59, 62, 65, 68, 71, 74, 77, 80, 83, 86, 89], [24, 2, 4, 6, 8, 10, 12, 14, 16, 18, 20, 22])) rfl) (t := 4) (by rw [hc2] <;> decide)) ?_
      refine Q.run zm157 1 (i' := 5) (ls' := [some (.int x0)]) (st' := [.ref 49]) rfl ?_
      cases h
      exact Q.ret (A.ra zm157 (show zM157.2.2.2.2.2[5]? = some (65, 1, .areturn, []) from rfl) rfl rfl rfl) hl
    · rw [if_neg hc2] at h
      by_cases hc3 : x0 = 13
      · rw [if_pos hc3] at h
        refine Q.map (A.ts (gI_of zm157 (e := (1, 59, .tableswitch 92 11 21 #[59, 62, 65, 68, 71, 74, 77, 80, 83, 86, 89], [24, 2, 4, 6, 8, 10, 12, 14, 16, 18, 20, 22])) rfl) (t := 6) (by rw [hc3] <;> decide)) ?_
        refine Q.run zm157 1 (i' := 7) (ls' := [some (.int x0)]) (st' := [.ref 51]) rfl ?_
        cases h
        exact Q.ret (A.ra zm157 (show zM157.2.2.2.2.2[7]? = some (68, 1, .areturn, []) from rfl) rfl rfl rfl) hl
      · rw [if_neg hc3] at h
        by_cases hc4 : x0 = 14
        · rw [if_pos hc4] at h
          refine Q.map (A.ts (gI_of zm157 (e := (1, 59, .tableswitch 92 11 21 #[59, 62, 65, 68, 71, 74, 77, 80, 83, 86, 89], [24, 2, 4, 6, 8, 10, 12, 14, 16, 18, 20, 22])) rfl) (t := 8) (by rw [hc4] <;> decide)) ?_
          refine Q.run zm157 1 (i' := 9) (ls' := [some (.int x0)]) (st' := [.ref 53]) rfl ?_
          cases h
          exact Q.ret (A.ra zm157 (show zM157.2.2.2.2.2[9]? = some (71, 1, .areturn, []) from rfl) rfl rfl rfl) hl
        · rw [if_neg hc4] at h
          by_cases hc5 : x0 = 15
          · rw [if_pos hc5] at h
            refine Q.map (A.ts (gI_of zm157 (e := (1, 59, .tableswitch 92 11 21 #[59, 62, 65, 68, 71, 74, 77, 80, 83, 86, 89], [24, 2, 4, 6, 8, 10, 12, 14, 16, 18, 20, 22])) rfl) (t := 10) (by rw [hc5] <;> decide)) ?_
            refine Q.run zm157 1 (i' := 11) (ls' := [some (.int x0)]) (st' := [.ref 55]) rfl ?_
            cases h
            exact Q.ret (A.ra zm157 (show zM157.2.2.2.2.2[11]? = some (74, 1, .areturn, []) from rfl) rfl rfl rfl) hl
          · rw [if_neg hc5] at h
            by_cases hc6 : x0 = 16
            · rw [if_pos hc6] at h
              refine Q.map (A.ts (gI_of zm157 (e := (1, 59, .tableswitch 92 11 21 #[59, 62, 65, 68, 71, 74, 77, 80, 83, 86, 89], [24, 2, 4, 6, 8, 10, 12, 14, 16, 18, 20, 22])) rfl) (t := 12) (by rw [hc6] <;> decide)) ?_
              refine Q.run zm157 1 (i' := 13) (ls' := [some (.int x0)]) (st' := [.ref 57]) rfl ?_
              cases h
              exact Q.ret (A.ra zm157 (show zM157.2.2.2.2.2[13]? = some (77, 1, .areturn, []) from rfl) rfl rfl rfl) hl
            · rw [if_neg hc6] at h
              by_cases hc7 : x0 = 17
              · rw [if_pos hc7] at h
                refine Q.map (A.ts (gI_of zm157 (e := (1, 59, .tableswitch 92 11 21 #[59, 62, 65, 68, 71, 74, 77, 80, 83, 86, 89], [24, 2, 4, 6, 8, 10, 12, 14, 16, 18, 20, 22])) rfl) (t := 14) (by rw [hc7] <;> decide)) ?_
                refine Q.run zm157 1 (i' := 15) (ls' := [some (.int x0)]) (st' := [.ref 59]) rfl ?_
                cases h
                exact Q.ret (A.ra zm157 (show zM157.2.2.2.2.2[15]? = some (80, 1, .areturn, []) from rfl) rfl rfl rfl) hl
              · rw [if_neg hc7] at h
                by_cases hc8 : x0 = 18
                · rw [if_pos hc8] at h
                  refine Q.map (A.ts (gI_of zm157 (e := (1, 59, .tableswitch 92 11 21 #[59, 62, 65, 68, 71, 74, 77, 80, 83, 86, 89], [24, 2, 4, 6, 8, 10, 12, 14, 16, 18, 20, 22])) rfl) (t := 16) (by rw [hc8] <;> decide)) ?_
                  refine Q.run zm157 1 (i' := 17) (ls' := [some (.int x0)]) (st' := [.ref 61]) rfl ?_
                  cases h
                  exact Q.ret (A.ra zm157 (show zM157.2.2.2.2.2[17]? = some (83, 1, .areturn, []) from rfl) rfl rfl rfl) hl
                · rw [if_neg hc8] at h
                  by_cases hc9 : x0 = 19
                  · rw [if_pos hc9] at h
                    refine Q.map (A.ts (gI_of zm157 (e := (1, 59, .tableswitch 92 11 21 #[59, 62, 65, 68, 71, 74, 77, 80, 83, 86, 89], [24, 2, 4, 6, 8, 10, 12, 14, 16, 18, 20, 22])) rfl) (t := 18) (by rw [hc9] <;> decide)) ?_
                    refine Q.run zm157 1 (i' := 19) (ls' := [some (.int x0)]) (st' := [.ref 63]) rfl ?_
                    cases h
                    exact Q.ret (A.ra zm157 (show zM157.2.2.2.2.2[19]? = some (86, 1, .areturn, []) from rfl) rfl rfl rfl) hl
                  · rw [if_neg hc9] at h
                    by_cases hc10 : x0 = 20
                    · rw [if_pos hc10] at h
                      refine Q.map (A.ts (gI_of zm157 (e := (1, 59, .tableswitch 92 11 21 #[59, 62, 65, 68, 71, 74, 77, 80, 83, 86, 89], [24, 2, 4, 6, 8, 10, 12, 14, 16, 18, 20, 22])) rfl) (t := 20) (by rw [hc10] <;> decide)) ?_
                      refine Q.run zm157 1 (i' := 21) (ls' := [some (.int x0)]) (st' := [.ref 65]) rfl ?_
                      cases h
                      exact Q.ret (A.ra zm157 (show zM157.2.2.2.2.2[21]? = some (89, 1, .areturn, []) from rfl) rfl rfl rfl) hl
                    · rw [if_neg hc10] at h
                      by_cases hc11 : x0 = 21
                      · rw [if_pos hc11] at h
                        refine Q.map (A.ts (gI_of zm157 (e := (1, 59, .tableswitch 92 11 21 #[59, 62, 65, 68, 71, 74, 77, 80, 83, 86, 89], [24, 2, 4, 6, 8, 10, 12, 14, 16, 18, 20, 22])) rfl) (t := 22) (by rw [hc11] <;> decide)) ?_
                        refine Q.run zm157 1 (i' := 23) (ls' := [some (.int x0)]) (st' := [.ref 67]) rfl ?_
                        cases h
                        exact Q.ret (A.ra zm157 (show zM157.2.2.2.2.2[23]? = some (92, 1, .areturn, []) from rfl) rfl rfl rfl) hl
                      · rw [if_neg hc11] at h
                        refine Q.map (A.ts (gI_of zm157 (e := (1, 59, .tableswitch 92 11 21 #[59, 62, 65, 68, 71, 74, 77, 80, 83, 86, 89], [24, 2, 4, 6, 8, 10, 12, 14, 16, 18, 20, 22])) rfl) (t := 24) (by have := (show x0.toInt ≠ 11 ∧ x0.toInt ≠ 12 ∧ x0.toInt ≠ 13 ∧ x0.toInt ≠ 14 ∧ x0.toInt ≠ 15 ∧ x0.toInt ≠ 16 ∧ x0.toInt ≠ 17 ∧ x0.toInt ≠ 18 ∧ x0.toInt ≠ 19 ∧ x0.toInt ≠ 20 ∧ x0.toInt ≠ 21 from ⟨i32_ne (n := 11) hc1 (by decide), i32_ne (n := 12) hc2 (by decide), i32_ne (n := 13) hc3 (by decide), i32_ne (n := 14) hc4 (by decide), i32_ne (n := 15) hc5 (by decide), i32_ne (n := 16) hc6 (by decide), i32_ne (n := 17) hc7 (by decide), i32_ne (n := 18) hc8 (by decide), i32_ne (n := 19) hc9 (by decide), i32_ne (n := 20) hc10 (by decide), i32_ne (n := 21) hc11 (by decide)⟩); rw [if_pos]; omega)) ?_
                        refine Q.run zm157 1 (i' := 25) (ls' := [some (.int x0)]) (st' := [.ref 69]) rfl ?_
                        cases h
                        exact Q.ret (A.ra zm157 (show zM157.2.2.2.2.2[25]? = some (95, 1, .areturn, []) from rfl) rfl rfl rfl) hl
/-! 158 FormulaTrees$Writer.needsBrackets(II)Z -/
set_option maxRecDepth 100000 in
theorem zm158 : zP[158]? = some zM158 := rfl
def dm158_24 (s : aS) : Option (Int32) :=
  some 1
set_option maxRecDepth 100000 in
theorem dt158_24 {sio : Bool} {tt : Nat} {cc : Nat → Nat → Int32} {d : Nat} (hd : 1 ≤ d) {x1 : Int32} {x2 : Int32} {x3 : Int32} {x4 : Int32} {s : aS} (hl : Ly tt cc s) {o : Int32} (h : dm158_24  s = some o) : Q 1 sio tt cc d 158 24 [some (.ref 117), some (.int x1), some (.int x2), some (.int x3), some (.int x4)] [] s (.inl (some (.int o)), s) := by
  unfold dm158_24 at h
  obtain ⟨d, rfl⟩ : ∃ e, d = e + 1 := ⟨d - 1, by omega⟩
  refine Q.run zm158 2 (i' := 27) (ls' := [some (.ref 117), some (.int x1), some (.int x2), some (.int x3), some (.int x4)]) (st' := [.int 1]) rfl ?_
  cases h
  exact Q.ret (A.ri zm158 (show zM158.2.2.2.2.2[27]? = some (51, 1, .ireturn, []) from rfl) rfl rfl) hl
def dm158 (x1 : Int32) (x2 : Int32) (s : aS) : Option (Int32) :=
  if x1 = 7 then
    some 0
  else
    bu (dm85 x1) fun r4 =>
    vN (sR s 117 5) (
      none
    ) fun b6 =>
      if aK s b6 3 then
        bu (dm57 b6 (sI s 117 6) 0 s) fun r10 =>
        bu (dm85 r10) fun r13 =>
        if r13 < r4 then
          dm158_24 s
        else
          if r13 = r4 then
            if x2 ≤ 0 then
              some 0
            else
              dm158_24 s
          else
            some 0
      else none
set_option maxRecDepth 100000 in
theorem dt158 {sio : Bool} {tt : Nat} {cc : Nat → Nat → Int32} {d : Nat} (hd : 1 ≤ d) {x1 : Int32} {x2 : Int32} {s : aS} (hl : Ly tt cc s) {o : Int32} (h : dm158  x1 x2 s = some o) : Q 1 sio tt cc d 158 0 [some (.ref 117), some (.int x1), some (.int x2), none, none] [] s (.inl (some (.int o)), s) := by
  unfold dm158 at h
  obtain ⟨d, rfl⟩ : ∃ e, d = e + 1 := ⟨d - 1, by omega⟩
  refine Q.run zm158 2 (i' := 2) (ls' := [some (.ref 117), some (.int x1), some (.int x2), none, none]) (st' := [.int 7, .int x1]) rfl ?_
  by_cases hc1 : x1 = 7
  · rw [if_pos hc1] at h
    refine Q.map (A.bF (gI_of zm158 (e := (3, 3, .if_icmp .ne 5, [5])) rfl) (fun q => of_decide_eq_true q hc1)) ?_
    refine Q.run zm158 1 (i' := 4) (ls' := [some (.ref 117), some (.int x1), some (.int x2), none, none]) (st' := [.int 0]) rfl ?_
    cases h
    exact Q.ret (A.ri zm158 (show zM158.2.2.2.2.2[4]? = some (7, 1, .ireturn, []) from rfl) rfl rfl) hl
  · rw [if_neg hc1] at h
    refine Q.map (A.bT (gI_of zm158 (e := (3, 3, .if_icmp .ne 5, [5])) rfl) (decide_eq_true hc1)) ?_
    refine Q.run zm158 1 (i' := 6) (ls' := [some (.ref 117), some (.int x1), some (.int x2), none, none]) (st' := [.int x1]) rfl ?_
    obtain ⟨r4, hc3, h⟩ := bu_so h
    have hq2 : Q 1 sio tt cc d 85 0 [some (.int x1)] [] s (.inl (some (.int r4)), s) := dt85 (by omega) hl  hc3
    refine Q.callI (gC_st zm158 (show zM158.2.2.2.2.2[6]? = some (9, 3, .invokestatic 98, [0, 85, 1]) from rfl) zm85 (show aC 1 [.int x1] 1 = some ([some (.int x1)], []) from rfl)) hq2 ?_
    refine Q.run zm158 2 (i' := 9) (ls' := [some (.ref 117), some (.int x1), some (.int x2), some (.int r4), none]) (st' := [.ref 117]) rfl ?_
    rcases vN_so h with ⟨hv5, h⟩ | ⟨b6, hv5, h⟩
    · refine Q.map (A.gf (gI_of zm158 (e := (14, 3, .getfield 26, [8, 5])) rfl) (hl.lt (a := 117) (by decide)) (hl.T (a := 117) (p := (8, 11)) 39 rfl rfl) (by decide) hv5) ?_
      refine Q.run zm158 1 (i' := 11) (ls' := [some (.ref 117), some (.int x1), some (.int x2), some (.int r4), none]) (st' := [.ref 117, .null]) rfl ?_
      refine Q.map (A.gf (gI_of zm158 (e := (18, 3, .getfield 34, [8, 6])) rfl) (hl.lt (a := 117) (by decide)) (hl.T (a := 117) (p := (8, 11)) 39 rfl rfl) (by decide) rfl) ?_
      refine Q.run zm158 1 (i' := 13) (ls' := [some (.ref 117), some (.int x1), some (.int x2), some (.int r4), none]) (st' := [.int 0, .int (sI s 117 6), .null]) rfl ?_
      cases h
    · obtain ⟨hr7, h⟩ := ite_so h
      refine Q.map (A.gf (gI_of zm158 (e := (14, 3, .getfield 26, [8, 5])) rfl) (hl.lt (a := 117) (by decide)) (hl.T (a := 117) (p := (8, 11)) 39 rfl rfl) (by decide) hv5) ?_
      refine Q.run zm158 1 (i' := 11) (ls' := [some (.ref 117), some (.int x1), some (.int x2), some (.int r4), none]) (st' := [.ref 117, .ref b6]) rfl ?_
      refine Q.map (A.gf (gI_of zm158 (e := (18, 3, .getfield 34, [8, 6])) rfl) (hl.lt (a := 117) (by decide)) (hl.T (a := 117) (p := (8, 11)) 39 rfl rfl) (by decide) rfl) ?_
      refine Q.run zm158 1 (i' := 13) (ls' := [some (.ref 117), some (.int x1), some (.int x2), some (.int r4), none]) (st' := [.int 0, .int (sI s 117 6), .ref b6]) rfl ?_
      obtain ⟨r10, hc9, h⟩ := bu_so h
      have hq8 : Q 1 sio tt cc d 57 0 [some (.ref b6), some (.int (sI s 117 6)), some (.int 0), none] [] s (.inl (some (.int r10)), s) := dt57 (by omega) hl hr7 hc9
      refine Q.callI (gC_vi zm158 (show zM158.2.2.2.2.2[13]? = some (22, 3, .invokevirtual 75, [0, 57, 2, 3]) from rfl) zm57 hr7.1 (hl.tr hr7).1 rfl (show aCr 2 b6 [.int 0, .int (sI s 117 6), .ref b6] 4 = some ([some (.ref b6), some (.int (sI s 117 6)), some (.int 0), none], []) from rfl)) hq8 ?_
      obtain ⟨r13, hc12, h⟩ := bu_so h
      have hq11 : Q 1 sio tt cc d 85 0 [some (.int r10)] [] s (.inl (some (.int r13)), s) := dt85 (by omega) hl  hc12
      refine Q.callI (gC_st zm158 (show zM158.2.2.2.2.2[14]? = some (25, 3, .invokestatic 98, [0, 85, 1]) from rfl) zm85 (show aC 1 [.int r10] 1 = some ([some (.int r10)], []) from rfl)) hq11 ?_
      refine Q.run zm158 3 (i' := 18) (ls' := [some (.ref 117), some (.int x1), some (.int x2), some (.int r4), some (.int r13)]) (st' := [.int r4, .int r13]) rfl ?_
      by_cases hc14 : r13 < r4
      · rw [if_pos hc14] at h
        refine Q.map (A.bT (gI_of zm158 (e := (33, 3, .if_icmp .lt 13, [24])) rfl) (decide_eq_true hc14)) ?_
        exact dt158_24 hd hl  h
      · rw [if_neg hc14] at h
        refine Q.map (A.bF (gI_of zm158 (e := (33, 3, .if_icmp .lt 13, [24])) rfl) (fun q => hc14 (of_decide_eq_true q))) ?_
        refine Q.run zm158 2 (i' := 21) (ls' := [some (.ref 117), some (.int x1), some (.int x2), some (.int r4), some (.int r13)]) (st' := [.int r4, .int r13]) rfl ?_
        by_cases hc15 : r13 = r4
        · rw [if_pos hc15] at h
          refine Q.map (A.bF (gI_of zm158 (e := (39, 3, .if_icmp .ne 11, [26])) rfl) (fun q => of_decide_eq_true q hc15)) ?_
          refine Q.run zm158 1 (i' := 23) (ls' := [some (.ref 117), some (.int x1), some (.int x2), some (.int r4), some (.int r13)]) (st' := [.int x2]) rfl ?_
          by_cases hc16 : x2 ≤ 0
          · rw [if_pos hc16] at h
            refine Q.map (A.zT (gI_of zm158 (e := (43, 3, .ifCond .le 7, [26])) rfl) (decide_eq_true hc16)) ?_
            refine Q.run zm158 1 (i' := 27) (ls' := [some (.ref 117), some (.int x1), some (.int x2), some (.int r4), some (.int r13)]) (st' := [.int 0]) rfl ?_
            cases h
            exact Q.ret (A.ri zm158 (show zM158.2.2.2.2.2[27]? = some (51, 1, .ireturn, []) from rfl) rfl rfl) hl
          · rw [if_neg hc16] at h
            refine Q.map (A.zF (gI_of zm158 (e := (43, 3, .ifCond .le 7, [26])) rfl) (fun q => hc16 (of_decide_eq_true q))) ?_
            exact dt158_24 hd hl  h
        · rw [if_neg hc15] at h
          refine Q.map (A.bT (gI_of zm158 (e := (39, 3, .if_icmp .ne 11, [26])) rfl) (decide_eq_true hc15)) ?_
          refine Q.run zm158 1 (i' := 27) (ls' := [some (.ref 117), some (.int x1), some (.int x2), some (.int r4), some (.int r13)]) (st' := [.int 0]) rfl ?_
          cases h
          exact Q.ret (A.ri zm158 (show zM158.2.2.2.2.2[27]? = some (51, 1, .ireturn, []) from rfl) rfl rfl) hl
/-! 155 FormulaTrees$Writer.goOn(II)V -/
set_option maxRecDepth 100000 in
theorem zm155 : zP[155]? = some zM155 := rfl
def dm155_28 (x2 : Int32) (x3 : Int32) (s : aS) : Option (aS) :=
  bu (dm158 x3 x2 s) fun r3 =>
  bu (dm140 r3 s) fun s6 =>
  some s6
set_option maxRecDepth 100000 in
theorem dt155_28 {sio : Bool} {tt : Nat} {cc : Nat → Nat → Int32} {d : Nat} (hd : 5 ≤ d) {x2 : Int32} {x3 : Int32} {x1 : Int32} {s : aS} (hl : Ly tt cc s) {o : aS} (h : dm155_28  x2 x3 s = some o) : Q 1 sio tt cc d 155 28 [some (.ref 117), some (.int x1), some (.int x2), some (.int x3)] [] s (.inl none, o) := by
  unfold dm155_28 at h
  obtain ⟨d, rfl⟩ : ∃ e, d = e + 1 := ⟨d - 1, by omega⟩
  refine Q.run zm155 4 (i' := 32) (ls' := [some (.ref 117), some (.int x1), some (.int x2), some (.int x3)]) (st' := [.int x2, .int x3, .ref 117, .ref 117]) rfl ?_
  obtain ⟨r3, hc2, h⟩ := bu_so h
  have hq1 : Q 1 sio tt cc d 158 0 [some (.ref 117), some (.int x3), some (.int x2), none, none] [] s (.inl (some (.int r3)), s) := dt158 (by omega) hl  hc2
  refine Q.callI (gC_vi zm155 (show zM155.2.2.2.2.2[32]? = some (56, 3, .invokevirtual 94, [0, 158, 2, 8]) from rfl) zm158 (hl.lt (a := 117) (by decide)) (hl.T (a := 117) (p := (8, 11)) 39 rfl rfl) rfl (show aCr 2 117 [.int x2, .int x3, .ref 117, .ref 117] 5 = some ([some (.ref 117), some (.int x3), some (.int x2), none, none], [.ref 117]) from rfl)) hq1 ?_
  obtain ⟨s6, hc5, h⟩ := bu_so h
  have hq4 : Q 1 sio tt cc d 140 0 [some (.ref 117), some (.int r3)] [] s (.inl none, s6) := dt140 (by omega) hl  hc5
  refine Q.callV (gC_vi zm155 (show zM155.2.2.2.2.2[33]? = some (59, 3, .invokevirtual 46, [0, 140, 1, 8]) from rfl) zm140 (hl.lt (a := 117) (by decide)) (hl.T (a := 117) (p := (8, 11)) 39 rfl rfl) rfl (show aCr 1 117 [.int r3, .ref 117] 2 = some ([some (.ref 117), some (.int r3)], []) from rfl)) hq4 ?_
  cases h
  exact Q.ret (A.rv zm155 (show zM155.2.2.2.2.2[34]? = some (62, 1, .return_, []) from rfl) rfl) hq4.1
def dm155_27 (x2 : Int32) (x3 : Int32) (c1 : Nat) (s : aS) : Option (aS) :=
  bu (dm147 c1 s) fun s3 =>
  dm155_28 x2 x3 s3
set_option maxRecDepth 100000 in
theorem dt155_27 {sio : Bool} {tt : Nat} {cc : Nat → Nat → Int32} {d : Nat} (hd : 5 ≤ d) {x2 : Int32} {x3 : Int32} {c1 : Nat} {x1 : Int32} {s : aS} (hl : Ly tt cc s) (hk_c1 : aK s c1 70) {o : aS} (h : dm155_27  x2 x3 c1 s = some o) : Q 1 sio tt cc d 155 27 [some (.ref 117), some (.int x1), some (.int x2), some (.int x3)] [.ref c1, .ref 117] s (.inl none, o) := by
  unfold dm155_27 at h
  obtain ⟨d, rfl⟩ : ∃ e, d = e + 1 := ⟨d - 1, by omega⟩
  obtain ⟨s3, hc2, h⟩ := bu_so h
  have hq1 : Q 1 sio tt cc d 147 0 [some (.ref 117), some (.ref c1), none] [] s (.inl none, s3) := dt147 (by omega) hl hk_c1 hc2
  refine Q.callV (gC_vi zm155 (show zM155.2.2.2.2.2[27]? = some (49, 3, .invokevirtual 90, [0, 147, 1, 8]) from rfl) zm147 (hl.lt (a := 117) (by decide)) (hl.T (a := 117) (p := (8, 11)) 39 rfl rfl) rfl (show aCr 1 117 [.ref c1, .ref 117] 3 = some ([some (.ref 117), some (.ref c1), none], []) from rfl)) hq1 ?_
  have hr4 : aK s3 c1 70 := hq1.2.1.k hk_c1
  exact dt155_28 hd hq1.1  h
def dm155 (x1 : Int32) (x2 : Int32) (s : aS) : Option (aS) :=
  vN (sR s 117 5) (
    none
  ) fun b2 =>
    if aK s b2 3 then
      bu (dm57 b2 x1 0 s) fun r6 =>
      vN (sR s 117 5) (
        none
      ) fun b8 =>
        if aK s b8 3 then
          bu (dm57 b8 x1 1 s) fun r12 =>
          if x2 < r12 then
            if x2 ≤ 0 then
              dm155_28 x2 r6 s
            else
              if r6 = 7 then
                dm155_27 x2 r6 45 s
              else
                bu (dm157 r6) fun r18 =>
                vR r18 fun b19 =>
                if aK s b19 70 then
                  dm155_27 x2 r6 b19 s
                else none
          else
            bu (dm156 r6 s) fun s24 =>
            some s24
        else none
    else none
set_option maxRecDepth 100000 in
theorem dt155 {sio : Bool} {tt : Nat} {cc : Nat → Nat → Int32} {d : Nat} (hd : 5 ≤ d) {x1 : Int32} {x2 : Int32} {s : aS} (hl : Ly tt cc s) {o : aS} (h : dm155  x1 x2 s = some o) : Q 1 sio tt cc d 155 0 [some (.ref 117), some (.int x1), some (.int x2), none] [] s (.inl none, o) := by
  unfold dm155 at h
  obtain ⟨d, rfl⟩ : ∃ e, d = e + 1 := ⟨d - 1, by omega⟩
  refine Q.run zm155 1 (i' := 1) (ls' := [some (.ref 117), some (.int x1), some (.int x2), none]) (st' := [.ref 117]) rfl ?_
  rcases vN_so h with ⟨hv1, h⟩ | ⟨b2, hv1, h⟩
  · refine Q.map (A.gf (gI_of zm155 (e := (1, 3, .getfield 26, [8, 5])) rfl) (hl.lt (a := 117) (by decide)) (hl.T (a := 117) (p := (8, 11)) 39 rfl rfl) (by decide) hv1) ?_
    refine Q.run zm155 2 (i' := 4) (ls' := [some (.ref 117), some (.int x1), some (.int x2), none]) (st' := [.int 0, .int x1, .null]) rfl ?_
    cases h
  · obtain ⟨hr3, h⟩ := ite_so h
    refine Q.map (A.gf (gI_of zm155 (e := (1, 3, .getfield 26, [8, 5])) rfl) (hl.lt (a := 117) (by decide)) (hl.T (a := 117) (p := (8, 11)) 39 rfl rfl) (by decide) hv1) ?_
    refine Q.run zm155 2 (i' := 4) (ls' := [some (.ref 117), some (.int x1), some (.int x2), none]) (st' := [.int 0, .int x1, .ref b2]) rfl ?_
    obtain ⟨r6, hc5, h⟩ := bu_so h
    have hq4 : Q 1 sio tt cc d 57 0 [some (.ref b2), some (.int x1), some (.int 0), none] [] s (.inl (some (.int r6)), s) := dt57 (by omega) hl hr3 hc5
    refine Q.callI (gC_vi zm155 (show zM155.2.2.2.2.2[4]? = some (6, 3, .invokevirtual 75, [0, 57, 2, 3]) from rfl) zm57 hr3.1 (hl.tr hr3).1 rfl (show aCr 2 b2 [.int 0, .int x1, .ref b2] 4 = some ([some (.ref b2), some (.int x1), some (.int 0), none], []) from rfl)) hq4 ?_
    refine Q.run zm155 3 (i' := 8) (ls' := [some (.ref 117), some (.int x1), some (.int x2), some (.int r6)]) (st' := [.ref 117, .int x2]) rfl ?_
    rcases vN_so h with ⟨hv7, h⟩ | ⟨b8, hv7, h⟩
    · refine Q.map (A.gf (gI_of zm155 (e := (12, 3, .getfield 26, [8, 5])) rfl) (hl.lt (a := 117) (by decide)) (hl.T (a := 117) (p := (8, 11)) 39 rfl rfl) (by decide) hv7) ?_
      refine Q.run zm155 2 (i' := 11) (ls' := [some (.ref 117), some (.int x1), some (.int x2), some (.int r6)]) (st' := [.int 1, .int x1, .null, .int x2]) rfl ?_
      cases h
    · obtain ⟨hr9, h⟩ := ite_so h
      refine Q.map (A.gf (gI_of zm155 (e := (12, 3, .getfield 26, [8, 5])) rfl) (hl.lt (a := 117) (by decide)) (hl.T (a := 117) (p := (8, 11)) 39 rfl rfl) (by decide) hv7) ?_
      refine Q.run zm155 2 (i' := 11) (ls' := [some (.ref 117), some (.int x1), some (.int x2), some (.int r6)]) (st' := [.int 1, .int x1, .ref b8, .int x2]) rfl ?_
      obtain ⟨r12, hc11, h⟩ := bu_so h
      have hq10 : Q 1 sio tt cc d 57 0 [some (.ref b8), some (.int x1), some (.int 1), none] [] s (.inl (some (.int r12)), s) := dt57 (by omega) hl hr9 hc11
      refine Q.callI (gC_vi zm155 (show zM155.2.2.2.2.2[11]? = some (17, 3, .invokevirtual 75, [0, 57, 2, 3]) from rfl) zm57 hr9.1 (hl.tr hr9).1 rfl (show aCr 2 b8 [.int 1, .int x1, .ref b8, .int x2] 4 = some ([some (.ref b8), some (.int x1), some (.int 1), none], [.int x2]) from rfl)) hq10 ?_
      by_cases hc13 : x2 < r12
      · rw [if_pos hc13] at h
        refine Q.map (A.bT (gI_of zm155 (e := (20, 3, .if_icmp .lt 9, [17])) rfl) (decide_eq_true hc13)) ?_
        refine Q.run zm155 1 (i' := 18) (ls' := [some (.ref 117), some (.int x1), some (.int x2), some (.int r6)]) (st' := [.int x2]) rfl ?_
        by_cases hc14 : x2 ≤ 0
        · rw [if_pos hc14] at h
          refine Q.map (A.zT (gI_of zm155 (e := (30, 3, .ifCond .le 22, [28])) rfl) (decide_eq_true hc14)) ?_
          exact dt155_28 hd hl  h
        · rw [if_neg hc14] at h
          refine Q.map (A.zF (gI_of zm155 (e := (30, 3, .ifCond .le 22, [28])) rfl) (fun q => hc14 (of_decide_eq_true q))) ?_
          refine Q.run zm155 3 (i' := 22) (ls' := [some (.ref 117), some (.int x1), some (.int x2), some (.int r6)]) (st' := [.int 7, .int r6, .ref 117]) rfl ?_
          by_cases hc15 : r6 = 7
          · rw [if_pos hc15] at h
            refine Q.map (A.bF (gI_of zm155 (e := (37, 3, .if_icmp .ne 8, [25])) rfl) (fun q => of_decide_eq_true q hc15)) ?_
            refine Q.run zm155 2 (i' := 27) (ls' := [some (.ref 117), some (.int x1), some (.int x2), some (.int r6)]) (st' := [.ref 45, .ref 117]) rfl ?_
            exact dt155_27 hd hl (hl.lowK (a := 45) (c := 70) (by decide) (by decide)) h
          · rw [if_neg hc15] at h
            refine Q.map (A.bT (gI_of zm155 (e := (37, 3, .if_icmp .ne 8, [25])) rfl) (decide_eq_true hc15)) ?_
            refine Q.run zm155 1 (i' := 26) (ls' := [some (.ref 117), some (.int x1), some (.int x2), some (.int r6)]) (st' := [.int r6, .ref 117]) rfl ?_
            obtain ⟨r18, hc17, h⟩ := bu_so h
            have hq16 : Q 1 sio tt cc d 157 0 [some (.int r6)] [] s (.inl (some r18), s) := dt157 (by omega) hl  hc17
            obtain ⟨b19, hv20, h9⟩ := vR_so h
            clear h
            subst hv20
            have h := h9
            obtain ⟨hr21, h⟩ := ite_so h
            refine Q.callR (gC_st zm155 (show zM155.2.2.2.2.2[26]? = some (46, 3, .invokestatic 86, [0, 157, 1]) from rfl) zm157 (show aC 1 [.int r6, .ref 117] 1 = some ([some (.int r6)], [.ref 117]) from rfl)) hq16 ?_
            exact dt155_27 hd hl hr21 h
      · rw [if_neg hc13] at h
        refine Q.map (A.bF (gI_of zm155 (e := (20, 3, .if_icmp .lt 9, [17])) rfl) (fun q => hc13 (of_decide_eq_true q))) ?_
        refine Q.run zm155 2 (i' := 15) (ls' := [some (.ref 117), some (.int x1), some (.int x2), some (.int r6)]) (st' := [.int r6, .ref 117]) rfl ?_
        obtain ⟨s24, hc23, h⟩ := bu_so h
        have hq22 : Q 1 sio tt cc d 156 0 [some (.ref 117), some (.int r6)] [] s (.inl none, s24) := dt156 (by omega) hl  hc23
        refine Q.callV (gC_vi zm155 (show zM155.2.2.2.2.2[15]? = some (25, 3, .invokevirtual 81, [0, 156, 1, 8]) from rfl) zm156 (hl.lt (a := 117) (by decide)) (hl.T (a := 117) (p := (8, 11)) 39 rfl rfl) rfl (show aCr 1 117 [.int r6, .ref 117] 2 = some ([some (.ref 117), some (.int r6)], []) from rfl)) hq22 ?_
        have hr25 : aK s24 b2 3 := hq22.2.1.k hr3
        have hr26 : aK s24 b8 3 := hq22.2.1.k hr9
        cases h
        exact Q.ret (A.rv zm155 (show zM155.2.2.2.2.2[16]? = some (28, 1, .return_, []) from rfl) rfl) hq22.1
/-! 139 FormulaTrees$Writer.character(LFormulaTrees$Tree;I)I -/
set_option maxRecDepth 100000 in
theorem zm139 : zP[139]? = some zM139 := rfl
def dm139_66 (k23 : Int32 → aS → Option (Int32 × aS)) (x3 : Int32) (s : aS) : Option (Int32 × aS) :=
  k23 (x3 + 1) s
set_option maxRecDepth 100000 in
theorem dt139_66 {sio : Bool} {tt : Nat} {cc : Nat → Nat → Int32} {d : Nat} (hd : 6 ≤ d) {k23 : Int32 → aS → Option (Int32 × aS)} (hk23 : ∀ {x3 : Int32} {b1 : Nat} {x2 : Int32} {s : aS}, Ly tt cc s → ∀ {o : Int32 × aS}, k23 x3 s = some o → Q 1 sio tt cc d 139 23 [some (.ref 117), some (.ref b1), some (.int x2), some (.int x3)] [] s (.inl (some (.int o.1)), o.2)) {x3 : Int32} {b1 : Nat} {x2 : Int32} {s : aS} (hl : Ly tt cc s) {o : Int32 × aS} (h : dm139_66 k23 x3 s = some o) : Q 1 sio tt cc d 139 66 [some (.ref 117), some (.ref b1), some (.int x2), some (.int x3)] [] s (.inl (some (.int o.1)), o.2) := by
  unfold dm139_66 at h
  obtain ⟨d, rfl⟩ : ∃ e, d = e + 1 := ⟨d - 1, by omega⟩
  refine Q.run zm139 2 (i' := 23) (ls' := [some (.ref 117), some (.ref b1), some (.int x2), some (.int (x3 + 1))]) (st' := []) rfl ?_
  exact hk23 hl  h
def dm139_23 : Nat → Int32 → aS → Option (Int32 × aS)
  | 0, _, _ => none
  | n + 1, x3, s =>
    if 384 ≤ x3 then
      some (sI s 117 10, s)
    else
      if (sI s 117 4) ≤ 0 then
        some (sI s 117 10, s)
      else
        if (sI s 117 9) < (sI s 117 8) then
          some (sI s 117 10, s)
        else
          if (sI s 117 7) = 0 then
            if aB ((sI s 117 4) - 1) 128 then
              if aB ((sI s 117 4) - 1) 128 then
                bu (dm155 (sI s 118 (jN ((sI s 117 4) - 1))) (sI s 119 (jN ((sI s 117 4) - 1))) s) fun s9 =>
                dm139_66 (dm139_23 n) x3 s9
              else none
            else none
          else
            nx (wI s 117 7 0) fun s10 =>
            if aB ((sI s10 117 4) - 1) 128 then
              bu (dm142 (sI s10 118 (jN ((sI s10 117 4) - 1))) s10) fun s16 =>
              dm139_66 (dm139_23 n) x3 s16
            else none
set_option maxRecDepth 100000 in
theorem dt139_23 {sio : Bool} {tt : Nat} {cc : Nat → Nat → Int32} {d : Nat} (hd : 6 ≤ d) : ∀ (n : Nat) {x3 : Int32} {b1 : Nat} {x2 : Int32} {s : aS} (_ : Ly tt cc s) {o : Int32 × aS} (_ : dm139_23  n x3 s = some o), Q 1 sio tt cc d 139 23 [some (.ref 117), some (.ref b1), some (.int x2), some (.int x3)] [] s (.inl (some (.int o.1)), o.2) := by
  obtain ⟨d, rfl⟩ : ∃ e, d = e + 1 := ⟨d - 1, by omega⟩
  intro n
  induction n with
  | zero => intro x3 b1 x2 s hl o h; rw [dm139_23] at h; cases h
  | succ n ih =>
    intro x3 b1 x2 s hl o h
    rw [dm139_23] at h
    refine Q.run zm139 2 (i' := 25) (ls' := [some (.ref 117), some (.ref b1), some (.int x2), some (.int x3)]) (st' := [.int 384, .int x3]) rfl ?_
    by_cases hc1 : 384 ≤ x3
    · rw [if_pos hc1] at h
      refine Q.map (A.bT (gI_of zm139 (e := (41, 3, .if_icmp .ge 83, [68])) rfl) (decide_eq_true hc1)) ?_
      refine Q.run zm139 1 (i' := 69) (ls' := [some (.ref 117), some (.ref b1), some (.int x2), some (.int x3)]) (st' := [.ref 117]) rfl ?_
      refine Q.map (A.gf (gI_of zm139 (e := (125, 3, .getfield 43, [8, 10])) rfl) (hl.lt (a := 117) (by decide)) (hl.T (a := 117) (p := (8, 11)) 39 rfl rfl) (by decide) rfl) ?_
      cases h
      exact Q.ret (A.ri zm139 (show zM139.2.2.2.2.2[70]? = some (128, 1, .ireturn, []) from rfl) rfl rfl) hl
    · rw [if_neg hc1] at h
      refine Q.map (A.bF (gI_of zm139 (e := (41, 3, .if_icmp .ge 83, [68])) rfl) (fun q => hc1 (of_decide_eq_true q))) ?_
      refine Q.run zm139 1 (i' := 27) (ls' := [some (.ref 117), some (.ref b1), some (.int x2), some (.int x3)]) (st' := [.ref 117]) rfl ?_
      refine Q.map (A.gf (gI_of zm139 (e := (45, 3, .getfield 30, [8, 4])) rfl) (hl.lt (a := 117) (by decide)) (hl.T (a := 117) (p := (8, 11)) 39 rfl rfl) (by decide) rfl) ?_
      by_cases hc2 : (sI s 117 4) ≤ 0
      · rw [if_pos hc2] at h
        refine Q.map (A.zT (gI_of zm139 (e := (48, 3, .ifCond .le 76, [68])) rfl) (decide_eq_true hc2)) ?_
        refine Q.run zm139 1 (i' := 69) (ls' := [some (.ref 117), some (.ref b1), some (.int x2), some (.int x3)]) (st' := [.ref 117]) rfl ?_
        refine Q.map (A.gf (gI_of zm139 (e := (125, 3, .getfield 43, [8, 10])) rfl) (hl.lt (a := 117) (by decide)) (hl.T (a := 117) (p := (8, 11)) 39 rfl rfl) (by decide) rfl) ?_
        cases h
        exact Q.ret (A.ri zm139 (show zM139.2.2.2.2.2[70]? = some (128, 1, .ireturn, []) from rfl) rfl rfl) hl
      · rw [if_neg hc2] at h
        refine Q.map (A.zF (gI_of zm139 (e := (48, 3, .ifCond .le 76, [68])) rfl) (fun q => hc2 (of_decide_eq_true q))) ?_
        refine Q.run zm139 1 (i' := 30) (ls' := [some (.ref 117), some (.ref b1), some (.int x2), some (.int x3)]) (st' := [.ref 117]) rfl ?_
        refine Q.map (A.gf (gI_of zm139 (e := (52, 3, .getfield 37, [8, 8])) rfl) (hl.lt (a := 117) (by decide)) (hl.T (a := 117) (p := (8, 11)) 39 rfl rfl) (by decide) rfl) ?_
        refine Q.run zm139 1 (i' := 32) (ls' := [some (.ref 117), some (.ref b1), some (.int x2), some (.int x3)]) (st' := [.ref 117, .int (sI s 117 8)]) rfl ?_
        refine Q.map (A.gf (gI_of zm139 (e := (56, 3, .getfield 40, [8, 9])) rfl) (hl.lt (a := 117) (by decide)) (hl.T (a := 117) (p := (8, 11)) 39 rfl rfl) (by decide) rfl) ?_
        by_cases hc3 : (sI s 117 9) < (sI s 117 8)
        · rw [if_pos hc3] at h
          refine Q.map (A.bT (gI_of zm139 (e := (59, 3, .if_icmp .gt 65, [68])) rfl) (decide_eq_true hc3)) ?_
          refine Q.run zm139 1 (i' := 69) (ls' := [some (.ref 117), some (.ref b1), some (.int x2), some (.int x3)]) (st' := [.ref 117]) rfl ?_
          refine Q.map (A.gf (gI_of zm139 (e := (125, 3, .getfield 43, [8, 10])) rfl) (hl.lt (a := 117) (by decide)) (hl.T (a := 117) (p := (8, 11)) 39 rfl rfl) (by decide) rfl) ?_
          cases h
          exact Q.ret (A.ri zm139 (show zM139.2.2.2.2.2[70]? = some (128, 1, .ireturn, []) from rfl) rfl rfl) hl
        · rw [if_neg hc3] at h
          refine Q.map (A.bF (gI_of zm139 (e := (59, 3, .if_icmp .gt 65, [68])) rfl) (fun q => hc3 (of_decide_eq_true q))) ?_
          refine Q.run zm139 1 (i' := 35) (ls' := [some (.ref 117), some (.ref b1), some (.int x2), some (.int x3)]) (st' := [.ref 117]) rfl ?_
          refine Q.map (A.gf (gI_of zm139 (e := (63, 3, .getfield 50, [8, 7])) rfl) (hl.lt (a := 117) (by decide)) (hl.T (a := 117) (p := (8, 11)) 39 rfl rfl) (by decide) rfl) ?_
          by_cases hc4 : (sI s 117 7) = 0
          · rw [if_pos hc4] at h
            refine Q.map (A.zT (gI_of zm139 (e := (66, 3, .ifCond .eq 26, [50])) rfl) (decide_eq_true hc4)) ?_
            refine Q.run zm139 2 (i' := 52) (ls' := [some (.ref 117), some (.ref b1), some (.int x2), some (.int x3)]) (st' := [.ref 117, .ref 117]) rfl ?_
            refine Q.map (A.gf (gI_of zm139 (e := (94, 3, .getfield 9, [8, 1])) rfl) (hl.lt (a := 117) (by decide)) (hl.T (a := 117) (p := (8, 11)) 39 rfl rfl) (by decide) (hl.R 20 rfl)) ?_
            refine Q.run zm139 1 (i' := 54) (ls' := [some (.ref 117), some (.ref b1), some (.int x2), some (.int x3)]) (st' := [.ref 117, .ref 118, .ref 117]) rfl ?_
            refine Q.map (A.gf (gI_of zm139 (e := (98, 3, .getfield 30, [8, 4])) rfl) (hl.lt (a := 117) (by decide)) (hl.T (a := 117) (p := (8, 11)) 39 rfl rfl) (by decide) rfl) ?_
            refine Q.run zm139 2 (i' := 57) (ls' := [some (.ref 117), some (.ref b1), some (.int x2), some (.int x3)]) (st' := [.int ((sI s 117 4) - 1), .ref 118, .ref 117]) rfl ?_
            obtain ⟨hc5, h⟩ := ite_so h
            refine Q.map (A.ia (gI_of zm139 (e := (103, 1, .iaload, [])) rfl) (hl.lt (a := 118) (by decide)) (hl.T (a := 118) (p := (100, 128)) 40 rfl rfl) hc5) ?_
            refine Q.run zm139 1 (i' := 59) (ls' := [some (.ref 117), some (.ref b1), some (.int x2), some (.int x3)]) (st' := [.ref 117, .int (sI s 118 (jN ((sI s 117 4) - 1))), .ref 117]) rfl ?_
            refine Q.map (A.gf (gI_of zm139 (e := (105, 3, .getfield 15, [8, 2])) rfl) (hl.lt (a := 117) (by decide)) (hl.T (a := 117) (p := (8, 11)) 39 rfl rfl) (by decide) (hl.R 21 rfl)) ?_
            refine Q.run zm139 1 (i' := 61) (ls' := [some (.ref 117), some (.ref b1), some (.int x2), some (.int x3)]) (st' := [.ref 117, .ref 119, .int (sI s 118 (jN ((sI s 117 4) - 1))), .ref 117]) rfl ?_
            refine Q.map (A.gf (gI_of zm139 (e := (109, 3, .getfield 30, [8, 4])) rfl) (hl.lt (a := 117) (by decide)) (hl.T (a := 117) (p := (8, 11)) 39 rfl rfl) (by decide) rfl) ?_
            refine Q.run zm139 2 (i' := 64) (ls' := [some (.ref 117), some (.ref b1), some (.int x2), some (.int x3)]) (st' := [.int ((sI s 117 4) - 1), .ref 119, .int (sI s 118 (jN ((sI s 117 4) - 1))), .ref 117]) rfl ?_
            obtain ⟨hc6, h⟩ := ite_so h
            refine Q.map (A.ia (gI_of zm139 (e := (114, 1, .iaload, [])) rfl) (hl.lt (a := 119) (by decide)) (hl.T (a := 119) (p := (100, 128)) 41 rfl rfl) hc6) ?_
            obtain ⟨s9, hc8, h⟩ := bu_so h
            have hq7 : Q 1 sio tt cc d 155 0 [some (.ref 117), some (.int (sI s 118 (jN ((sI s 117 4) - 1)))), some (.int (sI s 119 (jN ((sI s 117 4) - 1)))), none] [] s (.inl none, s9) := dt155 (by omega) hl  hc8
            refine Q.callV (gC_vi zm139 (show zM139.2.2.2.2.2[65]? = some (115, 3, .invokevirtual 58, [0, 155, 2, 8]) from rfl) zm155 (hl.lt (a := 117) (by decide)) (hl.T (a := 117) (p := (8, 11)) 39 rfl rfl) rfl (show aCr 2 117 [.int (sI s 119 (jN ((sI s 117 4) - 1))), .int (sI s 118 (jN ((sI s 117 4) - 1))), .ref 117] 4 = some ([some (.ref 117), some (.int (sI s 118 (jN ((sI s 117 4) - 1)))), some (.int (sI s 119 (jN ((sI s 117 4) - 1)))), none], []) from rfl)) hq7 ?_
            exact dt139_66 hd ih hq7.1  h
          · rw [if_neg hc4] at h
            refine Q.map (A.zF (gI_of zm139 (e := (66, 3, .ifCond .eq 26, [50])) rfl) (fun q => hc4 (of_decide_eq_true q))) ?_
            refine Q.run zm139 2 (i' := 39) (ls' := [some (.ref 117), some (.ref b1), some (.int x2), some (.int x3)]) (st' := [.int 0, .ref 117]) rfl ?_
            obtain ⟨s10, hs11, h⟩ := nx_so h
            refine Q.pf hs11 rfl (gI_of zm139 (e := (71, 3, .putfield 50, [8, 7, 1])) rfl) (hl.lt (a := 117) (by decide)) (by decide) (hl.T (a := 117) (p := (8, 11)) 39 rfl rfl) (by decide) rfl rfl ?_
            have hl12 : Ly tt cc s10 := by rw [hs11]; exact hl.wId (by decide)
            refine Q.run zm139 2 (i' := 42) (ls' := [some (.ref 117), some (.ref b1), some (.int x2), some (.int x3)]) (st' := [.ref 117, .ref 117]) rfl ?_
            refine Q.map (A.gf (gI_of zm139 (e := (76, 3, .getfield 9, [8, 1])) rfl) (hl12.lt (a := 117) (by decide)) (hl12.T (a := 117) (p := (8, 11)) 39 rfl rfl) (by decide) (hl12.R 20 rfl)) ?_
            refine Q.run zm139 1 (i' := 44) (ls' := [some (.ref 117), some (.ref b1), some (.int x2), some (.int x3)]) (st' := [.ref 117, .ref 118, .ref 117]) rfl ?_
            refine Q.map (A.gf (gI_of zm139 (e := (80, 3, .getfield 30, [8, 4])) rfl) (hl12.lt (a := 117) (by decide)) (hl12.T (a := 117) (p := (8, 11)) 39 rfl rfl) (by decide) rfl) ?_
            refine Q.run zm139 2 (i' := 47) (ls' := [some (.ref 117), some (.ref b1), some (.int x2), some (.int x3)]) (st' := [.int ((sI s10 117 4) - 1), .ref 118, .ref 117]) rfl ?_
            obtain ⟨hc13, h⟩ := ite_so h
            refine Q.map (A.ia (gI_of zm139 (e := (85, 1, .iaload, [])) rfl) (hl12.lt (a := 118) (by decide)) (hl12.T (a := 118) (p := (100, 128)) 40 rfl rfl) hc13) ?_
            obtain ⟨s16, hc15, h⟩ := bu_so h
            have hq14 : Q 1 sio tt cc d 142 0 [some (.ref 117), some (.int (sI s10 118 (jN ((sI s10 117 4) - 1))))] [] s10 (.inl none, s16) := dt142 (by omega) hl12  hc15
            refine Q.callV (gC_vi zm139 (show zM139.2.2.2.2.2[48]? = some (86, 3, .invokevirtual 54, [0, 142, 1, 8]) from rfl) zm142 (hl12.lt (a := 117) (by decide)) (hl12.T (a := 117) (p := (8, 11)) 39 rfl rfl) rfl (show aCr 1 117 [.int (sI s10 118 (jN ((sI s10 117 4) - 1))), .ref 117] 2 = some ([some (.ref 117), some (.int (sI s10 118 (jN ((sI s10 117 4) - 1))))], []) from rfl)) hq14 ?_
            refine Q.run zm139 1 (i' := 66) (ls' := [some (.ref 117), some (.ref b1), some (.int x2), some (.int x3)]) (st' := []) rfl ?_
            exact dt139_66 hd ih hq14.1  h
def dm139 (b1 : Nat) (x2 : Int32) (s : aS) : Option (Int32 × aS) :=
  nx (wR s 117 5 (.ref b1)) fun s1 =>
  nx (wI s1 117 4 0) fun s5 =>
  nx (wI s5 117 6 0) fun s9 =>
  nx (wI s9 117 8 0) fun s13 =>
  nx (wI s13 117 9 x2) fun s17 =>
  nx (wI s17 117 10 (-1)) fun s21 =>
  bu (dm140 0 s21) fun s27 =>
  dm139_23 5000 0 s27
set_option maxRecDepth 100000 in
theorem dt139 {sio : Bool} {tt : Nat} {cc : Nat → Nat → Int32} {d : Nat} (hd : 6 ≤ d) {b1 : Nat} {x2 : Int32} {s : aS} (hl : Ly tt cc s) (hk_b1 : aK s b1 3) {o : Int32 × aS} (h : dm139  b1 x2 s = some o) : Q 1 sio tt cc d 139 0 [some (.ref 117), some (.ref b1), some (.int x2), none] [] s (.inl (some (.int o.1)), o.2) := by
  unfold dm139 at h
  obtain ⟨d, rfl⟩ : ∃ e, d = e + 1 := ⟨d - 1, by omega⟩
  refine Q.run zm139 2 (i' := 2) (ls' := [some (.ref 117), some (.ref b1), some (.int x2), none]) (st' := [.ref b1, .ref 117]) rfl ?_
  obtain ⟨s1, hs2, h⟩ := nx_so h
  refine Q.pr hs2 rfl (gI_of zm139 (e := (2, 3, .putfield 26, [8, 5, 2])) rfl) (hl.lt (a := 117) (by decide)) (by decide) (hl.T (a := 117) (p := (8, 11)) 39 rfl rfl) (by decide) rfl rfl ?_
  have hl3 : Ly tt cc s1 := by rw [hs2]; exact hl.wRd (hl.T (a := 117) (p := (8, 11)) 39 rfl rfl) (by decide) (by decide)
  have hr4 : aK s1 b1 3 := by rw [hs2]; exact hk_b1
  refine Q.run zm139 2 (i' := 5) (ls' := [some (.ref 117), some (.ref b1), some (.int x2), none]) (st' := [.int 0, .ref 117]) rfl ?_
  obtain ⟨s5, hs6, h⟩ := nx_so h
  refine Q.pf hs6 rfl (gI_of zm139 (e := (7, 3, .putfield 30, [8, 4, 0])) rfl) (hl3.lt (a := 117) (by decide)) (by decide) (hl3.T (a := 117) (p := (8, 11)) 39 rfl rfl) (by decide) rfl rfl ?_
  have hl7 : Ly tt cc s5 := by rw [hs6]; exact hl3.wId (by decide)
  have hr8 : aK s5 b1 3 := by rw [hs6]; exact hr4
  refine Q.run zm139 2 (i' := 8) (ls' := [some (.ref 117), some (.ref b1), some (.int x2), none]) (st' := [.int 0, .ref 117]) rfl ?_
  obtain ⟨s9, hs10, h⟩ := nx_so h
  refine Q.pf hs10 rfl (gI_of zm139 (e := (12, 3, .putfield 34, [8, 6, 0])) rfl) (hl7.lt (a := 117) (by decide)) (by decide) (hl7.T (a := 117) (p := (8, 11)) 39 rfl rfl) (by decide) rfl rfl ?_
  have hl11 : Ly tt cc s9 := by rw [hs10]; exact hl7.wId (by decide)
  have hr12 : aK s9 b1 3 := by rw [hs10]; exact hr8
  refine Q.run zm139 2 (i' := 11) (ls' := [some (.ref 117), some (.ref b1), some (.int x2), none]) (st' := [.int 0, .ref 117]) rfl ?_
  obtain ⟨s13, hs14, h⟩ := nx_so h
  refine Q.pf hs14 rfl (gI_of zm139 (e := (17, 3, .putfield 37, [8, 8, 0])) rfl) (hl11.lt (a := 117) (by decide)) (by decide) (hl11.T (a := 117) (p := (8, 11)) 39 rfl rfl) (by decide) rfl rfl ?_
  have hl15 : Ly tt cc s13 := by rw [hs14]; exact hl11.wId (by decide)
  have hr16 : aK s13 b1 3 := by rw [hs14]; exact hr12
  refine Q.run zm139 2 (i' := 14) (ls' := [some (.ref 117), some (.ref b1), some (.int x2), none]) (st' := [.int x2, .ref 117]) rfl ?_
  obtain ⟨s17, hs18, h⟩ := nx_so h
  refine Q.pf hs18 rfl (gI_of zm139 (e := (22, 3, .putfield 40, [8, 9, 0])) rfl) (hl15.lt (a := 117) (by decide)) (by decide) (hl15.T (a := 117) (p := (8, 11)) 39 rfl rfl) (by decide) rfl rfl ?_
  have hl19 : Ly tt cc s17 := by rw [hs18]; exact hl15.wId (by decide)
  have hr20 : aK s17 b1 3 := by rw [hs18]; exact hr16
  refine Q.run zm139 2 (i' := 17) (ls' := [some (.ref 117), some (.ref b1), some (.int x2), none]) (st' := [.int (-1), .ref 117]) rfl ?_
  obtain ⟨s21, hs22, h⟩ := nx_so h
  refine Q.pf hs22 rfl (gI_of zm139 (e := (27, 3, .putfield 43, [8, 10, 0])) rfl) (hl19.lt (a := 117) (by decide)) (by decide) (hl19.T (a := 117) (p := (8, 11)) 39 rfl rfl) (by decide) rfl rfl ?_
  have hl23 : Ly tt cc s21 := by rw [hs22]; exact hl19.wId (by decide)
  have hr24 : aK s21 b1 3 := by rw [hs22]; exact hr20
  refine Q.run zm139 2 (i' := 20) (ls' := [some (.ref 117), some (.ref b1), some (.int x2), none]) (st' := [.int 0, .ref 117]) rfl ?_
  obtain ⟨s27, hc26, h⟩ := bu_so h
  have hq25 : Q 1 sio tt cc d 140 0 [some (.ref 117), some (.int 0)] [] s21 (.inl none, s27) := dt140 (by omega) hl23  hc26
  refine Q.callV (gC_vi zm139 (show zM139.2.2.2.2.2[20]? = some (32, 3, .invokevirtual 46, [0, 140, 1, 8]) from rfl) zm140 (hl23.lt (a := 117) (by decide)) (hl23.T (a := 117) (p := (8, 11)) 39 rfl rfl) rfl (show aCr 1 117 [.int 0, .ref 117] 2 = some ([some (.ref 117), some (.int 0)], []) from rfl)) hq25 ?_
  have hr28 : aK s27 b1 3 := hq25.2.1.k hr24
  refine Q.run zm139 2 (i' := 23) (ls' := [some (.ref 117), some (.ref b1), some (.int x2), some (.int 0)]) (st' := []) rfl ?_
  exact dt139_23 hd _ hq25.1  h
/-! 138 FormulaTrees.form(II)I -/
set_option maxRecDepth 100000 in
theorem zm138 : zP[138]? = some zM138 := rfl
def dm138 (x1 : Int32) (x2 : Int32) (s : aS) : Option (xZ × aS) :=
  bu (dm54 x1 s) fun r3 =>
  vN r3 (
    some (.inr 2, nw s 82 0)
  ) fun b5 =>
    if aK s b5 3 then
      bv (dm139 b5 x2 s) fun r10 s9 =>
      some (.inl (some (.int r10)), s9)
    else none
set_option maxRecDepth 100000 in
theorem dt138 {sio : Bool} {tt : Nat} {cc : Nat → Nat → Int32} {d : Nat} (hd : 9 ≤ d) {x1 : Int32} {x2 : Int32} {s : aS} (hl : Ly tt cc s) {o : xZ × aS} (h : dm138  x1 x2 s = some o) : Q 1 sio tt cc d 138 0 [some (.ref 78), some (.int x1), some (.int x2), none] [] s o := by
  unfold dm138 at h
  obtain ⟨d, rfl⟩ : ∃ e, d = e + 1 := ⟨d - 1, by omega⟩
  refine Q.run zm138 2 (i' := 2) (ls' := [some (.ref 78), some (.int x1), some (.int x2), none]) (st' := [.int x1, .ref 78]) rfl ?_
  obtain ⟨r3, hc2, h⟩ := bu_so h
  have hq1 : Q 1 sio tt cc d 54 0 [some (.ref 78), some (.int x1)] [] s (.inl (some r3), s) := dt54 (by omega) hl  hc2
  rcases vN_so h with ⟨hv4, h9⟩ | ⟨b5, hv4, h9⟩
  · clear h
    subst hv4
    have h := h9
    refine Q.callR (gC_vi zm138 (show zM138.2.2.2.2.2[2]? = some (2, 3, .invokevirtual 114, [0, 54, 1, 0]) from rfl) zm54 (hl.lt (a := 78) (by decide)) (hl.T (a := 78) (p := (0, 7)) 0 rfl rfl) rfl (show aCr 1 78 [.int x1, .ref 78] 2 = some ([some (.ref 78), some (.int x1)], []) from rfl)) hq1 ?_
    refine Q.run zm138 3 (i' := 6) (ls' := [some (.ref 78), some (.int x1), some (.int x2), some (.null)]) (st' := []) rfl ?_
    cases h
    exact Q.t zm138 (show zM138.2.2.2.2.2[6]? = some (10, 3, .new 100, [202]) from rfl) rfl rfl hl.gL (by omega) hl
  · clear h
    subst hv4
    have h := h9
    obtain ⟨hr6, h⟩ := ite_so h
    refine Q.callR (gC_vi zm138 (show zM138.2.2.2.2.2[2]? = some (2, 3, .invokevirtual 114, [0, 54, 1, 0]) from rfl) zm54 (hl.lt (a := 78) (by decide)) (hl.T (a := 78) (p := (0, 7)) 0 rfl rfl) rfl (show aCr 1 78 [.int x1, .ref 78] 2 = some ([some (.ref 78), some (.int x1)], []) from rfl)) hq1 ?_
    refine Q.run zm138 4 (i' := 12) (ls' := [some (.ref 78), some (.int x1), some (.int x2), some (.ref b5)]) (st' := [.ref 78]) rfl ?_
    refine Q.map (A.gf (gI_of zm138 (e := (21, 3, .getfield 54, [0, 5])) rfl) (hl.lt (a := 78) (by decide)) (hl.T (a := 78) (p := (0, 7)) 0 rfl rfl) (by decide) (hl.R 5 rfl)) ?_
    refine Q.run zm138 2 (i' := 15) (ls' := [some (.ref 78), some (.int x1), some (.int x2), some (.ref b5)]) (st' := [.int x2, .ref b5, .ref 117]) rfl ?_
    obtain ⟨r10, s9, hc8, h⟩ := bv_so h
    have hq7 : Q 1 sio tt cc d 139 0 [some (.ref 117), some (.ref b5), some (.int x2), none] [] s (.inl (some (.int r10)), s9) := dt139 (by omega) hl hr6 hc8
    refine Q.callI (gC_vi zm138 (show zM138.2.2.2.2.2[15]? = some (26, 3, .invokevirtual 159, [0, 139, 2, 8]) from rfl) zm139 (hl.lt (a := 117) (by decide)) (hl.T (a := 117) (p := (8, 11)) 39 rfl rfl) rfl (show aCr 2 117 [.int x2, .ref b5, .ref 117] 4 = some ([some (.ref 117), some (.ref b5), some (.int x2), none], []) from rfl)) hq7 ?_
    have hr11 : aK s9 b5 3 := hq7.2.1.k hr6
    cases h
    exact Q.ret (A.ri zm138 (show zM138.2.2.2.2.2[16]? = some (29, 1, .ireturn, []) from rfl) rfl rfl) hq7.1
/-! 9 FormulaTreesLaw.form(LFormulaTrees;II[J)I -/
set_option maxRecDepth 100000 in
theorem zm9 : zP[9]? = some zM9 := rfl
def dm9 (x1 : Int32) (x2 : Int32) (s : aS) : Option (Int32 × aS) :=
  bv (dm138 x1 x2 s) fun z4 s3 =>
  zN z4 (fun v5 =>
    vI v5 fun r7 =>
    if aB 0 1 then
      nx (wJ s3 148 (jN 0) r7.toInt64) fun s10 =>
      some (0, s10)
    else none
  ) fun e6 =>
    if e6 = 2 then
      some (1, s3)
    else
      none
set_option maxRecDepth 100000 in
theorem dt9 {sio : Bool} {tt : Nat} {cc : Nat → Nat → Int32} {d : Nat} (hd : 10 ≤ d) {x1 : Int32} {x2 : Int32} {s : aS} (hl : Ly tt cc s) {o : Int32 × aS} (h : dm9  x1 x2 s = some o) : Q 1 sio tt cc d 9 0 [some (.ref 78), some (.int x1), some (.int x2), some (.ref 148), none] [] s (.inl (some (.int o.1)), o.2) := by
  unfold dm9 at h
  obtain ⟨d, rfl⟩ : ∃ e, d = e + 1 := ⟨d - 1, by omega⟩
  refine Q.run zm9 5 (i' := 5) (ls' := [some (.ref 78), some (.int x1), some (.int x2), some (.ref 148), none]) (st' := [.int x2, .int x1, .ref 78, .int 0, .ref 148]) rfl ?_
  obtain ⟨z4, s3, hc2, h⟩ := bv_so h
  have hq1 : Q 1 sio tt cc d 138 0 [some (.ref 78), some (.int x1), some (.int x2), none] [] s (z4, s3) := dt138 (by omega) hl  hc2
  rcases zN_so h with ⟨v5, hz13, h8⟩ | ⟨e6, hz13, h8⟩
  · clear h
    subst hz13
    have h := h8
    obtain ⟨r7, hv8, h9⟩ := vI_so h
    clear h
    subst hv8
    have h := h9
    refine Q.callI (gC_vi zm9 (show zM9.2.2.2.2.2[5]? = some (5, 3, .invokevirtual 45, [0, 138, 2, 0]) from rfl) zm138 (hl.lt (a := 78) (by decide)) (hl.T (a := 78) (p := (0, 7)) 0 rfl rfl) rfl (show aCr 2 78 [.int x2, .int x1, .ref 78, .int 0, .ref 148] 4 = some ([some (.ref 78), some (.int x1), some (.int x2), none], [.int 0, .ref 148]) from rfl)) hq1 ?_
    refine Q.run zm9 1 (i' := 7) (ls' := [some (.ref 78), some (.int x1), some (.int x2), some (.ref 148), none]) (st' := [.long r7.toInt64, .int 0, .ref 148]) rfl ?_
    obtain ⟨hc9, h⟩ := ite_so h
    obtain ⟨s10, hs11, h⟩ := nx_so h
    refine Q.lS hs11 rfl (gI_of zm9 (e := (9, 1, .lastore, [])) rfl) (hq1.1.lt (a := 148) (by decide)) (by decide) (hq1.1.T (a := 148) (p := (104, 1)) 70 rfl rfl) hc9 ?_
    have hl12 : Ly tt cc s10 := by rw [hs11]; exact hq1.1.wJd
    refine Q.run zm9 2 (i' := 13) (ls' := [some (.ref 78), some (.int x1), some (.int x2), some (.ref 148), none]) (st' := [.int 0]) rfl ?_
    cases h
    exact Q.ret (A.ri zm9 (show zM9.2.2.2.2.2[13]? = some (18, 1, .ireturn, []) from rfl) rfl rfl) hl12
  · clear h
    subst hz13
    have h := h8
    by_cases hc14 : e6 = 2
    · rw [if_pos hc14] at h
      subst hc14
      refine Q.hc (gC_vi zm9 (show zM9.2.2.2.2.2[5]? = some (5, 3, .invokevirtual 45, [0, 138, 2, 0]) from rfl) zm138 (hl.lt (a := 78) (by decide)) (hl.T (a := 78) (p := (0, 7)) 0 rfl rfl) rfl (show aCr 2 78 [.int x2, .int x1, .ref 78, .int 0, .ref 148] 4 = some ([some (.ref 78), some (.int x1), some (.int x2), none], [.int 0, .ref 148]) from rfl)) hq1 (t := 9) rfl ?_
      refine Q.run zm9 2 (i' := 11) (ls' := [some (.ref 78), some (.int x1), some (.int x2), some (.ref 148), some (.ref (sL s3 - 1))]) (st' := [.int 1]) rfl ?_
      cases h
      exact Q.ret (A.ri zm9 (show zM9.2.2.2.2.2[11]? = some (16, 1, .ireturn, []) from rfl) rfl rfl) hq1.1
    · rw [if_neg hc14] at h
      cases h
/-! 235 FormulaTreesModel.put(I)V -/
set_option maxRecDepth 100000 in
theorem zm235 : zP[235]? = some zM235 := rfl
def dm235_10 (y1 : Int32) (s : aS) : Option (aS) :=
  nx (wI s 121 44 y1) fun s1 =>
  nx (wI s1 121 42 ((sI s1 121 42) + 1)) fun s4 =>
  some s4
set_option maxRecDepth 100000 in
theorem dt235_10 {sio : Bool} {tt : Nat} {cc : Nat → Nat → Int32} {d : Nat} (hd : 0 ≤ d) {y1 : Int32} {x1 : Int32} {s : aS} (hl : Ly tt cc s) {o : aS} (h : dm235_10  y1 s = some o) : Q 2 sio tt cc d 235 10 [some (.ref 121), some (.int x1)] [.int y1, .ref 121] s (.inl none, o) := by
  unfold dm235_10 at h
  obtain ⟨s1, hs2, h⟩ := nx_so h
  refine Q.pf hs2 rfl (gI_of zm235 (e := (20, 3, .putfield 334, [9, 44, 0])) rfl) (hl.lt (a := 121) (by decide)) (by decide) (hl.T (a := 121) (p := (9, 45)) 43 rfl rfl) (by decide) rfl rfl ?_
  have hl3 : Ly tt cc s1 := by rw [hs2]; exact hl.wId (by decide)
  refine Q.run zm235 2 (i' := 13) (ls' := [some (.ref 121), some (.int x1)]) (st' := [.ref 121, .ref 121]) rfl ?_
  refine Q.map (A.gf (gI_of zm235 (e := (25, 3, .getfield 328, [9, 42])) rfl) (hl3.lt (a := 121) (by decide)) (hl3.T (a := 121) (p := (9, 45)) 43 rfl rfl) (by decide) rfl) ?_
  refine Q.run zm235 2 (i' := 16) (ls' := [some (.ref 121), some (.int x1)]) (st' := [.int ((sI s1 121 42) + 1), .ref 121]) rfl ?_
  obtain ⟨s4, hs5, h⟩ := nx_so h
  refine Q.pf hs5 rfl (gI_of zm235 (e := (30, 3, .putfield 328, [9, 42, 0])) rfl) (hl3.lt (a := 121) (by decide)) (by decide) (hl3.T (a := 121) (p := (9, 45)) 43 rfl rfl) (by decide) rfl rfl ?_
  have hl6 : Ly tt cc s4 := by rw [hs5]; exact hl3.wId (by decide)
  cases h
  exact Q.ret (A.rv zm235 (show zM235.2.2.2.2.2[17]? = some (33, 1, .return_, []) from rfl) rfl) hl6
def dm235 (x1 : Int32) (s : aS) : Option (aS) :=
  if (sI s 121 42) = (sI s 121 43) then
    dm235_10 x1 s
  else
    dm235_10 (sI s 121 44) s
set_option maxRecDepth 100000 in
theorem dt235 {sio : Bool} {tt : Nat} {cc : Nat → Nat → Int32} {d : Nat} (hd : 0 ≤ d) {x1 : Int32} {s : aS} (hl : Ly tt cc s) {o : aS} (h : dm235  x1 s = some o) : Q 2 sio tt cc d 235 0 [some (.ref 121), some (.int x1)] [] s (.inl none, o) := by
  unfold dm235 at h
  refine Q.run zm235 2 (i' := 2) (ls' := [some (.ref 121), some (.int x1)]) (st' := [.ref 121, .ref 121]) rfl ?_
  refine Q.map (A.gf (gI_of zm235 (e := (2, 3, .getfield 328, [9, 42])) rfl) (hl.lt (a := 121) (by decide)) (hl.T (a := 121) (p := (9, 45)) 43 rfl rfl) (by decide) rfl) ?_
  refine Q.run zm235 1 (i' := 4) (ls' := [some (.ref 121), some (.int x1)]) (st' := [.ref 121, .int (sI s 121 42), .ref 121]) rfl ?_
  refine Q.map (A.gf (gI_of zm235 (e := (6, 3, .getfield 331, [9, 43])) rfl) (hl.lt (a := 121) (by decide)) (hl.T (a := 121) (p := (9, 45)) 43 rfl rfl) (by decide) rfl) ?_
  by_cases hc1 : (sI s 121 42) = (sI s 121 43)
  · rw [if_pos hc1] at h
    refine Q.map (A.bF (gI_of zm235 (e := (9, 3, .if_icmp .ne 7, [8])) rfl) (fun q => of_decide_eq_true q hc1)) ?_
    refine Q.run zm235 2 (i' := 10) (ls' := [some (.ref 121), some (.int x1)]) (st' := [.int x1, .ref 121]) rfl ?_
    exact dt235_10 hd hl  h
  · rw [if_neg hc1] at h
    refine Q.map (A.bT (gI_of zm235 (e := (9, 3, .if_icmp .ne 7, [8])) rfl) (decide_eq_true hc1)) ?_
    refine Q.run zm235 1 (i' := 9) (ls' := [some (.ref 121), some (.int x1)]) (st' := [.ref 121, .ref 121]) rfl ?_
    refine Q.map (A.gf (gI_of zm235 (e := (17, 3, .getfield 334, [9, 44])) rfl) (hl.lt (a := 121) (by decide)) (hl.T (a := 121) (p := (9, 45)) 43 rfl rfl) (by decide) rfl) ?_
    exact dt235_10 hd hl  h
/-! 234 FormulaTreesModel.putToken(II)V -/
set_option maxRecDepth 100000 in
theorem zm234 : zP[234]? = some zM234 := rfl
def dm234_2 : Nat → Int32 → Int32 → Int32 → aS → Option (aS)
  | 0, _, _, _, _ => none
  | n + 1, x1, x2, x3, s =>
    if aB x2 1152 then
      if (sI s 138 (jN x2)) ≤ x3 then
        some s
      else
        if aB x2 1152 then
          if aB (((256 * x1) + (sI s 137 (jN x2))) + x3) 2304 then
            bu (dm235 (sI s 139 (jN (((256 * x1) + (sI s 137 (jN x2))) + x3))) s) fun s7 =>
            dm234_2 n x1 x2 (x3 + 1) s7
          else none
        else none
    else none
set_option maxRecDepth 100000 in
theorem dt234_2 {sio : Bool} {tt : Nat} {cc : Nat → Nat → Int32} {d : Nat} (hd : 1 ≤ d) : ∀ (n : Nat) {x1 : Int32} {x2 : Int32} {x3 : Int32} {s : aS} (_ : Ly tt cc s) {o : aS} (_ : dm234_2  n x1 x2 x3 s = some o), Q 2 sio tt cc d 234 2 [some (.ref 121), some (.int x1), some (.int x2), some (.int x3)] [] s (.inl none, o) := by
  obtain ⟨d, rfl⟩ : ∃ e, d = e + 1 := ⟨d - 1, by omega⟩
  intro n
  induction n with
  | zero => intro x1 x2 x3 s hl o h; rw [dm234_2] at h; cases h
  | succ n ih =>
    intro x1 x2 x3 s hl o h
    rw [dm234_2] at h
    refine Q.run zm234 2 (i' := 4) (ls' := [some (.ref 121), some (.int x1), some (.int x2), some (.int x3)]) (st' := [.ref 121, .int x3]) rfl ?_
    refine Q.map (A.gf (gI_of zm234 (e := (4, 3, .getfield 59, [9, 19])) rfl) (hl.lt (a := 121) (by decide)) (hl.T (a := 121) (p := (9, 45)) 43 rfl rfl) (by decide) (hl.R 39 rfl)) ?_
    refine Q.run zm234 1 (i' := 6) (ls' := [some (.ref 121), some (.int x1), some (.int x2), some (.int x3)]) (st' := [.int x2, .ref 138, .int x3]) rfl ?_
    obtain ⟨hc1, h⟩ := ite_so h
    refine Q.map (A.ia (gI_of zm234 (e := (8, 1, .iaload, [])) rfl) (hl.lt (a := 138) (by decide)) (hl.T (a := 138) (p := (100, 1152)) 60 rfl rfl) hc1) ?_
    by_cases hc2 : (sI s 138 (jN x2)) ≤ x3
    · rw [if_pos hc2] at h
      refine Q.map (A.bT (gI_of zm234 (e := (9, 3, .if_icmp .ge 32, [25])) rfl) (decide_eq_true hc2)) ?_
      cases h
      exact Q.ret (A.rv zm234 (show zM234.2.2.2.2.2[25]? = some (41, 1, .return_, []) from rfl) rfl) hl
    · rw [if_neg hc2] at h
      refine Q.map (A.bF (gI_of zm234 (e := (9, 3, .if_icmp .ge 32, [25])) rfl) (fun q => hc2 (of_decide_eq_true q))) ?_
      refine Q.run zm234 2 (i' := 10) (ls' := [some (.ref 121), some (.int x1), some (.int x2), some (.int x3)]) (st' := [.ref 121, .ref 121]) rfl ?_
      refine Q.map (A.gf (gI_of zm234 (e := (14, 3, .getfield 62, [9, 20])) rfl) (hl.lt (a := 121) (by decide)) (hl.T (a := 121) (p := (9, 45)) 43 rfl rfl) (by decide) (hl.R 40 rfl)) ?_
      refine Q.run zm234 4 (i' := 15) (ls' := [some (.ref 121), some (.int x1), some (.int x2), some (.int x3)]) (st' := [.ref 121, .int (256 * x1), .ref 139, .ref 121]) rfl ?_
      refine Q.map (A.gf (gI_of zm234 (e := (23, 3, .getfield 56, [9, 18])) rfl) (hl.lt (a := 121) (by decide)) (hl.T (a := 121) (p := (9, 45)) 43 rfl rfl) (by decide) (hl.R 38 rfl)) ?_
      refine Q.run zm234 1 (i' := 17) (ls' := [some (.ref 121), some (.int x1), some (.int x2), some (.int x3)]) (st' := [.int x2, .ref 137, .int (256 * x1), .ref 139, .ref 121]) rfl ?_
      obtain ⟨hc3, h⟩ := ite_so h
      refine Q.map (A.ia (gI_of zm234 (e := (27, 1, .iaload, [])) rfl) (hl.lt (a := 137) (by decide)) (hl.T (a := 137) (p := (100, 1152)) 59 rfl rfl) hc3) ?_
      refine Q.run zm234 3 (i' := 21) (ls' := [some (.ref 121), some (.int x1), some (.int x2), some (.int x3)]) (st' := [.int (((256 * x1) + (sI s 137 (jN x2))) + x3), .ref 139, .ref 121]) rfl ?_
      obtain ⟨hc4, h⟩ := ite_so h
      refine Q.map (A.ia (gI_of zm234 (e := (31, 1, .iaload, [])) rfl) (hl.lt (a := 139) (by decide)) (hl.T (a := 139) (p := (100, 2304)) 61 rfl rfl) hc4) ?_
      obtain ⟨s7, hc6, h⟩ := bu_so h
      have hq5 : Q 2 sio tt cc d 235 0 [some (.ref 121), some (.int (sI s 139 (jN (((256 * x1) + (sI s 137 (jN x2))) + x3))))] [] s (.inl none, s7) := dt235 (by omega) hl  hc6
      refine Q.callV (gC_vi zm234 (show zM234.2.2.2.2.2[22]? = some (32, 3, .invokevirtual 337, [0, 235, 1, 9]) from rfl) zm235 (hl.lt (a := 121) (by decide)) (hl.T (a := 121) (p := (9, 45)) 43 rfl rfl) rfl (show aCr 1 121 [.int (sI s 139 (jN (((256 * x1) + (sI s 137 (jN x2))) + x3))), .ref 121] 2 = some ([some (.ref 121), some (.int (sI s 139 (jN (((256 * x1) + (sI s 137 (jN x2))) + x3))))], []) from rfl)) hq5 ?_
      refine Q.run zm234 2 (i' := 2) (ls' := [some (.ref 121), some (.int x1), some (.int x2), some (.int (x3 + 1))]) (st' := []) rfl ?_
      exact ih hq5.1  h
def dm234 (x1 : Int32) (x2 : Int32) (s : aS) : Option (aS) :=
  dm234_2 5000 x1 x2 0 s
set_option maxRecDepth 100000 in
theorem dt234 {sio : Bool} {tt : Nat} {cc : Nat → Nat → Int32} {d : Nat} (hd : 1 ≤ d) {x1 : Int32} {x2 : Int32} {s : aS} (hl : Ly tt cc s) {o : aS} (h : dm234  x1 x2 s = some o) : Q 2 sio tt cc d 234 0 [some (.ref 121), some (.int x1), some (.int x2), none] [] s (.inl none, o) := by
  unfold dm234 at h
  obtain ⟨d, rfl⟩ : ∃ e, d = e + 1 := ⟨d - 1, by omega⟩
  refine Q.run zm234 2 (i' := 2) (ls' := [some (.ref 121), some (.int x1), some (.int x2), some (.int 0)]) (st' := []) rfl ?_
  exact dt234_2 hd _ hl  h
/-! 237 FormulaTreesModel.sign(I)I -/
set_option maxRecDepth 100000 in
theorem zm237 : zP[237]? = some zM237 := rfl
def dm237_41 : Option (Int32) :=
  some 62
set_option maxRecDepth 100000 in
theorem dt237_41 {sio : Bool} {tt : Nat} {cc : Nat → Nat → Int32} {d : Nat} (hd : 0 ≤ d) {x0 : Int32} {s : aS} (hl : Ly tt cc s) {o : Int32} (h : dm237_41   = some o) : Q 2 sio tt cc d 237 41 [some (.int x0)] [] s (.inl (some (.int o)), s) := by
  unfold dm237_41 at h
  refine Q.run zm237 2 (i' := 44) (ls' := [some (.int x0)]) (st' := [.int 62]) rfl ?_
  cases h
  exact Q.ret (A.ri zm237 (show zM237.2.2.2.2.2[44]? = some (96, 1, .ireturn, []) from rfl) rfl rfl) hl
def dm237 (x0 : Int32) : Option (Int32) :=
  if x0 = 11 then
    some 94
  else
    if x0 = 12 then
      some 42
    else
      if x0 = 13 then
        some 47
      else
        if x0 = 14 then
          some 43
        else
          if x0 = 15 then
            some 45
          else
            if x0 = 16 then
              some 38
            else
              if x0 = 17 then
                some 61
              else
                if x0 = 20 then
                  dm237_41 
                else
                  if x0 = 22 then
                    dm237_41 
                  else
                    some 60
set_option maxRecDepth 100000 in
theorem dt237 {sio : Bool} {tt : Nat} {cc : Nat → Nat → Int32} {d : Nat} (hd : 0 ≤ d) {x0 : Int32} {s : aS} (hl : Ly tt cc s) {o : Int32} (h : dm237  x0 = some o) : Q 2 sio tt cc d 237 0 [some (.int x0)] [] s (.inl (some (.int o)), s) := by
  unfold dm237 at h
  refine Q.run zm237 2 (i' := 2) (ls' := [some (.int x0)]) (st' := [.int 11, .int x0]) rfl ?_
  by_cases hc1 : x0 = 11
  · rw [if_pos hc1] at h
    refine Q.map (A.bF (gI_of zm237 (e := (3, 3, .if_icmp .ne 8, [5])) rfl) (fun q => of_decide_eq_true q hc1)) ?_
    refine Q.run zm237 2 (i' := 44) (ls' := [some (.int x0)]) (st' := [.int 94]) rfl ?_
    cases h
    exact Q.ret (A.ri zm237 (show zM237.2.2.2.2.2[44]? = some (96, 1, .ireturn, []) from rfl) rfl rfl) hl
  · rw [if_neg hc1] at h
    refine Q.map (A.bT (gI_of zm237 (e := (3, 3, .if_icmp .ne 8, [5])) rfl) (decide_eq_true hc1)) ?_
    refine Q.run zm237 2 (i' := 7) (ls' := [some (.int x0)]) (st' := [.int 12, .int x0]) rfl ?_
    by_cases hc2 : x0 = 12
    · rw [if_pos hc2] at h
      refine Q.map (A.bF (gI_of zm237 (e := (14, 3, .if_icmp .ne 8, [10])) rfl) (fun q => of_decide_eq_true q hc2)) ?_
      refine Q.run zm237 2 (i' := 44) (ls' := [some (.int x0)]) (st' := [.int 42]) rfl ?_
      cases h
      exact Q.ret (A.ri zm237 (show zM237.2.2.2.2.2[44]? = some (96, 1, .ireturn, []) from rfl) rfl rfl) hl
    · rw [if_neg hc2] at h
      refine Q.map (A.bT (gI_of zm237 (e := (14, 3, .if_icmp .ne 8, [10])) rfl) (decide_eq_true hc2)) ?_
      refine Q.run zm237 2 (i' := 12) (ls' := [some (.int x0)]) (st' := [.int 13, .int x0]) rfl ?_
      by_cases hc3 : x0 = 13
      · rw [if_pos hc3] at h
        refine Q.map (A.bF (gI_of zm237 (e := (25, 3, .if_icmp .ne 8, [15])) rfl) (fun q => of_decide_eq_true q hc3)) ?_
        refine Q.run zm237 2 (i' := 44) (ls' := [some (.int x0)]) (st' := [.int 47]) rfl ?_
        cases h
        exact Q.ret (A.ri zm237 (show zM237.2.2.2.2.2[44]? = some (96, 1, .ireturn, []) from rfl) rfl rfl) hl
      · rw [if_neg hc3] at h
        refine Q.map (A.bT (gI_of zm237 (e := (25, 3, .if_icmp .ne 8, [15])) rfl) (decide_eq_true hc3)) ?_
        refine Q.run zm237 2 (i' := 17) (ls' := [some (.int x0)]) (st' := [.int 14, .int x0]) rfl ?_
        by_cases hc4 : x0 = 14
        · rw [if_pos hc4] at h
          refine Q.map (A.bF (gI_of zm237 (e := (36, 3, .if_icmp .ne 8, [20])) rfl) (fun q => of_decide_eq_true q hc4)) ?_
          refine Q.run zm237 2 (i' := 44) (ls' := [some (.int x0)]) (st' := [.int 43]) rfl ?_
          cases h
          exact Q.ret (A.ri zm237 (show zM237.2.2.2.2.2[44]? = some (96, 1, .ireturn, []) from rfl) rfl rfl) hl
        · rw [if_neg hc4] at h
          refine Q.map (A.bT (gI_of zm237 (e := (36, 3, .if_icmp .ne 8, [20])) rfl) (decide_eq_true hc4)) ?_
          refine Q.run zm237 2 (i' := 22) (ls' := [some (.int x0)]) (st' := [.int 15, .int x0]) rfl ?_
          by_cases hc5 : x0 = 15
          · rw [if_pos hc5] at h
            refine Q.map (A.bF (gI_of zm237 (e := (47, 3, .if_icmp .ne 8, [25])) rfl) (fun q => of_decide_eq_true q hc5)) ?_
            refine Q.run zm237 2 (i' := 44) (ls' := [some (.int x0)]) (st' := [.int 45]) rfl ?_
            cases h
            exact Q.ret (A.ri zm237 (show zM237.2.2.2.2.2[44]? = some (96, 1, .ireturn, []) from rfl) rfl rfl) hl
          · rw [if_neg hc5] at h
            refine Q.map (A.bT (gI_of zm237 (e := (47, 3, .if_icmp .ne 8, [25])) rfl) (decide_eq_true hc5)) ?_
            refine Q.run zm237 2 (i' := 27) (ls' := [some (.int x0)]) (st' := [.int 16, .int x0]) rfl ?_
            by_cases hc6 : x0 = 16
            · rw [if_pos hc6] at h
              refine Q.map (A.bF (gI_of zm237 (e := (58, 3, .if_icmp .ne 8, [30])) rfl) (fun q => of_decide_eq_true q hc6)) ?_
              refine Q.run zm237 2 (i' := 44) (ls' := [some (.int x0)]) (st' := [.int 38]) rfl ?_
              cases h
              exact Q.ret (A.ri zm237 (show zM237.2.2.2.2.2[44]? = some (96, 1, .ireturn, []) from rfl) rfl rfl) hl
            · rw [if_neg hc6] at h
              refine Q.map (A.bT (gI_of zm237 (e := (58, 3, .if_icmp .ne 8, [30])) rfl) (decide_eq_true hc6)) ?_
              refine Q.run zm237 2 (i' := 32) (ls' := [some (.int x0)]) (st' := [.int 17, .int x0]) rfl ?_
              by_cases hc7 : x0 = 17
              · rw [if_pos hc7] at h
                refine Q.map (A.bF (gI_of zm237 (e := (69, 3, .if_icmp .ne 8, [35])) rfl) (fun q => of_decide_eq_true q hc7)) ?_
                refine Q.run zm237 2 (i' := 44) (ls' := [some (.int x0)]) (st' := [.int 61]) rfl ?_
                cases h
                exact Q.ret (A.ri zm237 (show zM237.2.2.2.2.2[44]? = some (96, 1, .ireturn, []) from rfl) rfl rfl) hl
              · rw [if_neg hc7] at h
                refine Q.map (A.bT (gI_of zm237 (e := (69, 3, .if_icmp .ne 8, [35])) rfl) (decide_eq_true hc7)) ?_
                refine Q.run zm237 2 (i' := 37) (ls' := [some (.int x0)]) (st' := [.int 20, .int x0]) rfl ?_
                by_cases hc8 : x0 = 20
                · rw [if_pos hc8] at h
                  refine Q.map (A.bT (gI_of zm237 (e := (80, 3, .if_icmp .eq 9, [41])) rfl) (decide_eq_true hc8)) ?_
                  exact dt237_41 hd hl  h
                · rw [if_neg hc8] at h
                  refine Q.map (A.bF (gI_of zm237 (e := (80, 3, .if_icmp .eq 9, [41])) rfl) (fun q => hc8 (of_decide_eq_true q))) ?_
                  refine Q.run zm237 2 (i' := 40) (ls' := [some (.int x0)]) (st' := [.int 22, .int x0]) rfl ?_
                  by_cases hc9 : x0 = 22
                  · rw [if_pos hc9] at h
                    refine Q.map (A.bF (gI_of zm237 (e := (86, 3, .if_icmp .ne 8, [43])) rfl) (fun q => of_decide_eq_true q hc9)) ?_
                    exact dt237_41 hd hl  h
                  · rw [if_neg hc9] at h
                    refine Q.map (A.bT (gI_of zm237 (e := (86, 3, .if_icmp .ne 8, [43])) rfl) (decide_eq_true hc9)) ?_
                    refine Q.run zm237 1 (i' := 44) (ls' := [some (.int x0)]) (st' := [.int 60]) rfl ?_
                    cases h
                    exact Q.ret (A.ri zm237 (show zM237.2.2.2.2.2[44]? = some (96, 1, .ireturn, []) from rfl) rfl rfl) hl
/-! 240 FormulaTreesModel.truthNamed(IJI)Z -/
set_option maxRecDepth 100000 in
theorem zm240 : zP[240]? = some zM240 := rfl
def dm240_42 (k12 : Int32 → Int64 → Int32 → Int32 → Int32 → aS → Option (Int32)) (x1 : Int32) (x2 : Int64) (x4 : Int32) (x6 : Int32) (y0 : Int32) (s : aS) : Option (Int32) :=
  k12 x1 x2 x4 y0 (x6 + 1) s
set_option maxRecDepth 100000 in
theorem dt240_42 {sio : Bool} {tt : Nat} {cc : Nat → Nat → Int32} {d : Nat} (hd : 1 ≤ d) {k12 : Int32 → Int64 → Int32 → Int32 → Int32 → aS → Option (Int32)} (hk12 : ∀ {x1 : Int32} {x2 : Int64} {x4 : Int32} {x5 : Int32} {x6 : Int32} {s : aS}, Ly tt cc s → ∀ {o : Int32}, k12 x1 x2 x4 x5 x6 s = some o → Q 2 sio tt cc d 240 12 [some (.ref 121), some (.int x1), some (.long x2), none, some (.int x4), some (.int x5), some (.int x6)] [] s (.inl (some (.int o)), s)) {x1 : Int32} {x2 : Int64} {x4 : Int32} {x6 : Int32} {y0 : Int32} {x5 : Int32} {s : aS} (hl : Ly tt cc s) {o : Int32} (h : dm240_42 k12 x1 x2 x4 x6 y0 s = some o) : Q 2 sio tt cc d 240 42 [some (.ref 121), some (.int x1), some (.long x2), none, some (.int x4), some (.int x5), some (.int x6)] [.int y0] s (.inl (some (.int o)), s) := by
  unfold dm240_42 at h
  obtain ⟨d, rfl⟩ : ∃ e, d = e + 1 := ⟨d - 1, by omega⟩
  refine Q.run zm240 3 (i' := 12) (ls' := [some (.ref 121), some (.int x1), some (.long x2), none, some (.int x4), some (.int y0), some (.int (x6 + 1))]) (st' := []) rfl ?_
  exact hk12 hl  h
def dm240_12 : Nat → Int32 → Int64 → Int32 → Int32 → Int32 → aS → Option (Int32)
  | 0, _, _, _, _, _, _ => none
  | n + 1, x1, x2, x4, x5, x6, s =>
    if x4 ≤ x6 then
      if x5 = 0 ∨ x5 = 1 then
        some x5
      else none
    else
      if x5 = 0 then
        if x5 = 0 ∨ x5 = 1 then
          some x5
        else none
      else
        if aB ((32 * x1) + x6) 256 then
          bu (dm178 (sI s 124 (jN ((32 * x1) + x6)))) fun r8 =>
          if r8 = (((x2 >>> ((8 * ((x4 - 1) - x6)).toInt64 &&& 63)) &&& 255).toInt32) then
            dm240_42 (dm240_12 n) x1 x2 x4 x6 1 s
          else
            dm240_42 (dm240_12 n) x1 x2 x4 x6 0 s
        else none
set_option maxRecDepth 100000 in
theorem dt240_12 {sio : Bool} {tt : Nat} {cc : Nat → Nat → Int32} {d : Nat} (hd : 1 ≤ d) : ∀ (n : Nat) {x1 : Int32} {x2 : Int64} {x4 : Int32} {x5 : Int32} {x6 : Int32} {s : aS} (_ : Ly tt cc s) {o : Int32} (_ : dm240_12  n x1 x2 x4 x5 x6 s = some o), Q 2 sio tt cc d 240 12 [some (.ref 121), some (.int x1), some (.long x2), none, some (.int x4), some (.int x5), some (.int x6)] [] s (.inl (some (.int o)), s) := by
  obtain ⟨d, rfl⟩ : ∃ e, d = e + 1 := ⟨d - 1, by omega⟩
  intro n
  induction n with
  | zero => intro x1 x2 x4 x5 x6 s hl o h; rw [dm240_12] at h; cases h
  | succ n ih =>
    intro x1 x2 x4 x5 x6 s hl o h
    rw [dm240_12] at h
    refine Q.run zm240 2 (i' := 14) (ls' := [some (.ref 121), some (.int x1), some (.long x2), none, some (.int x4), some (.int x5), some (.int x6)]) (st' := [.int x4, .int x6]) rfl ?_
    by_cases hc1 : x4 ≤ x6
    · rw [if_pos hc1] at h
      refine Q.map (A.bT (gI_of zm240 (e := (25, 3, .if_icmp .ge 56, [45])) rfl) (decide_eq_true hc1)) ?_
      refine Q.run zm240 1 (i' := 46) (ls' := [some (.ref 121), some (.int x1), some (.long x2), none, some (.int x4), some (.int x5), some (.int x6)]) (st' := [.int x5]) rfl ?_
      obtain ⟨hc2, h⟩ := ite_so h
      cases h
      exact Q.ret (A.ri zm240 (show zM240.2.2.2.2.2[46]? = some (83, 1, .ireturn, []) from rfl) rfl (fit1 hc2)) hl
    · rw [if_neg hc1] at h
      refine Q.map (A.bF (gI_of zm240 (e := (25, 3, .if_icmp .ge 56, [45])) rfl) (fun q => hc1 (of_decide_eq_true q))) ?_
      refine Q.run zm240 1 (i' := 16) (ls' := [some (.ref 121), some (.int x1), some (.long x2), none, some (.int x4), some (.int x5), some (.int x6)]) (st' := [.int x5]) rfl ?_
      by_cases hc3 : x5 = 0
      · rw [if_pos hc3] at h
        refine Q.map (A.zT (gI_of zm240 (e := (30, 3, .ifCond .eq 51, [45])) rfl) (decide_eq_true hc3)) ?_
        refine Q.run zm240 1 (i' := 46) (ls' := [some (.ref 121), some (.int x1), some (.long x2), none, some (.int x4), some (.int x5), some (.int x6)]) (st' := [.int x5]) rfl ?_
        obtain ⟨hc4, h⟩ := ite_so h
        cases h
        exact Q.ret (A.ri zm240 (show zM240.2.2.2.2.2[46]? = some (83, 1, .ireturn, []) from rfl) rfl (fit1 hc4)) hl
      · rw [if_neg hc3] at h
        refine Q.map (A.zF (gI_of zm240 (e := (30, 3, .ifCond .eq 51, [45])) rfl) (fun q => hc3 (of_decide_eq_true q))) ?_
        refine Q.run zm240 1 (i' := 18) (ls' := [some (.ref 121), some (.int x1), some (.long x2), none, some (.int x4), some (.int x5), some (.int x6)]) (st' := [.ref 121]) rfl ?_
        refine Q.map (A.gf (gI_of zm240 (e := (34, 3, .getfield 16, [9, 5])) rfl) (hl.lt (a := 121) (by decide)) (hl.T (a := 121) (p := (9, 45)) 43 rfl rfl) (by decide) (hl.R 25 rfl)) ?_
        refine Q.run zm240 5 (i' := 24) (ls' := [some (.ref 121), some (.int x1), some (.long x2), none, some (.int x4), some (.int x5), some (.int x6)]) (st' := [.int ((32 * x1) + x6), .ref 124]) rfl ?_
        obtain ⟨hc5, h⟩ := ite_so h
        refine Q.map (A.ia (gI_of zm240 (e := (44, 1, .iaload, [])) rfl) (hl.lt (a := 124) (by decide)) (hl.T (a := 124) (p := (100, 256)) 46 rfl rfl) hc5) ?_
        obtain ⟨r8, hc7, h⟩ := bu_so h
        have hq6 : Q 2 sio tt cc d 178 0 [some (.int (sI s 124 (jN ((32 * x1) + x6))))] [] s (.inl (some (.int r8)), s) := dt178 (by omega) hl  hc7
        refine Q.callI (gC_st zm240 (show zM240.2.2.2.2.2[25]? = some (45, 3, .invokestatic 109, [0, 178, 1]) from rfl) zm178 (show aC 1 [.int (sI s 124 (jN ((32 * x1) + x6)))] 1 = some ([some (.int (sI s 124 (jN ((32 * x1) + x6))))], []) from rfl)) hq6 ?_
        refine Q.run zm240 12 (i' := 38) (ls' := [some (.ref 121), some (.int x1), some (.long x2), none, some (.int x4), some (.int x5), some (.int x6)]) (st' := [.int (((x2 >>> ((8 * ((x4 - 1) - x6)).toInt64 &&& 63)) &&& 255).toInt32), .int r8]) rfl ?_
        by_cases hc9 : r8 = (((x2 >>> ((8 * ((x4 - 1) - x6)).toInt64 &&& 63)) &&& 255).toInt32)
        · rw [if_pos hc9] at h
          refine Q.map (A.bF (gI_of zm240 (e := (65, 3, .if_icmp .ne 7, [41])) rfl) (fun q => of_decide_eq_true q hc9)) ?_
          refine Q.run zm240 2 (i' := 42) (ls' := [some (.ref 121), some (.int x1), some (.long x2), none, some (.int x4), some (.int x5), some (.int x6)]) (st' := [.int 1]) rfl ?_
          exact dt240_42 hd ih hl  h
        · rw [if_neg hc9] at h
          refine Q.map (A.bT (gI_of zm240 (e := (65, 3, .if_icmp .ne 7, [41])) rfl) (decide_eq_true hc9)) ?_
          refine Q.run zm240 1 (i' := 42) (ls' := [some (.ref 121), some (.int x1), some (.long x2), none, some (.int x4), some (.int x5), some (.int x6)]) (st' := [.int 0]) rfl ?_
          exact dt240_42 hd ih hl  h
def dm240_9 (x1 : Int32) (x2 : Int64) (x4 : Int32) (y0 : Int32) (s : aS) : Option (Int32) :=
  dm240_12 5000 x1 x2 x4 y0 0 s
set_option maxRecDepth 100000 in
theorem dt240_9 {sio : Bool} {tt : Nat} {cc : Nat → Nat → Int32} {d : Nat} (hd : 1 ≤ d) {x1 : Int32} {x2 : Int64} {x4 : Int32} {y0 : Int32} {s : aS} (hl : Ly tt cc s) {o : Int32} (h : dm240_9  x1 x2 x4 y0 s = some o) : Q 2 sio tt cc d 240 9 [some (.ref 121), some (.int x1), some (.long x2), none, some (.int x4), none, none] [.int y0] s (.inl (some (.int o)), s) := by
  unfold dm240_9 at h
  obtain ⟨d, rfl⟩ : ∃ e, d = e + 1 := ⟨d - 1, by omega⟩
  refine Q.run zm240 3 (i' := 12) (ls' := [some (.ref 121), some (.int x1), some (.long x2), none, some (.int x4), some (.int y0), some (.int 0)]) (st' := []) rfl ?_
  exact dt240_12 hd _ hl  h
def dm240 (x1 : Int32) (x2 : Int64) (x4 : Int32) (s : aS) : Option (Int32) :=
  if aB x1 8 then
    if (sI s 123 (jN x1)) = x4 then
      dm240_9 x1 x2 x4 1 s
    else
      dm240_9 x1 x2 x4 0 s
  else none
set_option maxRecDepth 100000 in
theorem dt240 {sio : Bool} {tt : Nat} {cc : Nat → Nat → Int32} {d : Nat} (hd : 1 ≤ d) {x1 : Int32} {x2 : Int64} {x4 : Int32} {s : aS} (hl : Ly tt cc s) {o : Int32} (h : dm240  x1 x2 x4 s = some o) : Q 2 sio tt cc d 240 0 [some (.ref 121), some (.int x1), some (.long x2), none, some (.int x4), none, none] [] s (.inl (some (.int o)), s) := by
  unfold dm240 at h
  obtain ⟨d, rfl⟩ : ∃ e, d = e + 1 := ⟨d - 1, by omega⟩
  refine Q.run zm240 1 (i' := 1) (ls' := [some (.ref 121), some (.int x1), some (.long x2), none, some (.int x4), none, none]) (st' := [.ref 121]) rfl ?_
  refine Q.map (A.gf (gI_of zm240 (e := (1, 3, .getfield 13, [9, 4])) rfl) (hl.lt (a := 121) (by decide)) (hl.T (a := 121) (p := (9, 45)) 43 rfl rfl) (by decide) (hl.R 24 rfl)) ?_
  refine Q.run zm240 1 (i' := 3) (ls' := [some (.ref 121), some (.int x1), some (.long x2), none, some (.int x4), none, none]) (st' := [.int x1, .ref 123]) rfl ?_
  obtain ⟨hc1, h⟩ := ite_so h
  refine Q.map (A.ia (gI_of zm240 (e := (5, 1, .iaload, [])) rfl) (hl.lt (a := 123) (by decide)) (hl.T (a := 123) (p := (100, 8)) 45 rfl rfl) hc1) ?_
  refine Q.run zm240 1 (i' := 5) (ls' := [some (.ref 121), some (.int x1), some (.long x2), none, some (.int x4), none, none]) (st' := [.int x4, .int (sI s 123 (jN x1))]) rfl ?_
  by_cases hc2 : (sI s 123 (jN x1)) = x4
  · rw [if_pos hc2] at h
    refine Q.map (A.bF (gI_of zm240 (e := (8, 3, .if_icmp .ne 7, [8])) rfl) (fun q => of_decide_eq_true q hc2)) ?_
    refine Q.run zm240 2 (i' := 9) (ls' := [some (.ref 121), some (.int x1), some (.long x2), none, some (.int x4), none, none]) (st' := [.int 1]) rfl ?_
    exact dt240_9 hd hl  h
  · rw [if_neg hc2] at h
    refine Q.map (A.bT (gI_of zm240 (e := (8, 3, .if_icmp .ne 7, [8])) rfl) (decide_eq_true hc2)) ?_
    refine Q.run zm240 1 (i' := 9) (ls' := [some (.ref 121), some (.int x1), some (.long x2), none, some (.int x4), none, none]) (st' := [.int 0]) rfl ?_
    exact dt240_9 hd hl  h
end
section
/-! 239 FormulaTreesModel.quotes(I)Z -/
set_option maxRecDepth 100000 in
theorem zm239 : zP[239]? = some zM239 := rfl
def dm239_96 (s : aS) : Option (Int32) :=
  some 1
set_option maxRecDepth 100000 in
theorem dt239_96 {sio : Bool} {tt : Nat} {cc : Nat → Nat → Int32} {d : Nat} (hd : 3 ≤ d) {x1 : Int32} {x2 : Int32} {x3 : Int32} {x4 : Int32} {x5 : Int32} {g6 : Option Value} {s : aS} (hl : Ly tt cc s) {o : Int32} (h : dm239_96  s = some o) : Q 2 sio tt cc d 239 96 [some (.ref 121), some (.int x1), some (.int x2), some (.int x3), some (.int x4), some (.int x5), g6] [] s (.inl (some (.int o)), s) := by
  unfold dm239_96 at h
  obtain ⟨d, rfl⟩ : ∃ e, d = e + 1 := ⟨d - 1, by omega⟩
  refine Q.run zm239 2 (i' := 99) (ls' := [some (.ref 121), some (.int x1), some (.int x2), some (.int x3), some (.int x4), some (.int x5), g6]) (st' := [.int 1]) rfl ?_
  cases h
  exact Q.ret (A.ri zm239 (show zM239.2.2.2.2.2[99]? = some (183, 1, .ireturn, []) from rfl) rfl rfl) hl
def dm239_57 (k14 : Int32 → Int32 → Int32 → Int32 → Int32 → aS → Option (Int32)) (x1 : Int32) (x2 : Int32) (x3 : Int32) (x5 : Int32) (y0 : Int32) (s : aS) : Option (Int32) :=
  k14 x1 x2 x3 y0 (x5 + 1) s
set_option maxRecDepth 100000 in
theorem dt239_57 {sio : Bool} {tt : Nat} {cc : Nat → Nat → Int32} {d : Nat} (hd : 3 ≤ d) {k14 : Int32 → Int32 → Int32 → Int32 → Int32 → aS → Option (Int32)} (hk14 : ∀ {x1 : Int32} {x2 : Int32} {x3 : Int32} {x4 : Int32} {x5 : Int32} {g6 : Option Value} {s : aS}, Ly tt cc s → ∀ {o : Int32}, k14 x1 x2 x3 x4 x5 s = some o → Q 2 sio tt cc d 239 14 [some (.ref 121), some (.int x1), some (.int x2), some (.int x3), some (.int x4), some (.int x5), g6] [] s (.inl (some (.int o)), s)) {x1 : Int32} {x2 : Int32} {x3 : Int32} {x5 : Int32} {y0 : Int32} {x4 : Int32} {x6 : Int32} {s : aS} (hl : Ly tt cc s) {o : Int32} (h : dm239_57 k14 x1 x2 x3 x5 y0 s = some o) : Q 2 sio tt cc d 239 57 [some (.ref 121), some (.int x1), some (.int x2), some (.int x3), some (.int x4), some (.int x5), some (.int x6)] [.int y0] s (.inl (some (.int o)), s) := by
  unfold dm239_57 at h
  obtain ⟨d, rfl⟩ : ∃ e, d = e + 1 := ⟨d - 1, by omega⟩
  refine Q.run zm239 3 (i' := 14) (ls' := [some (.ref 121), some (.int x1), some (.int x2), some (.int x3), some (.int y0), some (.int (x5 + 1)), some (.int x6)]) (st' := []) rfl ?_
  exact hk14 hl  h
def dm239_79 (x1 : Int32) (x2 : Int32) (y0 : Int32) (s : aS) : Option (Int32) :=
  if x2 = 0 then
    dm239_96 s
  else
    if y0 = 0 then
      bu (dm240 x1 1414681925 4 s) fun r5 =>
      if r5 = 0 then
        bu (dm240 x1 301743231813 5 s) fun r9 =>
        if r9 = 0 then
          some 0
        else
          dm239_96 s
      else
        dm239_96 s
    else
      dm239_96 s
set_option maxRecDepth 100000 in
theorem dt239_79 {sio : Bool} {tt : Nat} {cc : Nat → Nat → Int32} {d : Nat} (hd : 3 ≤ d) {x1 : Int32} {x2 : Int32} {y0 : Int32} {x3 : Int32} {x4 : Int32} {x5 : Int32} {g6 : Option Value} {s : aS} (hl : Ly tt cc s) {o : Int32} (h : dm239_79  x1 x2 y0 s = some o) : Q 2 sio tt cc d 239 79 [some (.ref 121), some (.int x1), some (.int x2), some (.int x3), some (.int x4), some (.int x5), g6] [.int y0] s (.inl (some (.int o)), s) := by
  unfold dm239_79 at h
  obtain ⟨d, rfl⟩ : ∃ e, d = e + 1 := ⟨d - 1, by omega⟩
  refine Q.run zm239 2 (i' := 81) (ls' := [some (.ref 121), some (.int x1), some (.int x2), some (.int x3), some (.int x4), some (.int y0), g6]) (st' := [.int x2]) rfl ?_
  by_cases hc1 : x2 = 0
  · rw [if_pos hc1] at h
    refine Q.map (A.zT (gI_of zm239 (e := (146, 3, .ifCond .eq 32, [96])) rfl) (decide_eq_true hc1)) ?_
    exact dt239_96 hd hl  h
  · rw [if_neg hc1] at h
    refine Q.map (A.zF (gI_of zm239 (e := (146, 3, .ifCond .eq 32, [96])) rfl) (fun q => hc1 (of_decide_eq_true q))) ?_
    refine Q.run zm239 1 (i' := 83) (ls' := [some (.ref 121), some (.int x1), some (.int x2), some (.int x3), some (.int x4), some (.int y0), g6]) (st' := [.int y0]) rfl ?_
    by_cases hc2 : y0 = 0
    · rw [if_pos hc2] at h
      refine Q.map (A.zF (gI_of zm239 (e := (151, 3, .ifCond .ne 27, [96])) rfl) (fun q => of_decide_eq_true q hc2)) ?_
      refine Q.run zm239 4 (i' := 88) (ls' := [some (.ref 121), some (.int x1), some (.int x2), some (.int x3), some (.int x4), some (.int y0), g6]) (st' := [.int 4, .long 1414681925, .int x1, .ref 121]) rfl ?_
      obtain ⟨r5, hc4, h⟩ := bu_so h
      have hq3 : Q 2 sio tt cc d 240 0 [some (.ref 121), some (.int x1), some (.long 1414681925), none, some (.int 4), none, none] [] s (.inl (some (.int r5)), s) := dt240 (by omega) hl  hc4
      refine Q.callI (gC_vi zm239 (show zM239.2.2.2.2.2[88]? = some (160, 3, .invokevirtual 343, [0, 240, 3, 9]) from rfl) zm240 (hl.lt (a := 121) (by decide)) (hl.T (a := 121) (p := (9, 45)) 43 rfl rfl) rfl (show aCr 3 121 [.int 4, .long 1414681925, .int x1, .ref 121] 7 = some ([some (.ref 121), some (.int x1), some (.long 1414681925), none, some (.int 4), none, none], []) from rfl)) hq3 ?_
      by_cases hc6 : r5 = 0
      · rw [if_pos hc6] at h
        refine Q.map (A.zF (gI_of zm239 (e := (163, 3, .ifCond .ne 15, [96])) rfl) (fun q => of_decide_eq_true q hc6)) ?_
        refine Q.run zm239 4 (i' := 94) (ls' := [some (.ref 121), some (.int x1), some (.int x2), some (.int x3), some (.int x4), some (.int y0), g6]) (st' := [.int 5, .long 301743231813, .int x1, .ref 121]) rfl ?_
        obtain ⟨r9, hc8, h⟩ := bu_so h
        have hq7 : Q 2 sio tt cc d 240 0 [some (.ref 121), some (.int x1), some (.long 301743231813), none, some (.int 5), none, none] [] s (.inl (some (.int r9)), s) := dt240 (by omega) hl  hc8
        refine Q.callI (gC_vi zm239 (show zM239.2.2.2.2.2[94]? = some (172, 3, .invokevirtual 343, [0, 240, 3, 9]) from rfl) zm240 (hl.lt (a := 121) (by decide)) (hl.T (a := 121) (p := (9, 45)) 43 rfl rfl) rfl (show aCr 3 121 [.int 5, .long 301743231813, .int x1, .ref 121] 7 = some ([some (.ref 121), some (.int x1), some (.long 301743231813), none, some (.int 5), none, none], []) from rfl)) hq7 ?_
        by_cases hc10 : r9 = 0
        · rw [if_pos hc10] at h
          refine Q.map (A.zT (gI_of zm239 (e := (175, 3, .ifCond .eq 7, [98])) rfl) (decide_eq_true hc10)) ?_
          refine Q.run zm239 1 (i' := 99) (ls' := [some (.ref 121), some (.int x1), some (.int x2), some (.int x3), some (.int x4), some (.int y0), g6]) (st' := [.int 0]) rfl ?_
          cases h
          exact Q.ret (A.ri zm239 (show zM239.2.2.2.2.2[99]? = some (183, 1, .ireturn, []) from rfl) rfl rfl) hl
        · rw [if_neg hc10] at h
          refine Q.map (A.zF (gI_of zm239 (e := (175, 3, .ifCond .eq 7, [98])) rfl) (fun q => hc10 (of_decide_eq_true q))) ?_
          exact dt239_96 hd hl  h
      · rw [if_neg hc6] at h
        refine Q.map (A.zT (gI_of zm239 (e := (163, 3, .ifCond .ne 15, [96])) rfl) (decide_eq_true hc6)) ?_
        exact dt239_96 hd hl  h
    · rw [if_neg hc2] at h
      refine Q.map (A.zT (gI_of zm239 (e := (151, 3, .ifCond .ne 27, [96])) rfl) (decide_eq_true hc2)) ?_
      exact dt239_96 hd hl  h
def dm239_48 (k14 : Int32 → Int32 → Int32 → Int32 → Int32 → aS → Option (Int32)) (x1 : Int32) (x2 : Int32) (x4 : Int32) (x5 : Int32) (x6 : Int32) (y0 : Int32) (s : aS) : Option (Int32) :=
  bu (dm196 x6) fun r3 =>
  if r3 = 0 then
    dm239_57 k14 x1 x2 y0 x5 x4 s
  else
    dm239_57 k14 x1 x2 y0 x5 (x4 + 1) s
set_option maxRecDepth 100000 in
theorem dt239_48 {sio : Bool} {tt : Nat} {cc : Nat → Nat → Int32} {d : Nat} (hd : 3 ≤ d) {k14 : Int32 → Int32 → Int32 → Int32 → Int32 → aS → Option (Int32)} (hk14 : ∀ {x1 : Int32} {x2 : Int32} {x3 : Int32} {x4 : Int32} {x5 : Int32} {g6 : Option Value} {s : aS}, Ly tt cc s → ∀ {o : Int32}, k14 x1 x2 x3 x4 x5 s = some o → Q 2 sio tt cc d 239 14 [some (.ref 121), some (.int x1), some (.int x2), some (.int x3), some (.int x4), some (.int x5), g6] [] s (.inl (some (.int o)), s)) {x1 : Int32} {x2 : Int32} {x4 : Int32} {x5 : Int32} {x6 : Int32} {y0 : Int32} {x3 : Int32} {s : aS} (hl : Ly tt cc s) {o : Int32} (h : dm239_48 k14 x1 x2 x4 x5 x6 y0 s = some o) : Q 2 sio tt cc d 239 48 [some (.ref 121), some (.int x1), some (.int x2), some (.int x3), some (.int x4), some (.int x5), some (.int x6)] [.int y0] s (.inl (some (.int o)), s) := by
  unfold dm239_48 at h
  obtain ⟨d, rfl⟩ : ∃ e, d = e + 1 := ⟨d - 1, by omega⟩
  refine Q.run zm239 2 (i' := 50) (ls' := [some (.ref 121), some (.int x1), some (.int x2), some (.int y0), some (.int x4), some (.int x5), some (.int x6)]) (st' := [.int x6]) rfl ?_
  obtain ⟨r3, hc2, h⟩ := bu_so h
  have hq1 : Q 2 sio tt cc d 196 0 [some (.int x6)] [] s (.inl (some (.int r3)), s) := dt196 (by omega) hl  hc2
  refine Q.callI (gC_st zm239 (show zM239.2.2.2.2.2[50]? = some (87, 3, .invokestatic 100, [0, 196, 1]) from rfl) zm196 (show aC 1 [.int x6] 1 = some ([some (.int x6)], []) from rfl)) hq1 ?_
  by_cases hc4 : r3 = 0
  · rw [if_pos hc4] at h
    refine Q.map (A.zT (gI_of zm239 (e := (90, 3, .ifCond .eq 10, [56])) rfl) (decide_eq_true hc4)) ?_
    refine Q.run zm239 1 (i' := 57) (ls' := [some (.ref 121), some (.int x1), some (.int x2), some (.int y0), some (.int x4), some (.int x5), some (.int x6)]) (st' := [.int x4]) rfl ?_
    exact dt239_57 hd hk14 hl  h
  · rw [if_neg hc4] at h
    refine Q.map (A.zF (gI_of zm239 (e := (90, 3, .ifCond .eq 10, [56])) rfl) (fun q => hc4 (of_decide_eq_true q))) ?_
    refine Q.run zm239 4 (i' := 57) (ls' := [some (.ref 121), some (.int x1), some (.int x2), some (.int y0), some (.int x4), some (.int x5), some (.int x6)]) (st' := [.int (x4 + 1)]) rfl ?_
    exact dt239_57 hd hk14 hl  h
def dm239_78 (x1 : Int32) (x2 : Int32) (s : aS) : Option (Int32) :=
  dm239_79 x1 x2 0 s
set_option maxRecDepth 100000 in
theorem dt239_78 {sio : Bool} {tt : Nat} {cc : Nat → Nat → Int32} {d : Nat} (hd : 3 ≤ d) {x1 : Int32} {x2 : Int32} {x3 : Int32} {x4 : Int32} {x5 : Int32} {g6 : Option Value} {s : aS} (hl : Ly tt cc s) {o : Int32} (h : dm239_78  x1 x2 s = some o) : Q 2 sio tt cc d 239 78 [some (.ref 121), some (.int x1), some (.int x2), some (.int x3), some (.int x4), some (.int x5), g6] [] s (.inl (some (.int o)), s) := by
  unfold dm239_78 at h
  obtain ⟨d, rfl⟩ : ∃ e, d = e + 1 := ⟨d - 1, by omega⟩
  refine Q.run zm239 1 (i' := 79) (ls' := [some (.ref 121), some (.int x1), some (.int x2), some (.int x3), some (.int x4), some (.int x5), g6]) (st' := [.int 0]) rfl ?_
  exact dt239_79 hd hl  h
def dm239_47 (k14 : Int32 → Int32 → Int32 → Int32 → Int32 → aS → Option (Int32)) (x1 : Int32) (x2 : Int32) (x3 : Int32) (x4 : Int32) (x5 : Int32) (x6 : Int32) (s : aS) : Option (Int32) :=
  dm239_48 k14 x1 x2 x4 x5 x6 x3 s
set_option maxRecDepth 100000 in
theorem dt239_47 {sio : Bool} {tt : Nat} {cc : Nat → Nat → Int32} {d : Nat} (hd : 3 ≤ d) {k14 : Int32 → Int32 → Int32 → Int32 → Int32 → aS → Option (Int32)} (hk14 : ∀ {x1 : Int32} {x2 : Int32} {x3 : Int32} {x4 : Int32} {x5 : Int32} {g6 : Option Value} {s : aS}, Ly tt cc s → ∀ {o : Int32}, k14 x1 x2 x3 x4 x5 s = some o → Q 2 sio tt cc d 239 14 [some (.ref 121), some (.int x1), some (.int x2), some (.int x3), some (.int x4), some (.int x5), g6] [] s (.inl (some (.int o)), s)) {x1 : Int32} {x2 : Int32} {x3 : Int32} {x4 : Int32} {x5 : Int32} {x6 : Int32} {s : aS} (hl : Ly tt cc s) {o : Int32} (h : dm239_47 k14 x1 x2 x3 x4 x5 x6 s = some o) : Q 2 sio tt cc d 239 47 [some (.ref 121), some (.int x1), some (.int x2), some (.int x3), some (.int x4), some (.int x5), some (.int x6)] [] s (.inl (some (.int o)), s) := by
  unfold dm239_47 at h
  obtain ⟨d, rfl⟩ : ∃ e, d = e + 1 := ⟨d - 1, by omega⟩
  refine Q.run zm239 1 (i' := 48) (ls' := [some (.ref 121), some (.int x1), some (.int x2), some (.int x3), some (.int x4), some (.int x5), some (.int x6)]) (st' := [.int x3]) rfl ?_
  exact dt239_48 hd hk14 hl  h
def dm239_37 (k14 : Int32 → Int32 → Int32 → Int32 → Int32 → aS → Option (Int32)) (x1 : Int32) (x3 : Int32) (x4 : Int32) (x5 : Int32) (x6 : Int32) (y0 : Int32) (s : aS) : Option (Int32) :=
  bu (dm198 x6) fun r3 =>
  if r3 = 0 then
    dm239_47 k14 x1 y0 x3 x4 x5 x6 s
  else
    if x4 = 0 then
      dm239_48 k14 x1 y0 x4 x5 x6 (x3 + 1) s
    else
      dm239_47 k14 x1 y0 x3 x4 x5 x6 s
set_option maxRecDepth 100000 in
theorem dt239_37 {sio : Bool} {tt : Nat} {cc : Nat → Nat → Int32} {d : Nat} (hd : 3 ≤ d) {k14 : Int32 → Int32 → Int32 → Int32 → Int32 → aS → Option (Int32)} (hk14 : ∀ {x1 : Int32} {x2 : Int32} {x3 : Int32} {x4 : Int32} {x5 : Int32} {g6 : Option Value} {s : aS}, Ly tt cc s → ∀ {o : Int32}, k14 x1 x2 x3 x4 x5 s = some o → Q 2 sio tt cc d 239 14 [some (.ref 121), some (.int x1), some (.int x2), some (.int x3), some (.int x4), some (.int x5), g6] [] s (.inl (some (.int o)), s)) {x1 : Int32} {x3 : Int32} {x4 : Int32} {x5 : Int32} {x6 : Int32} {y0 : Int32} {x2 : Int32} {s : aS} (hl : Ly tt cc s) {o : Int32} (h : dm239_37 k14 x1 x3 x4 x5 x6 y0 s = some o) : Q 2 sio tt cc d 239 37 [some (.ref 121), some (.int x1), some (.int x2), some (.int x3), some (.int x4), some (.int x5), some (.int x6)] [.int y0] s (.inl (some (.int o)), s) := by
  unfold dm239_37 at h
  obtain ⟨d, rfl⟩ : ∃ e, d = e + 1 := ⟨d - 1, by omega⟩
  refine Q.run zm239 2 (i' := 39) (ls' := [some (.ref 121), some (.int x1), some (.int y0), some (.int x3), some (.int x4), some (.int x5), some (.int x6)]) (st' := [.int x6]) rfl ?_
  obtain ⟨r3, hc2, h⟩ := bu_so h
  have hq1 : Q 2 sio tt cc d 198 0 [some (.int x6)] [] s (.inl (some (.int r3)), s) := dt198 (by omega) hl  hc2
  refine Q.callI (gC_st zm239 (show zM239.2.2.2.2.2[39]? = some (66, 3, .invokestatic 93, [0, 198, 1]) from rfl) zm198 (show aC 1 [.int x6] 1 = some ([some (.int x6)], []) from rfl)) hq1 ?_
  by_cases hc4 : r3 = 0
  · rw [if_pos hc4] at h
    refine Q.map (A.zT (gI_of zm239 (e := (69, 3, .ifCond .eq 14, [47])) rfl) (decide_eq_true hc4)) ?_
    exact dt239_47 hd hk14 hl  h
  · rw [if_neg hc4] at h
    refine Q.map (A.zF (gI_of zm239 (e := (69, 3, .ifCond .eq 14, [47])) rfl) (fun q => hc4 (of_decide_eq_true q))) ?_
    refine Q.run zm239 1 (i' := 42) (ls' := [some (.ref 121), some (.int x1), some (.int y0), some (.int x3), some (.int x4), some (.int x5), some (.int x6)]) (st' := [.int x4]) rfl ?_
    by_cases hc5 : x4 = 0
    · rw [if_pos hc5] at h
      refine Q.map (A.zF (gI_of zm239 (e := (74, 3, .ifCond .ne 9, [47])) rfl) (fun q => of_decide_eq_true q hc5)) ?_
      refine Q.run zm239 4 (i' := 48) (ls' := [some (.ref 121), some (.int x1), some (.int y0), some (.int x3), some (.int x4), some (.int x5), some (.int x6)]) (st' := [.int (x3 + 1)]) rfl ?_
      exact dt239_48 hd hk14 hl  h
    · rw [if_neg hc5] at h
      refine Q.map (A.zT (gI_of zm239 (e := (74, 3, .ifCond .ne 9, [47])) rfl) (decide_eq_true hc5)) ?_
      exact dt239_47 hd hk14 hl  h
def dm239_36 (k14 : Int32 → Int32 → Int32 → Int32 → Int32 → aS → Option (Int32)) (x1 : Int32) (x3 : Int32) (x4 : Int32) (x5 : Int32) (x6 : Int32) (s : aS) : Option (Int32) :=
  dm239_37 k14 x1 x3 x4 x5 x6 0 s
set_option maxRecDepth 100000 in
theorem dt239_36 {sio : Bool} {tt : Nat} {cc : Nat → Nat → Int32} {d : Nat} (hd : 3 ≤ d) {k14 : Int32 → Int32 → Int32 → Int32 → Int32 → aS → Option (Int32)} (hk14 : ∀ {x1 : Int32} {x2 : Int32} {x3 : Int32} {x4 : Int32} {x5 : Int32} {g6 : Option Value} {s : aS}, Ly tt cc s → ∀ {o : Int32}, k14 x1 x2 x3 x4 x5 s = some o → Q 2 sio tt cc d 239 14 [some (.ref 121), some (.int x1), some (.int x2), some (.int x3), some (.int x4), some (.int x5), g6] [] s (.inl (some (.int o)), s)) {x1 : Int32} {x3 : Int32} {x4 : Int32} {x5 : Int32} {x6 : Int32} {x2 : Int32} {s : aS} (hl : Ly tt cc s) {o : Int32} (h : dm239_36 k14 x1 x3 x4 x5 x6 s = some o) : Q 2 sio tt cc d 239 36 [some (.ref 121), some (.int x1), some (.int x2), some (.int x3), some (.int x4), some (.int x5), some (.int x6)] [] s (.inl (some (.int o)), s) := by
  unfold dm239_36 at h
  obtain ⟨d, rfl⟩ : ∃ e, d = e + 1 := ⟨d - 1, by omega⟩
  refine Q.run zm239 1 (i' := 37) (ls' := [some (.ref 121), some (.int x1), some (.int x2), some (.int x3), some (.int x4), some (.int x5), some (.int x6)]) (st' := [.int 0]) rfl ?_
  exact dt239_37 hd hk14 hl  h
def dm239_14 : Nat → Int32 → Int32 → Int32 → Int32 → Int32 → aS → Option (Int32)
  | 0, _, _, _, _, _, _ => none
  | n + 1, x1, x2, x3, x4, x5, s =>
    if aB x1 8 then
      if (sI s 123 (jN x1)) ≤ x5 then
        if x3 < 1 then
          dm239_78 x1 x2 s
        else
          if 3 < x3 then
            dm239_78 x1 x2 s
          else
            if x4 ≤ 0 then
              dm239_78 x1 x2 s
            else
              if aB x1 8 then
                if (x3 + x4) = (sI s 123 (jN x1)) then
                  dm239_79 x1 x2 1 s
                else
                  dm239_78 x1 x2 s
              else none
      else
        if aB ((32 * x1) + x5) 256 then
          if x2 = 0 then
            dm239_36 (dm239_14 n) x1 x3 x4 x5 (sI s 124 (jN ((32 * x1) + x5))) s
          else
            bu (dm211 (sI s 124 (jN ((32 * x1) + x5)))) fun r12 =>
            if r12 = 0 then
              dm239_36 (dm239_14 n) x1 x3 x4 x5 (sI s 124 (jN ((32 * x1) + x5))) s
            else
              dm239_37 (dm239_14 n) x1 x3 x4 x5 (sI s 124 (jN ((32 * x1) + x5))) 1 s
        else none
    else none
set_option maxRecDepth 100000 in
theorem dt239_14 {sio : Bool} {tt : Nat} {cc : Nat → Nat → Int32} {d : Nat} (hd : 3 ≤ d) : ∀ (n : Nat) {x1 : Int32} {x2 : Int32} {x3 : Int32} {x4 : Int32} {x5 : Int32} {g6 : Option Value} {s : aS} (_ : Ly tt cc s) {o : Int32} (_ : dm239_14  n x1 x2 x3 x4 x5 s = some o), Q 2 sio tt cc d 239 14 [some (.ref 121), some (.int x1), some (.int x2), some (.int x3), some (.int x4), some (.int x5), g6] [] s (.inl (some (.int o)), s) := by
  obtain ⟨d, rfl⟩ : ∃ e, d = e + 1 := ⟨d - 1, by omega⟩
  intro n
  induction n with
  | zero => intro x1 x2 x3 x4 x5 g6 s hl o h; rw [dm239_14] at h; cases h
  | succ n ih =>
    intro x1 x2 x3 x4 x5 g6 s hl o h
    rw [dm239_14] at h
    refine Q.run zm239 2 (i' := 16) (ls' := [some (.ref 121), some (.int x1), some (.int x2), some (.int x3), some (.int x4), some (.int x5), g6]) (st' := [.ref 121, .int x5]) rfl ?_
    refine Q.map (A.gf (gI_of zm239 (e := (24, 3, .getfield 13, [9, 4])) rfl) (hl.lt (a := 121) (by decide)) (hl.T (a := 121) (p := (9, 45)) 43 rfl rfl) (by decide) (hl.R 24 rfl)) ?_
    refine Q.run zm239 1 (i' := 18) (ls' := [some (.ref 121), some (.int x1), some (.int x2), some (.int x3), some (.int x4), some (.int x5), g6]) (st' := [.int x1, .ref 123, .int x5]) rfl ?_
    obtain ⟨hc1, h⟩ := ite_so h
    refine Q.map (A.ia (gI_of zm239 (e := (28, 1, .iaload, [])) rfl) (hl.lt (a := 123) (by decide)) (hl.T (a := 123) (p := (100, 8)) 45 rfl rfl) hc1) ?_
    by_cases hc2 : (sI s 123 (jN x1)) ≤ x5
    · rw [if_pos hc2] at h
      refine Q.map (A.bT (gI_of zm239 (e := (29, 3, .if_icmp .ge 81, [60])) rfl) (decide_eq_true hc2)) ?_
      refine Q.run zm239 2 (i' := 62) (ls' := [some (.ref 121), some (.int x1), some (.int x2), some (.int x3), some (.int x4), some (.int x5), g6]) (st' := [.int 1, .int x3]) rfl ?_
      by_cases hc3 : x3 < 1
      · rw [if_pos hc3] at h
        refine Q.map (A.bT (gI_of zm239 (e := (112, 3, .if_icmp .lt 30, [78])) rfl) (decide_eq_true hc3)) ?_
        exact dt239_78 hd hl  h
      · rw [if_neg hc3] at h
        refine Q.map (A.bF (gI_of zm239 (e := (112, 3, .if_icmp .lt 30, [78])) rfl) (fun q => hc3 (of_decide_eq_true q))) ?_
        refine Q.run zm239 2 (i' := 65) (ls' := [some (.ref 121), some (.int x1), some (.int x2), some (.int x3), some (.int x4), some (.int x5), g6]) (st' := [.int 3, .int x3]) rfl ?_
        by_cases hc4 : 3 < x3
        · rw [if_pos hc4] at h
          refine Q.map (A.bT (gI_of zm239 (e := (117, 3, .if_icmp .gt 25, [78])) rfl) (decide_eq_true hc4)) ?_
          exact dt239_78 hd hl  h
        · rw [if_neg hc4] at h
          refine Q.map (A.bF (gI_of zm239 (e := (117, 3, .if_icmp .gt 25, [78])) rfl) (fun q => hc4 (of_decide_eq_true q))) ?_
          refine Q.run zm239 1 (i' := 67) (ls' := [some (.ref 121), some (.int x1), some (.int x2), some (.int x3), some (.int x4), some (.int x5), g6]) (st' := [.int x4]) rfl ?_
          by_cases hc5 : x4 ≤ 0
          · rw [if_pos hc5] at h
            refine Q.map (A.zT (gI_of zm239 (e := (122, 3, .ifCond .le 20, [78])) rfl) (decide_eq_true hc5)) ?_
            exact dt239_78 hd hl  h
          · rw [if_neg hc5] at h
            refine Q.map (A.zF (gI_of zm239 (e := (122, 3, .ifCond .le 20, [78])) rfl) (fun q => hc5 (of_decide_eq_true q))) ?_
            refine Q.run zm239 4 (i' := 72) (ls' := [some (.ref 121), some (.int x1), some (.int x2), some (.int x3), some (.int x4), some (.int x5), g6]) (st' := [.ref 121, .int (x3 + x4)]) rfl ?_
            refine Q.map (A.gf (gI_of zm239 (e := (130, 3, .getfield 13, [9, 4])) rfl) (hl.lt (a := 121) (by decide)) (hl.T (a := 121) (p := (9, 45)) 43 rfl rfl) (by decide) (hl.R 24 rfl)) ?_
            refine Q.run zm239 1 (i' := 74) (ls' := [some (.ref 121), some (.int x1), some (.int x2), some (.int x3), some (.int x4), some (.int x5), g6]) (st' := [.int x1, .ref 123, .int (x3 + x4)]) rfl ?_
            obtain ⟨hc6, h⟩ := ite_so h
            refine Q.map (A.ia (gI_of zm239 (e := (134, 1, .iaload, [])) rfl) (hl.lt (a := 123) (by decide)) (hl.T (a := 123) (p := (100, 8)) 45 rfl rfl) hc6) ?_
            by_cases hc7 : (x3 + x4) = (sI s 123 (jN x1))
            · rw [if_pos hc7] at h
              refine Q.map (A.bF (gI_of zm239 (e := (135, 3, .if_icmp .ne 7, [78])) rfl) (fun q => of_decide_eq_true q hc7)) ?_
              refine Q.run zm239 2 (i' := 79) (ls' := [some (.ref 121), some (.int x1), some (.int x2), some (.int x3), some (.int x4), some (.int x5), g6]) (st' := [.int 1]) rfl ?_
              exact dt239_79 hd hl  h
            · rw [if_neg hc7] at h
              refine Q.map (A.bT (gI_of zm239 (e := (135, 3, .if_icmp .ne 7, [78])) rfl) (decide_eq_true hc7)) ?_
              exact dt239_78 hd hl  h
    · rw [if_neg hc2] at h
      refine Q.map (A.bF (gI_of zm239 (e := (29, 3, .if_icmp .ge 81, [60])) rfl) (fun q => hc2 (of_decide_eq_true q))) ?_
      refine Q.run zm239 1 (i' := 21) (ls' := [some (.ref 121), some (.int x1), some (.int x2), some (.int x3), some (.int x4), some (.int x5), g6]) (st' := [.ref 121]) rfl ?_
      refine Q.map (A.gf (gI_of zm239 (e := (33, 3, .getfield 16, [9, 5])) rfl) (hl.lt (a := 121) (by decide)) (hl.T (a := 121) (p := (9, 45)) 43 rfl rfl) (by decide) (hl.R 25 rfl)) ?_
      refine Q.run zm239 5 (i' := 27) (ls' := [some (.ref 121), some (.int x1), some (.int x2), some (.int x3), some (.int x4), some (.int x5), g6]) (st' := [.int ((32 * x1) + x5), .ref 124]) rfl ?_
      obtain ⟨hc8, h⟩ := ite_so h
      refine Q.map (A.ia (gI_of zm239 (e := (43, 1, .iaload, [])) rfl) (hl.lt (a := 124) (by decide)) (hl.T (a := 124) (p := (100, 256)) 46 rfl rfl) hc8) ?_
      refine Q.run zm239 2 (i' := 30) (ls' := [some (.ref 121), some (.int x1), some (.int x2), some (.int x3), some (.int x4), some (.int x5), some (.int (sI s 124 (jN ((32 * x1) + x5))))]) (st' := [.int x2]) rfl ?_
      by_cases hc9 : x2 = 0
      · rw [if_pos hc9] at h
        refine Q.map (A.zT (gI_of zm239 (e := (47, 3, .ifCond .eq 15, [36])) rfl) (decide_eq_true hc9)) ?_
        exact dt239_36 hd ih hl  h
      · rw [if_neg hc9] at h
        refine Q.map (A.zF (gI_of zm239 (e := (47, 3, .ifCond .eq 15, [36])) rfl) (fun q => hc9 (of_decide_eq_true q))) ?_
        refine Q.run zm239 1 (i' := 32) (ls' := [some (.ref 121), some (.int x1), some (.int x2), some (.int x3), some (.int x4), some (.int x5), some (.int (sI s 124 (jN ((32 * x1) + x5))))]) (st' := [.int (sI s 124 (jN ((32 * x1) + x5)))]) rfl ?_
        obtain ⟨r12, hc11, h⟩ := bu_so h
        have hq10 : Q 2 sio tt cc d 211 0 [some (.int (sI s 124 (jN ((32 * x1) + x5))))] [] s (.inl (some (.int r12)), s) := dt211 (by omega) hl  hc11
        refine Q.callI (gC_st zm239 (show zM239.2.2.2.2.2[32]? = some (52, 3, .invokestatic 228, [0, 211, 1]) from rfl) zm211 (show aC 1 [.int (sI s 124 (jN ((32 * x1) + x5)))] 1 = some ([some (.int (sI s 124 (jN ((32 * x1) + x5))))], []) from rfl)) hq10 ?_
        by_cases hc13 : r12 = 0
        · rw [if_pos hc13] at h
          refine Q.map (A.zT (gI_of zm239 (e := (55, 3, .ifCond .eq 7, [36])) rfl) (decide_eq_true hc13)) ?_
          exact dt239_36 hd ih hl  h
        · rw [if_neg hc13] at h
          refine Q.map (A.zF (gI_of zm239 (e := (55, 3, .ifCond .eq 7, [36])) rfl) (fun q => hc13 (of_decide_eq_true q))) ?_
          refine Q.run zm239 2 (i' := 37) (ls' := [some (.ref 121), some (.int x1), some (.int x2), some (.int x3), some (.int x4), some (.int x5), some (.int (sI s 124 (jN ((32 * x1) + x5))))]) (st' := [.int 1]) rfl ?_
          exact dt239_37 hd ih hl  h
def dm239 (x1 : Int32) (s : aS) : Option (Int32) :=
  if aB (32 * x1) 256 then
    bu (dm197 (sI s 124 (jN (32 * x1)))) fun r4 =>
    dm239_14 5000 x1 r4 0 0 0 s
  else none
set_option maxRecDepth 100000 in
theorem dt239 {sio : Bool} {tt : Nat} {cc : Nat → Nat → Int32} {d : Nat} (hd : 3 ≤ d) {x1 : Int32} {s : aS} (hl : Ly tt cc s) {o : Int32} (h : dm239  x1 s = some o) : Q 2 sio tt cc d 239 0 [some (.ref 121), some (.int x1), none, none, none, none, none] [] s (.inl (some (.int o)), s) := by
  unfold dm239 at h
  obtain ⟨d, rfl⟩ : ∃ e, d = e + 1 := ⟨d - 1, by omega⟩
  refine Q.run zm239 1 (i' := 1) (ls' := [some (.ref 121), some (.int x1), none, none, none, none, none]) (st' := [.ref 121]) rfl ?_
  refine Q.map (A.gf (gI_of zm239 (e := (1, 3, .getfield 16, [9, 5])) rfl) (hl.lt (a := 121) (by decide)) (hl.T (a := 121) (p := (9, 45)) 43 rfl rfl) (by decide) (hl.R 25 rfl)) ?_
  refine Q.run zm239 3 (i' := 5) (ls' := [some (.ref 121), some (.int x1), none, none, none, none, none]) (st' := [.int (32 * x1), .ref 124]) rfl ?_
  obtain ⟨hc1, h⟩ := ite_so h
  refine Q.map (A.ia (gI_of zm239 (e := (8, 1, .iaload, [])) rfl) (hl.lt (a := 124) (by decide)) (hl.T (a := 124) (p := (100, 256)) 46 rfl rfl) hc1) ?_
  obtain ⟨r4, hc3, h⟩ := bu_so h
  have hq2 : Q 2 sio tt cc d 197 0 [some (.int (sI s 124 (jN (32 * x1))))] [] s (.inl (some (.int r4)), s) := dt197 (by omega) hl  hc3
  refine Q.callI (gC_st zm239 (show zM239.2.2.2.2.2[6]? = some (9, 3, .invokestatic 97, [0, 197, 1]) from rfl) zm197 (show aC 1 [.int (sI s 124 (jN (32 * x1)))] 1 = some ([some (.int (sI s 124 (jN (32 * x1))))], []) from rfl)) hq2 ?_
  refine Q.run zm239 7 (i' := 14) (ls' := [some (.ref 121), some (.int x1), some (.int r4), some (.int 0), some (.int 0), some (.int 0), none]) (st' := []) rfl ?_
  exact dt239_14 hd _ hl  h
/-! 238 FormulaTreesModel.putPrefix(I)V -/
set_option maxRecDepth 100000 in
theorem zm238 : zP[238]? = some zM238 := rfl
def dm238_45 (s : aS) : Option (aS) :=
  bu (dm235 33 s) fun s3 =>
  some s3
set_option maxRecDepth 100000 in
theorem dt238_45 {sio : Bool} {tt : Nat} {cc : Nat → Nat → Int32} {d : Nat} (hd : 4 ≤ d) {x1 : Int32} {x2 : Int32} {x3 : Int32} {g4 : Option Value} {s : aS} (hl : Ly tt cc s) {o : aS} (h : dm238_45  s = some o) : Q 2 sio tt cc d 238 45 [some (.ref 121), some (.int x1), some (.int x2), some (.int x3), g4] [] s (.inl none, o) := by
  unfold dm238_45 at h
  obtain ⟨d, rfl⟩ : ∃ e, d = e + 1 := ⟨d - 1, by omega⟩
  refine Q.run zm238 2 (i' := 47) (ls' := [some (.ref 121), some (.int x1), some (.int x2), some (.int x3), g4]) (st' := [.int 33, .ref 121]) rfl ?_
  obtain ⟨s3, hc2, h⟩ := bu_so h
  have hq1 : Q 2 sio tt cc d 235 0 [some (.ref 121), some (.int 33)] [] s (.inl none, s3) := dt235 (by omega) hl  hc2
  refine Q.callV (gC_vi zm238 (show zM238.2.2.2.2.2[47]? = some (84, 3, .invokevirtual 337, [0, 235, 1, 9]) from rfl) zm235 (hl.lt (a := 121) (by decide)) (hl.T (a := 121) (p := (9, 45)) 43 rfl rfl) rfl (show aCr 1 121 [.int 33, .ref 121] 2 = some ([some (.ref 121), some (.int 33)], []) from rfl)) hq1 ?_
  cases h
  exact Q.ret (A.rv zm238 (show zM238.2.2.2.2.2[48]? = some (87, 1, .return_, []) from rfl) rfl) hq1.1
def dm238_35 (k14 : Int32 → Int32 → Int32 → aS → Option (aS)) (x1 : Int32) (x2 : Int32) (x3 : Int32) (x4 : Int32) (s : aS) : Option (aS) :=
  bu (dm235 x4 s) fun s3 =>
  k14 x1 x2 (x3 + 1) s3
set_option maxRecDepth 100000 in
theorem dt238_35 {sio : Bool} {tt : Nat} {cc : Nat → Nat → Int32} {d : Nat} (hd : 4 ≤ d) {k14 : Int32 → Int32 → Int32 → aS → Option (aS)} (hk14 : ∀ {x1 : Int32} {x2 : Int32} {x3 : Int32} {g4 : Option Value} {s : aS}, Ly tt cc s → ∀ {o : aS}, k14 x1 x2 x3 s = some o → Q 2 sio tt cc d 238 14 [some (.ref 121), some (.int x1), some (.int x2), some (.int x3), g4] [] s (.inl none, o)) {x1 : Int32} {x2 : Int32} {x3 : Int32} {x4 : Int32} {s : aS} (hl : Ly tt cc s) {o : aS} (h : dm238_35 k14 x1 x2 x3 x4 s = some o) : Q 2 sio tt cc d 238 35 [some (.ref 121), some (.int x1), some (.int x2), some (.int x3), some (.int x4)] [] s (.inl none, o) := by
  unfold dm238_35 at h
  obtain ⟨d, rfl⟩ : ∃ e, d = e + 1 := ⟨d - 1, by omega⟩
  refine Q.run zm238 2 (i' := 37) (ls' := [some (.ref 121), some (.int x1), some (.int x2), some (.int x3), some (.int x4)]) (st' := [.int x4, .ref 121]) rfl ?_
  obtain ⟨s3, hc2, h⟩ := bu_so h
  have hq1 : Q 2 sio tt cc d 235 0 [some (.ref 121), some (.int x4)] [] s (.inl none, s3) := dt235 (by omega) hl  hc2
  refine Q.callV (gC_vi zm238 (show zM238.2.2.2.2.2[37]? = some (62, 3, .invokevirtual 337, [0, 235, 1, 9]) from rfl) zm235 (hl.lt (a := 121) (by decide)) (hl.T (a := 121) (p := (9, 45)) 43 rfl rfl) rfl (show aCr 1 121 [.int x4, .ref 121] 2 = some ([some (.ref 121), some (.int x4)], []) from rfl)) hq1 ?_
  refine Q.run zm238 2 (i' := 14) (ls' := [some (.ref 121), some (.int x1), some (.int x2), some (.int (x3 + 1)), some (.int x4)]) (st' := []) rfl ?_
  exact hk14 hq1.1  h
def dm238_14 : Nat → Int32 → Int32 → Int32 → aS → Option (aS)
  | 0, _, _, _, _ => none
  | n + 1, x1, x2, x3, s =>
    if aB x1 8 then
      if (sI s 123 (jN x1)) ≤ x3 then
        if x2 = 0 then
          dm238_45 s
        else
          bu (dm235 39 s) fun s6 =>
          dm238_45 s6
      else
        if aB ((32 * x1) + x3) 256 then
          if (sI s 124 (jN ((32 * x1) + x3))) = 39 then
            bu (dm235 39 s) fun s11 =>
            dm238_35 (dm238_14 n) x1 x2 x3 (sI s 124 (jN ((32 * x1) + x3))) s11
          else
            dm238_35 (dm238_14 n) x1 x2 x3 (sI s 124 (jN ((32 * x1) + x3))) s
        else none
    else none
set_option maxRecDepth 100000 in
theorem dt238_14 {sio : Bool} {tt : Nat} {cc : Nat → Nat → Int32} {d : Nat} (hd : 4 ≤ d) : ∀ (n : Nat) {x1 : Int32} {x2 : Int32} {x3 : Int32} {g4 : Option Value} {s : aS} (_ : Ly tt cc s) {o : aS} (_ : dm238_14  n x1 x2 x3 s = some o), Q 2 sio tt cc d 238 14 [some (.ref 121), some (.int x1), some (.int x2), some (.int x3), g4] [] s (.inl none, o) := by
  obtain ⟨d, rfl⟩ : ∃ e, d = e + 1 := ⟨d - 1, by omega⟩
  intro n
  induction n with
  | zero => intro x1 x2 x3 g4 s hl o h; rw [dm238_14] at h; cases h
  | succ n ih =>
    intro x1 x2 x3 g4 s hl o h
    rw [dm238_14] at h
    refine Q.run zm238 2 (i' := 16) (ls' := [some (.ref 121), some (.int x1), some (.int x2), some (.int x3), g4]) (st' := [.ref 121, .int x3]) rfl ?_
    refine Q.map (A.gf (gI_of zm238 (e := (25, 3, .getfield 13, [9, 4])) rfl) (hl.lt (a := 121) (by decide)) (hl.T (a := 121) (p := (9, 45)) 43 rfl rfl) (by decide) (hl.R 24 rfl)) ?_
    refine Q.run zm238 1 (i' := 18) (ls' := [some (.ref 121), some (.int x1), some (.int x2), some (.int x3), g4]) (st' := [.int x1, .ref 123, .int x3]) rfl ?_
    obtain ⟨hc1, h⟩ := ite_so h
    refine Q.map (A.ia (gI_of zm238 (e := (29, 1, .iaload, [])) rfl) (hl.lt (a := 123) (by decide)) (hl.T (a := 123) (p := (100, 8)) 45 rfl rfl) hc1) ?_
    by_cases hc2 : (sI s 123 (jN x1)) ≤ x3
    · rw [if_pos hc2] at h
      refine Q.map (A.bT (gI_of zm238 (e := (30, 3, .if_icmp .ge 41, [40])) rfl) (decide_eq_true hc2)) ?_
      refine Q.run zm238 1 (i' := 41) (ls' := [some (.ref 121), some (.int x1), some (.int x2), some (.int x3), g4]) (st' := [.int x2]) rfl ?_
      by_cases hc3 : x2 = 0
      · rw [if_pos hc3] at h
        refine Q.map (A.zT (gI_of zm238 (e := (72, 3, .ifCond .eq 9, [45])) rfl) (decide_eq_true hc3)) ?_
        exact dt238_45 hd hl  h
      · rw [if_neg hc3] at h
        refine Q.map (A.zF (gI_of zm238 (e := (72, 3, .ifCond .eq 9, [45])) rfl) (fun q => hc3 (of_decide_eq_true q))) ?_
        refine Q.run zm238 2 (i' := 44) (ls' := [some (.ref 121), some (.int x1), some (.int x2), some (.int x3), g4]) (st' := [.int 39, .ref 121]) rfl ?_
        obtain ⟨s6, hc5, h⟩ := bu_so h
        have hq4 : Q 2 sio tt cc d 235 0 [some (.ref 121), some (.int 39)] [] s (.inl none, s6) := dt235 (by omega) hl  hc5
        refine Q.callV (gC_vi zm238 (show zM238.2.2.2.2.2[44]? = some (78, 3, .invokevirtual 337, [0, 235, 1, 9]) from rfl) zm235 (hl.lt (a := 121) (by decide)) (hl.T (a := 121) (p := (9, 45)) 43 rfl rfl) rfl (show aCr 1 121 [.int 39, .ref 121] 2 = some ([some (.ref 121), some (.int 39)], []) from rfl)) hq4 ?_
        exact dt238_45 hd hq4.1  h
    · rw [if_neg hc2] at h
      refine Q.map (A.bF (gI_of zm238 (e := (30, 3, .if_icmp .ge 41, [40])) rfl) (fun q => hc2 (of_decide_eq_true q))) ?_
      refine Q.run zm238 1 (i' := 21) (ls' := [some (.ref 121), some (.int x1), some (.int x2), some (.int x3), g4]) (st' := [.ref 121]) rfl ?_
      refine Q.map (A.gf (gI_of zm238 (e := (34, 3, .getfield 16, [9, 5])) rfl) (hl.lt (a := 121) (by decide)) (hl.T (a := 121) (p := (9, 45)) 43 rfl rfl) (by decide) (hl.R 25 rfl)) ?_
      refine Q.run zm238 5 (i' := 27) (ls' := [some (.ref 121), some (.int x1), some (.int x2), some (.int x3), g4]) (st' := [.int ((32 * x1) + x3), .ref 124]) rfl ?_
      obtain ⟨hc7, h⟩ := ite_so h
      refine Q.map (A.ia (gI_of zm238 (e := (43, 1, .iaload, [])) rfl) (hl.lt (a := 124) (by decide)) (hl.T (a := 124) (p := (100, 256)) 46 rfl rfl) hc7) ?_
      refine Q.run zm238 3 (i' := 31) (ls' := [some (.ref 121), some (.int x1), some (.int x2), some (.int x3), some (.int (sI s 124 (jN ((32 * x1) + x3))))]) (st' := [.int 39, .int (sI s 124 (jN ((32 * x1) + x3)))]) rfl ?_
      by_cases hc8 : (sI s 124 (jN ((32 * x1) + x3))) = 39
      · rw [if_pos hc8] at h
        refine Q.map (A.bF (gI_of zm238 (e := (50, 3, .if_icmp .ne 9, [35])) rfl) (fun q => of_decide_eq_true q hc8)) ?_
        refine Q.run zm238 2 (i' := 34) (ls' := [some (.ref 121), some (.int x1), some (.int x2), some (.int x3), some (.int (sI s 124 (jN ((32 * x1) + x3))))]) (st' := [.int 39, .ref 121]) rfl ?_
        obtain ⟨s11, hc10, h⟩ := bu_so h
        have hq9 : Q 2 sio tt cc d 235 0 [some (.ref 121), some (.int 39)] [] s (.inl none, s11) := dt235 (by omega) hl  hc10
        refine Q.callV (gC_vi zm238 (show zM238.2.2.2.2.2[34]? = some (56, 3, .invokevirtual 337, [0, 235, 1, 9]) from rfl) zm235 (hl.lt (a := 121) (by decide)) (hl.T (a := 121) (p := (9, 45)) 43 rfl rfl) rfl (show aCr 1 121 [.int 39, .ref 121] 2 = some ([some (.ref 121), some (.int 39)], []) from rfl)) hq9 ?_
        exact dt238_35 hd ih hq9.1  h
      · rw [if_neg hc8] at h
        refine Q.map (A.bT (gI_of zm238 (e := (50, 3, .if_icmp .ne 9, [35])) rfl) (decide_eq_true hc8)) ?_
        exact dt238_35 hd ih hl  h
def dm238_12 (x1 : Int32) (x2 : Int32) (s : aS) : Option (aS) :=
  dm238_14 5000 x1 x2 0 s
set_option maxRecDepth 100000 in
theorem dt238_12 {sio : Bool} {tt : Nat} {cc : Nat → Nat → Int32} {d : Nat} (hd : 4 ≤ d) {x1 : Int32} {x2 : Int32} {s : aS} (hl : Ly tt cc s) {o : aS} (h : dm238_12  x1 x2 s = some o) : Q 2 sio tt cc d 238 12 [some (.ref 121), some (.int x1), some (.int x2), none, none] [] s (.inl none, o) := by
  unfold dm238_12 at h
  obtain ⟨d, rfl⟩ : ∃ e, d = e + 1 := ⟨d - 1, by omega⟩
  refine Q.run zm238 2 (i' := 14) (ls' := [some (.ref 121), some (.int x1), some (.int x2), some (.int 0), none]) (st' := []) rfl ?_
  exact dt238_14 hd _ hl  h
def dm238 (x1 : Int32) (s : aS) : Option (aS) :=
  if 0 ≤ x1 then
    bu (dm239 x1 s) fun r4 =>
    if r4 = 0 then
      dm238_12 x1 r4 s
    else
      bu (dm235 39 s) fun s8 =>
      dm238_12 x1 r4 s8
  else
    some s
set_option maxRecDepth 100000 in
theorem dt238 {sio : Bool} {tt : Nat} {cc : Nat → Nat → Int32} {d : Nat} (hd : 4 ≤ d) {x1 : Int32} {s : aS} (hl : Ly tt cc s) {o : aS} (h : dm238  x1 s = some o) : Q 2 sio tt cc d 238 0 [some (.ref 121), some (.int x1), none, none, none] [] s (.inl none, o) := by
  unfold dm238 at h
  obtain ⟨d, rfl⟩ : ∃ e, d = e + 1 := ⟨d - 1, by omega⟩
  refine Q.run zm238 1 (i' := 1) (ls' := [some (.ref 121), some (.int x1), none, none, none]) (st' := [.int x1]) rfl ?_
  by_cases hc1 : 0 ≤ x1
  · rw [if_pos hc1] at h
    refine Q.map (A.zT (gI_of zm238 (e := (1, 3, .ifCond .ge 4, [3])) rfl) (decide_eq_true hc1)) ?_
    refine Q.run zm238 2 (i' := 5) (ls' := [some (.ref 121), some (.int x1), none, none, none]) (st' := [.int x1, .ref 121]) rfl ?_
    obtain ⟨r4, hc3, h⟩ := bu_so h
    have hq2 : Q 2 sio tt cc d 239 0 [some (.ref 121), some (.int x1), none, none, none, none, none] [] s (.inl (some (.int r4)), s) := dt239 (by omega) hl  hc3
    refine Q.callI (gC_vi zm238 (show zM238.2.2.2.2.2[5]? = some (7, 3, .invokevirtual 347, [0, 239, 1, 9]) from rfl) zm239 (hl.lt (a := 121) (by decide)) (hl.T (a := 121) (p := (9, 45)) 43 rfl rfl) rfl (show aCr 1 121 [.int x1, .ref 121] 7 = some ([some (.ref 121), some (.int x1), none, none, none, none, none], []) from rfl)) hq2 ?_
    refine Q.run zm238 2 (i' := 8) (ls' := [some (.ref 121), some (.int x1), some (.int r4), none, none]) (st' := [.int r4]) rfl ?_
    by_cases hc5 : r4 = 0
    · rw [if_pos hc5] at h
      refine Q.map (A.zT (gI_of zm238 (e := (12, 3, .ifCond .eq 9, [12])) rfl) (decide_eq_true hc5)) ?_
      exact dt238_12 hd hl  h
    · rw [if_neg hc5] at h
      refine Q.map (A.zF (gI_of zm238 (e := (12, 3, .ifCond .eq 9, [12])) rfl) (fun q => hc5 (of_decide_eq_true q))) ?_
      refine Q.run zm238 2 (i' := 11) (ls' := [some (.ref 121), some (.int x1), some (.int r4), none, none]) (st' := [.int 39, .ref 121]) rfl ?_
      obtain ⟨s8, hc7, h⟩ := bu_so h
      have hq6 : Q 2 sio tt cc d 235 0 [some (.ref 121), some (.int 39)] [] s (.inl none, s8) := dt235 (by omega) hl  hc7
      refine Q.callV (gC_vi zm238 (show zM238.2.2.2.2.2[11]? = some (18, 3, .invokevirtual 337, [0, 235, 1, 9]) from rfl) zm235 (hl.lt (a := 121) (by decide)) (hl.T (a := 121) (p := (9, 45)) 43 rfl rfl) rfl (show aCr 1 121 [.int 39, .ref 121] 2 = some ([some (.ref 121), some (.int 39)], []) from rfl)) hq6 ?_
      exact dt238_12 hd hq6.1  h
  · rw [if_neg hc1] at h
    refine Q.map (A.zF (gI_of zm238 (e := (1, 3, .ifCond .ge 4, [3])) rfl) (fun q => hc1 (of_decide_eq_true q))) ?_
    cases h
    exact Q.ret (A.rv zm238 (show zM238.2.2.2.2.2[2]? = some (4, 1, .return_, []) from rfl) rfl) hl
/-! 242 FormulaTreesModel.putNumber(I)V -/
set_option maxRecDepth 100000 in
theorem zm242 : zP[242]? = some zM242 := rfl
def dm242_12 : Nat → Int32 → Int32 → aS → Option (aS)
  | 0, _, _, _ => none
  | n + 1, x1, x2, s =>
    if x2 ≤ 0 then
      some s
    else
      if ¬ x2 = 0 then
        bu (dm235 (48 + ((x1 / x2) - (x1 / x2) / 10 * 10)) s) fun s5 =>
        dm242_12 n x1 (x2 / 10) s5
      else none
set_option maxRecDepth 100000 in
theorem dt242_12 {sio : Bool} {tt : Nat} {cc : Nat → Nat → Int32} {d : Nat} (hd : 1 ≤ d) : ∀ (n : Nat) {x1 : Int32} {x2 : Int32} {s : aS} (_ : Ly tt cc s) {o : aS} (_ : dm242_12  n x1 x2 s = some o), Q 2 sio tt cc d 242 12 [some (.ref 121), some (.int x1), some (.int x2)] [] s (.inl none, o) := by
  obtain ⟨d, rfl⟩ : ∃ e, d = e + 1 := ⟨d - 1, by omega⟩
  intro n
  induction n with
  | zero => intro x1 x2 s hl o h; rw [dm242_12] at h; cases h
  | succ n ih =>
    intro x1 x2 s hl o h
    rw [dm242_12] at h
    refine Q.run zm242 1 (i' := 13) (ls' := [some (.ref 121), some (.int x1), some (.int x2)]) (st' := [.int x2]) rfl ?_
    by_cases hc1 : x2 ≤ 0
    · rw [if_pos hc1] at h
      refine Q.map (A.zT (gI_of zm242 (e := (19, 3, .ifCond .le 24, [28])) rfl) (decide_eq_true hc1)) ?_
      cases h
      exact Q.ret (A.rv zm242 (show zM242.2.2.2.2.2[28]? = some (43, 1, .return_, []) from rfl) rfl) hl
    · rw [if_neg hc1] at h
      refine Q.map (A.zF (gI_of zm242 (e := (19, 3, .ifCond .le 24, [28])) rfl) (fun q => hc1 (of_decide_eq_true q))) ?_
      refine Q.run zm242 4 (i' := 18) (ls' := [some (.ref 121), some (.int x1), some (.int x2)]) (st' := [.int x2, .int x1, .int 48, .ref 121]) rfl ?_
      obtain ⟨hc2, h⟩ := ite_so h
      refine Q.map (A.dv (gI_of zm242 (e := (27, 1, .idiv, [])) rfl) hc2) ?_
      refine Q.run zm242 3 (i' := 22) (ls' := [some (.ref 121), some (.int x1), some (.int x2)]) (st' := [.int (48 + ((x1 / x2) - (x1 / x2) / 10 * 10)), .ref 121]) rfl ?_
      obtain ⟨s5, hc4, h⟩ := bu_so h
      have hq3 : Q 2 sio tt cc d 235 0 [some (.ref 121), some (.int (48 + ((x1 / x2) - (x1 / x2) / 10 * 10)))] [] s (.inl none, s5) := dt235 (by omega) hl  hc4
      refine Q.callV (gC_vi zm242 (show zM242.2.2.2.2.2[22]? = some (32, 3, .invokevirtual 337, [0, 235, 1, 9]) from rfl) zm235 (hl.lt (a := 121) (by decide)) (hl.T (a := 121) (p := (9, 45)) 43 rfl rfl) rfl (show aCr 1 121 [.int (48 + ((x1 / x2) - (x1 / x2) / 10 * 10)), .ref 121] 2 = some ([some (.ref 121), some (.int (48 + ((x1 / x2) - (x1 / x2) / 10 * 10)))], []) from rfl)) hq3 ?_
      refine Q.run zm242 5 (i' := 12) (ls' := [some (.ref 121), some (.int x1), some (.int (x2 / 10))]) (st' := []) rfl ?_
      exact ih hq3.1  h
def dm242_2 : Nat → Int32 → Int32 → aS → Option (aS)
  | 0, _, _, _ => none
  | n + 1, x1, x2, s =>
    if (x1 / 10) < x2 then
      dm242_12 5000 x1 x2 s
    else
      dm242_2 n x1 (10 * x2) s
set_option maxRecDepth 100000 in
theorem dt242_2 {sio : Bool} {tt : Nat} {cc : Nat → Nat → Int32} {d : Nat} (hd : 1 ≤ d) : ∀ (n : Nat) {x1 : Int32} {x2 : Int32} {s : aS} (_ : Ly tt cc s) {o : aS} (_ : dm242_2  n x1 x2 s = some o), Q 2 sio tt cc d 242 2 [some (.ref 121), some (.int x1), some (.int x2)] [] s (.inl none, o) := by
  obtain ⟨d, rfl⟩ : ∃ e, d = e + 1 := ⟨d - 1, by omega⟩
  intro n
  induction n with
  | zero => intro x1 x2 s hl o h; rw [dm242_2] at h; cases h
  | succ n ih =>
    intro x1 x2 s hl o h
    rw [dm242_2] at h
    refine Q.run zm242 4 (i' := 6) (ls' := [some (.ref 121), some (.int x1), some (.int x2)]) (st' := [.int (x1 / 10), .int x2]) rfl ?_
    by_cases hc1 : (x1 / 10) < x2
    · rw [if_pos hc1] at h
      refine Q.map (A.bT (gI_of zm242 (e := (7, 3, .if_icmp .gt 11, [12])) rfl) (decide_eq_true hc1)) ?_
      exact dt242_12 hd _ hl  h
    · rw [if_neg hc1] at h
      refine Q.map (A.bF (gI_of zm242 (e := (7, 3, .if_icmp .gt 11, [12])) rfl) (fun q => hc1 (of_decide_eq_true q))) ?_
      refine Q.run zm242 5 (i' := 2) (ls' := [some (.ref 121), some (.int x1), some (.int (10 * x2))]) (st' := []) rfl ?_
      exact ih hl  h
def dm242 (x1 : Int32) (s : aS) : Option (aS) :=
  dm242_2 5000 x1 1 s
set_option maxRecDepth 100000 in
theorem dt242 {sio : Bool} {tt : Nat} {cc : Nat → Nat → Int32} {d : Nat} (hd : 1 ≤ d) {x1 : Int32} {s : aS} (hl : Ly tt cc s) {o : aS} (h : dm242  x1 s = some o) : Q 2 sio tt cc d 242 0 [some (.ref 121), some (.int x1), none] [] s (.inl none, o) := by
  unfold dm242 at h
  obtain ⟨d, rfl⟩ : ∃ e, d = e + 1 := ⟨d - 1, by omega⟩
  refine Q.run zm242 2 (i' := 2) (ls' := [some (.ref 121), some (.int x1), some (.int 1)]) (st' := []) rfl ?_
  exact dt242_2 hd _ hl  h
/-! 241 FormulaTreesModel.putPlace(III)V -/
set_option maxRecDepth 100000 in
theorem zm241 : zP[241]? = some zM241 := rfl
def dm241_51 (x1 : Int32) (s : aS) : Option (aS) :=
  bu (dm242 x1 s) fun s3 =>
  some s3
set_option maxRecDepth 100000 in
theorem dt241_51 {sio : Bool} {tt : Nat} {cc : Nat → Nat → Int32} {d : Nat} (hd : 2 ≤ d) {x1 : Int32} {x2 : Int32} {x3 : Int32} {s : aS} (hl : Ly tt cc s) {o : aS} (h : dm241_51  x1 s = some o) : Q 2 sio tt cc d 241 51 [some (.ref 121), some (.int x1), some (.int x2), some (.int x3)] [] s (.inl none, o) := by
  unfold dm241_51 at h
  obtain ⟨d, rfl⟩ : ∃ e, d = e + 1 := ⟨d - 1, by omega⟩
  refine Q.run zm241 2 (i' := 53) (ls' := [some (.ref 121), some (.int x1), some (.int x2), some (.int x3)]) (st' := [.int x1, .ref 121]) rfl ?_
  obtain ⟨s3, hc2, h⟩ := bu_so h
  have hq1 : Q 2 sio tt cc d 242 0 [some (.ref 121), some (.int x1), none] [] s (.inl none, s3) := dt242 (by omega) hl  hc2
  refine Q.callV (gC_vi zm241 (show zM241.2.2.2.2.2[53]? = some (87, 3, .invokevirtual 340, [0, 242, 1, 9]) from rfl) zm242 (hl.lt (a := 121) (by decide)) (hl.T (a := 121) (p := (9, 45)) 43 rfl rfl) rfl (show aCr 1 121 [.int x1, .ref 121] 3 = some ([some (.ref 121), some (.int x1), none], []) from rfl)) hq1 ?_
  cases h
  exact Q.ret (A.rv zm241 (show zM241.2.2.2.2.2[54]? = some (90, 1, .return_, []) from rfl) rfl) hq1.1
def dm241_35 (x1 : Int32) (x2 : Int32) (x3 : Int32) (s : aS) : Option (aS) :=
  bu (dm235 (65 + ((x2 - 1) - (x2 - 1) / 26 * 26)) s) fun s3 =>
  if (x3 &&& 1) ≤ 0 then
    dm241_51 x1 s3
  else
    bu (dm235 36 s3) fun s7 =>
    dm241_51 x1 s7
set_option maxRecDepth 100000 in
theorem dt241_35 {sio : Bool} {tt : Nat} {cc : Nat → Nat → Int32} {d : Nat} (hd : 2 ≤ d) {x1 : Int32} {x2 : Int32} {x3 : Int32} {s : aS} (hl : Ly tt cc s) {o : aS} (h : dm241_35  x1 x2 x3 s = some o) : Q 2 sio tt cc d 241 35 [some (.ref 121), some (.int x1), some (.int x2), some (.int x3)] [] s (.inl none, o) := by
  unfold dm241_35 at h
  obtain ⟨d, rfl⟩ : ∃ e, d = e + 1 := ⟨d - 1, by omega⟩
  refine Q.run zm241 8 (i' := 43) (ls' := [some (.ref 121), some (.int x1), some (.int x2), some (.int x3)]) (st' := [.int (65 + ((x2 - 1) - (x2 - 1) / 26 * 26)), .ref 121]) rfl ?_
  obtain ⟨s3, hc2, h⟩ := bu_so h
  have hq1 : Q 2 sio tt cc d 235 0 [some (.ref 121), some (.int (65 + ((x2 - 1) - (x2 - 1) / 26 * 26)))] [] s (.inl none, s3) := dt235 (by omega) hl  hc2
  refine Q.callV (gC_vi zm241 (show zM241.2.2.2.2.2[43]? = some (70, 3, .invokevirtual 337, [0, 235, 1, 9]) from rfl) zm235 (hl.lt (a := 121) (by decide)) (hl.T (a := 121) (p := (9, 45)) 43 rfl rfl) rfl (show aCr 1 121 [.int (65 + ((x2 - 1) - (x2 - 1) / 26 * 26)), .ref 121] 2 = some ([some (.ref 121), some (.int (65 + ((x2 - 1) - (x2 - 1) / 26 * 26)))], []) from rfl)) hq1 ?_
  refine Q.run zm241 3 (i' := 47) (ls' := [some (.ref 121), some (.int x1), some (.int x2), some (.int x3)]) (st' := [.int (x3 &&& 1)]) rfl ?_
  by_cases hc4 : (x3 &&& 1) ≤ 0
  · rw [if_pos hc4] at h
    refine Q.map (A.zT (gI_of zm241 (e := (76, 3, .ifCond .le 9, [51])) rfl) (decide_eq_true hc4)) ?_
    exact dt241_51 hd hq1.1  h
  · rw [if_neg hc4] at h
    refine Q.map (A.zF (gI_of zm241 (e := (76, 3, .ifCond .le 9, [51])) rfl) (fun q => hc4 (of_decide_eq_true q))) ?_
    refine Q.run zm241 2 (i' := 50) (ls' := [some (.ref 121), some (.int x1), some (.int x2), some (.int x3)]) (st' := [.int 36, .ref 121]) rfl ?_
    obtain ⟨s7, hc6, h⟩ := bu_so h
    have hq5 : Q 2 sio tt cc d 235 0 [some (.ref 121), some (.int 36)] [] s3 (.inl none, s7) := dt235 (by omega) hq1.1  hc6
    refine Q.callV (gC_vi zm241 (show zM241.2.2.2.2.2[50]? = some (82, 3, .invokevirtual 337, [0, 235, 1, 9]) from rfl) zm235 (hq1.1.lt (a := 121) (by decide)) (hq1.1.T (a := 121) (p := (9, 45)) 43 rfl rfl) rfl (show aCr 1 121 [.int 36, .ref 121] 2 = some ([some (.ref 121), some (.int 36)], []) from rfl)) hq5 ?_
    exact dt241_51 hd hq5.1  h
def dm241_21 (x1 : Int32) (x2 : Int32) (x3 : Int32) (s : aS) : Option (aS) :=
  if x2 ≤ 26 then
    dm241_35 x1 x2 x3 s
  else
    bu (dm235 (65 + (((x2 - 27) / 26) - ((x2 - 27) / 26) / 26 * 26)) s) fun s4 =>
    dm241_35 x1 x2 x3 s4
set_option maxRecDepth 100000 in
theorem dt241_21 {sio : Bool} {tt : Nat} {cc : Nat → Nat → Int32} {d : Nat} (hd : 2 ≤ d) {x1 : Int32} {x2 : Int32} {x3 : Int32} {s : aS} (hl : Ly tt cc s) {o : aS} (h : dm241_21  x1 x2 x3 s = some o) : Q 2 sio tt cc d 241 21 [some (.ref 121), some (.int x1), some (.int x2), some (.int x3)] [] s (.inl none, o) := by
  unfold dm241_21 at h
  obtain ⟨d, rfl⟩ : ∃ e, d = e + 1 := ⟨d - 1, by omega⟩
  refine Q.run zm241 2 (i' := 23) (ls' := [some (.ref 121), some (.int x1), some (.int x2), some (.int x3)]) (st' := [.int 26, .int x2]) rfl ?_
  by_cases hc1 : x2 ≤ 26
  · rw [if_pos hc1] at h
    refine Q.map (A.bT (gI_of zm241 (e := (40, 3, .if_icmp .le 20, [35])) rfl) (decide_eq_true hc1)) ?_
    exact dt241_35 hd hl  h
  · rw [if_neg hc1] at h
    refine Q.map (A.bF (gI_of zm241 (e := (40, 3, .if_icmp .le 20, [35])) rfl) (fun q => hc1 (of_decide_eq_true q))) ?_
    refine Q.run zm241 10 (i' := 34) (ls' := [some (.ref 121), some (.int x1), some (.int x2), some (.int x3)]) (st' := [.int (65 + (((x2 - 27) / 26) - ((x2 - 27) / 26) / 26 * 26)), .ref 121]) rfl ?_
    obtain ⟨s4, hc3, h⟩ := bu_so h
    have hq2 : Q 2 sio tt cc d 235 0 [some (.ref 121), some (.int (65 + (((x2 - 27) / 26) - ((x2 - 27) / 26) / 26 * 26)))] [] s (.inl none, s4) := dt235 (by omega) hl  hc3
    refine Q.callV (gC_vi zm241 (show zM241.2.2.2.2.2[34]? = some (57, 3, .invokevirtual 337, [0, 235, 1, 9]) from rfl) zm235 (hl.lt (a := 121) (by decide)) (hl.T (a := 121) (p := (9, 45)) 43 rfl rfl) rfl (show aCr 1 121 [.int (65 + (((x2 - 27) / 26) - ((x2 - 27) / 26) / 26 * 26)), .ref 121] 2 = some ([some (.ref 121), some (.int (65 + (((x2 - 27) / 26) - ((x2 - 27) / 26) / 26 * 26)))], []) from rfl)) hq2 ?_
    exact dt241_35 hd hq2.1  h
def dm241_7 (x1 : Int32) (x2 : Int32) (x3 : Int32) (s : aS) : Option (aS) :=
  if x2 ≤ 702 then
    dm241_21 x1 x2 x3 s
  else
    bu (dm235 ((64 + ((x2 - 703) / 676)) + 1) s) fun s4 =>
    dm241_21 x1 x2 x3 s4
set_option maxRecDepth 100000 in
theorem dt241_7 {sio : Bool} {tt : Nat} {cc : Nat → Nat → Int32} {d : Nat} (hd : 2 ≤ d) {x1 : Int32} {x2 : Int32} {x3 : Int32} {s : aS} (hl : Ly tt cc s) {o : aS} (h : dm241_7  x1 x2 x3 s = some o) : Q 2 sio tt cc d 241 7 [some (.ref 121), some (.int x1), some (.int x2), some (.int x3)] [] s (.inl none, o) := by
  unfold dm241_7 at h
  obtain ⟨d, rfl⟩ : ∃ e, d = e + 1 := ⟨d - 1, by omega⟩
  refine Q.run zm241 2 (i' := 9) (ls' := [some (.ref 121), some (.int x1), some (.int x2), some (.int x3)]) (st' := [.int 702, .int x2]) rfl ?_
  by_cases hc1 : x2 ≤ 702
  · rw [if_pos hc1] at h
    refine Q.map (A.bT (gI_of zm241 (e := (16, 3, .if_icmp .le 21, [21])) rfl) (decide_eq_true hc1)) ?_
    exact dt241_21 hd hl  h
  · rw [if_neg hc1] at h
    refine Q.map (A.bF (gI_of zm241 (e := (16, 3, .if_icmp .le 21, [21])) rfl) (fun q => hc1 (of_decide_eq_true q))) ?_
    refine Q.run zm241 10 (i' := 20) (ls' := [some (.ref 121), some (.int x1), some (.int x2), some (.int x3)]) (st' := [.int ((64 + ((x2 - 703) / 676)) + 1), .ref 121]) rfl ?_
    obtain ⟨s4, hc3, h⟩ := bu_so h
    have hq2 : Q 2 sio tt cc d 235 0 [some (.ref 121), some (.int ((64 + ((x2 - 703) / 676)) + 1))] [] s (.inl none, s4) := dt235 (by omega) hl  hc3
    refine Q.callV (gC_vi zm241 (show zM241.2.2.2.2.2[20]? = some (34, 3, .invokevirtual 337, [0, 235, 1, 9]) from rfl) zm235 (hl.lt (a := 121) (by decide)) (hl.T (a := 121) (p := (9, 45)) 43 rfl rfl) rfl (show aCr 1 121 [.int ((64 + ((x2 - 703) / 676)) + 1), .ref 121] 2 = some ([some (.ref 121), some (.int ((64 + ((x2 - 703) / 676)) + 1))], []) from rfl)) hq2 ?_
    exact dt241_21 hd hq2.1  h
def dm241 (x1 : Int32) (x2 : Int32) (x3 : Int32) (s : aS) : Option (aS) :=
  if (x3 &&& 2) ≤ 0 then
    dm241_7 x1 x2 x3 s
  else
    bu (dm235 36 s) fun s4 =>
    dm241_7 x1 x2 x3 s4
set_option maxRecDepth 100000 in
theorem dt241 {sio : Bool} {tt : Nat} {cc : Nat → Nat → Int32} {d : Nat} (hd : 2 ≤ d) {x1 : Int32} {x2 : Int32} {x3 : Int32} {s : aS} (hl : Ly tt cc s) {o : aS} (h : dm241  x1 x2 x3 s = some o) : Q 2 sio tt cc d 241 0 [some (.ref 121), some (.int x1), some (.int x2), some (.int x3)] [] s (.inl none, o) := by
  unfold dm241 at h
  obtain ⟨d, rfl⟩ : ∃ e, d = e + 1 := ⟨d - 1, by omega⟩
  refine Q.run zm241 3 (i' := 3) (ls' := [some (.ref 121), some (.int x1), some (.int x2), some (.int x3)]) (st' := [.int (x3 &&& 2)]) rfl ?_
  by_cases hc1 : (x3 &&& 2) ≤ 0
  · rw [if_pos hc1] at h
    refine Q.map (A.zT (gI_of zm241 (e := (3, 3, .ifCond .le 9, [7])) rfl) (decide_eq_true hc1)) ?_
    exact dt241_7 hd hl  h
  · rw [if_neg hc1] at h
    refine Q.map (A.zF (gI_of zm241 (e := (3, 3, .ifCond .le 9, [7])) rfl) (fun q => hc1 (of_decide_eq_true q))) ?_
    refine Q.run zm241 2 (i' := 6) (ls' := [some (.ref 121), some (.int x1), some (.int x2), some (.int x3)]) (st' := [.int 36, .ref 121]) rfl ?_
    obtain ⟨s4, hc3, h⟩ := bu_so h
    have hq2 : Q 2 sio tt cc d 235 0 [some (.ref 121), some (.int 36)] [] s (.inl none, s4) := dt235 (by omega) hl  hc3
    refine Q.callV (gC_vi zm241 (show zM241.2.2.2.2.2[6]? = some (9, 3, .invokevirtual 337, [0, 235, 1, 9]) from rfl) zm235 (hl.lt (a := 121) (by decide)) (hl.T (a := 121) (p := (9, 45)) 43 rfl rfl) rfl (show aCr 1 121 [.int 36, .ref 121] 2 = some ([some (.ref 121), some (.int 36)], []) from rfl)) hq2 ?_
    exact dt241_7 hd hq2.1  h
/-! 236 FormulaTreesModel.putChild(III)I -/
set_option maxRecDepth 100000 in
theorem zm236 : zP[236]? = some zM236 := rfl
set_option maxRecDepth 100000 in
theorem zm233 : zP[233]? = some zM233 := rfl
def dm236_16 (rc : Int32 → Int32 → aS → Option (Int32 × aS)) (x1 : Int32) (x2 : Int32) (x4 : Int32) (s : aS) : Option (Int32 × aS) :=
  bv (rc x1 x2 s) fun r4 s3 =>
  if x4 = 0 then
    some (r4, s3)
  else
    bu (dm235 41 s3) fun s8 =>
    some (r4, s8)
set_option maxRecDepth 100000 in
theorem dt236_16 {sio : Bool} {tt : Nat} {cc : Nat → Nat → Int32} {d : Nat} {m : Nat} (hd : 12 + 3 * m + 1 ≤ d) {rc : Int32 → Int32 → aS → Option (Int32 × aS)} (hrc : ∀ {d : Nat}, 12 + 3 * m ≤ d → ∀ {x1 x2 : Int32} {s : aS}, Ly tt cc s → ∀ {o : Int32 × aS}, rc x1 x2 s = some o → Q 2 sio tt cc d 233 0 [some (.ref 121), some (.int x1), some (.int x2), none, none, none, none] [] s (.inl (some (.int o.1)), o.2)) {x1 : Int32} {x2 : Int32} {x4 : Int32} {x3 : Int32} {s : aS} (hl : Ly tt cc s) {o : Int32 × aS} (h : dm236_16 rc x1 x2 x4 s = some o) : Q 2 sio tt cc d 236 16 [some (.ref 121), some (.int x1), some (.int x2), some (.int x3), some (.int x4), none] [] s (.inl (some (.int o.1)), o.2) := by
  unfold dm236_16 at h
  obtain ⟨d, rfl⟩ : ∃ e, d = e + 1 := ⟨d - 1, by omega⟩
  refine Q.run zm236 3 (i' := 19) (ls' := [some (.ref 121), some (.int x1), some (.int x2), some (.int x3), some (.int x4), none]) (st' := [.int x2, .int x1, .ref 121]) rfl ?_
  obtain ⟨r4, s3, hc2, h⟩ := bv_so h
  have hq1 : Q 2 sio tt cc d 233 0 [some (.ref 121), some (.int x1), some (.int x2), none, none, none, none] [] s (.inl (some (.int r4)), s3) := hrc (by omega) hl  hc2
  refine Q.callI (gC_vi zm236 (show zM236.2.2.2.2.2[19]? = some (34, 3, .invokevirtual 350, [0, 233, 2, 9]) from rfl) zm233 (hl.lt (a := 121) (by decide)) (hl.T (a := 121) (p := (9, 45)) 43 rfl rfl) rfl (show aCr 2 121 [.int x2, .int x1, .ref 121] 7 = some ([some (.ref 121), some (.int x1), some (.int x2), none, none, none, none], []) from rfl)) hq1 ?_
  refine Q.run zm236 2 (i' := 22) (ls' := [some (.ref 121), some (.int x1), some (.int x2), some (.int x3), some (.int x4), some (.int r4)]) (st' := [.int x4]) rfl ?_
  by_cases hc5 : x4 = 0
  · rw [if_pos hc5] at h
    refine Q.map (A.zT (gI_of zm236 (e := (41, 3, .ifCond .eq 9, [26])) rfl) (decide_eq_true hc5)) ?_
    refine Q.run zm236 1 (i' := 27) (ls' := [some (.ref 121), some (.int x1), some (.int x2), some (.int x3), some (.int x4), some (.int r4)]) (st' := [.int r4]) rfl ?_
    cases h
    exact Q.ret (A.ri zm236 (show zM236.2.2.2.2.2[27]? = some (52, 1, .ireturn, []) from rfl) rfl rfl) hq1.1
  · rw [if_neg hc5] at h
    refine Q.map (A.zF (gI_of zm236 (e := (41, 3, .ifCond .eq 9, [26])) rfl) (fun q => hc5 (of_decide_eq_true q))) ?_
    refine Q.run zm236 2 (i' := 25) (ls' := [some (.ref 121), some (.int x1), some (.int x2), some (.int x3), some (.int x4), some (.int r4)]) (st' := [.int 41, .ref 121]) rfl ?_
    obtain ⟨s8, hc7, h⟩ := bu_so h
    have hq6 : Q 2 sio tt cc d 235 0 [some (.ref 121), some (.int 41)] [] s3 (.inl none, s8) := dt235 (by omega) hq1.1  hc7
    refine Q.callV (gC_vi zm236 (show zM236.2.2.2.2.2[25]? = some (47, 3, .invokevirtual 337, [0, 235, 1, 9]) from rfl) zm235 (hq1.1.lt (a := 121) (by decide)) (hq1.1.T (a := 121) (p := (9, 45)) 43 rfl rfl) rfl (show aCr 1 121 [.int 41, .ref 121] 2 = some ([some (.ref 121), some (.int 41)], []) from rfl)) hq6 ?_
    refine Q.run zm236 1 (i' := 27) (ls' := [some (.ref 121), some (.int x1), some (.int x2), some (.int x3), some (.int x4), some (.int r4)]) (st' := [.int r4]) rfl ?_
    cases h
    exact Q.ret (A.ri zm236 (show zM236.2.2.2.2.2[27]? = some (52, 1, .ireturn, []) from rfl) rfl rfl) hq6.1
def dm236_10 (rc : Int32 → Int32 → aS → Option (Int32 × aS)) (x1 : Int32) (x2 : Int32) (y0 : Int32) (s : aS) : Option (Int32 × aS) :=
  if y0 = 0 then
    dm236_16 rc x1 x2 y0 s
  else
    bu (dm235 40 s) fun s4 =>
    dm236_16 rc x1 x2 y0 s4
set_option maxRecDepth 100000 in
theorem dt236_10 {sio : Bool} {tt : Nat} {cc : Nat → Nat → Int32} {d : Nat} {m : Nat} (hd : 12 + 3 * m + 1 ≤ d) {rc : Int32 → Int32 → aS → Option (Int32 × aS)} (hrc : ∀ {d : Nat}, 12 + 3 * m ≤ d → ∀ {x1 x2 : Int32} {s : aS}, Ly tt cc s → ∀ {o : Int32 × aS}, rc x1 x2 s = some o → Q 2 sio tt cc d 233 0 [some (.ref 121), some (.int x1), some (.int x2), none, none, none, none] [] s (.inl (some (.int o.1)), o.2)) {x1 : Int32} {x2 : Int32} {y0 : Int32} {x3 : Int32} {s : aS} (hl : Ly tt cc s) {o : Int32 × aS} (h : dm236_10 rc x1 x2 y0 s = some o) : Q 2 sio tt cc d 236 10 [some (.ref 121), some (.int x1), some (.int x2), some (.int x3), none, none] [.int y0] s (.inl (some (.int o.1)), o.2) := by
  unfold dm236_10 at h
  obtain ⟨d, rfl⟩ : ∃ e, d = e + 1 := ⟨d - 1, by omega⟩
  refine Q.run zm236 2 (i' := 12) (ls' := [some (.ref 121), some (.int x1), some (.int x2), some (.int x3), some (.int y0), none]) (st' := [.int y0]) rfl ?_
  by_cases hc1 : y0 = 0
  · rw [if_pos hc1] at h
    refine Q.map (A.zT (gI_of zm236 (e := (22, 3, .ifCond .eq 9, [16])) rfl) (decide_eq_true hc1)) ?_
    exact dt236_16 (by omega) hrc hl  h
  · rw [if_neg hc1] at h
    refine Q.map (A.zF (gI_of zm236 (e := (22, 3, .ifCond .eq 9, [16])) rfl) (fun q => hc1 (of_decide_eq_true q))) ?_
    refine Q.run zm236 2 (i' := 15) (ls' := [some (.ref 121), some (.int x1), some (.int x2), some (.int x3), some (.int y0), none]) (st' := [.int 40, .ref 121]) rfl ?_
    obtain ⟨s4, hc3, h⟩ := bu_so h
    have hq2 : Q 2 sio tt cc d 235 0 [some (.ref 121), some (.int 40)] [] s (.inl none, s4) := dt235 (by omega) hl  hc3
    refine Q.callV (gC_vi zm236 (show zM236.2.2.2.2.2[15]? = some (28, 3, .invokevirtual 337, [0, 235, 1, 9]) from rfl) zm235 (hl.lt (a := 121) (by decide)) (hl.T (a := 121) (p := (9, 45)) 43 rfl rfl) rfl (show aCr 1 121 [.int 40, .ref 121] 2 = some ([some (.ref 121), some (.int 40)], []) from rfl)) hq2 ?_
    exact dt236_16 (by omega) hrc hq2.1  h
def dm236 (rc : Int32 → Int32 → aS → Option (Int32 × aS)) (x1 : Int32) (x2 : Int32) (x3 : Int32) (s : aS) : Option (Int32 × aS) :=
  if aB x2 1152 then
    bu (dm191 (sI s 128 (jN x2))) fun r4 =>
    if x3 ≤ r4 then
      dm236_10 rc x1 x2 0 s
    else
      dm236_10 rc x1 x2 1 s
  else none
set_option maxRecDepth 100000 in
theorem dt236 {sio : Bool} {tt : Nat} {cc : Nat → Nat → Int32} {d : Nat} {m : Nat} (hd : 12 + 3 * m + 1 ≤ d) {rc : Int32 → Int32 → aS → Option (Int32 × aS)} (hrc : ∀ {d : Nat}, 12 + 3 * m ≤ d → ∀ {x1 x2 : Int32} {s : aS}, Ly tt cc s → ∀ {o : Int32 × aS}, rc x1 x2 s = some o → Q 2 sio tt cc d 233 0 [some (.ref 121), some (.int x1), some (.int x2), none, none, none, none] [] s (.inl (some (.int o.1)), o.2)) {x1 : Int32} {x2 : Int32} {x3 : Int32} {s : aS} (hl : Ly tt cc s) {o : Int32 × aS} (h : dm236 rc x1 x2 x3 s = some o) : Q 2 sio tt cc d 236 0 [some (.ref 121), some (.int x1), some (.int x2), some (.int x3), none, none] [] s (.inl (some (.int o.1)), o.2) := by
  unfold dm236 at h
  obtain ⟨d, rfl⟩ : ∃ e, d = e + 1 := ⟨d - 1, by omega⟩
  refine Q.run zm236 1 (i' := 1) (ls' := [some (.ref 121), some (.int x1), some (.int x2), some (.int x3), none, none]) (st' := [.ref 121]) rfl ?_
  refine Q.map (A.gf (gI_of zm236 (e := (1, 3, .getfield 29, [9, 9])) rfl) (hl.lt (a := 121) (by decide)) (hl.T (a := 121) (p := (9, 45)) 43 rfl rfl) (by decide) (hl.R 29 rfl)) ?_
  refine Q.run zm236 1 (i' := 3) (ls' := [some (.ref 121), some (.int x1), some (.int x2), some (.int x3), none, none]) (st' := [.int x2, .ref 128]) rfl ?_
  obtain ⟨hc1, h⟩ := ite_so h
  refine Q.map (A.ia (gI_of zm236 (e := (5, 1, .iaload, [])) rfl) (hl.lt (a := 128) (by decide)) (hl.T (a := 128) (p := (100, 1152)) 50 rfl rfl) hc1) ?_
  obtain ⟨r4, hc3, h⟩ := bu_so h
  have hq2 : Q 2 sio tt cc d 191 0 [some (.int (sI s 128 (jN x2)))] [] s (.inl (some (.int r4)), s) := dt191 (by omega) hl  hc3
  refine Q.callI (gC_st zm236 (show zM236.2.2.2.2.2[4]? = some (6, 3, .invokestatic 150, [0, 191, 1]) from rfl) zm191 (show aC 1 [.int (sI s 128 (jN x2))] 1 = some ([some (.int (sI s 128 (jN x2)))], []) from rfl)) hq2 ?_
  refine Q.run zm236 1 (i' := 6) (ls' := [some (.ref 121), some (.int x1), some (.int x2), some (.int x3), none, none]) (st' := [.int x3, .int r4]) rfl ?_
  by_cases hc5 : x3 ≤ r4
  · rw [if_pos hc5] at h
    refine Q.map (A.bT (gI_of zm236 (e := (10, 3, .if_icmp .ge 7, [9])) rfl) (decide_eq_true hc5)) ?_
    refine Q.run zm236 1 (i' := 10) (ls' := [some (.ref 121), some (.int x1), some (.int x2), some (.int x3), none, none]) (st' := [.int 0]) rfl ?_
    exact dt236_10 (by omega) hrc hl  h
  · rw [if_neg hc5] at h
    refine Q.map (A.bF (gI_of zm236 (e := (10, 3, .if_icmp .ge 7, [9])) rfl) (fun q => hc5 (of_decide_eq_true q))) ?_
    refine Q.run zm236 2 (i' := 10) (ls' := [some (.ref 121), some (.int x1), some (.int x2), some (.int x3), none, none]) (st' := [.int 1]) rfl ?_
    exact dt236_10 (by omega) hrc hl  h
/-! 233 FormulaTreesModel.putNode(II)I -/
def dm233_231 (rc : Int32 → Int32 → aS → Option (Int32 × aS)) (x2 : Int32) (s : aS) : Option (Int32 × aS) :=
  some (x2 + 1, s)
set_option maxRecDepth 100000 in
theorem dt233_231 {sio : Bool} {tt : Nat} {cc : Nat → Nat → Int32} {d : Nat} {m : Nat} (hd : 12 + 3 * m + 2 ≤ d) {rc : Int32 → Int32 → aS → Option (Int32 × aS)} (hrc : ∀ {d : Nat}, 12 + 3 * m ≤ d → ∀ {x1 x2 : Int32} {s : aS}, Ly tt cc s → ∀ {o : Int32 × aS}, rc x1 x2 s = some o → Q 2 sio tt cc d 233 0 [some (.ref 121), some (.int x1), some (.int x2), none, none, none, none] [] s (.inl (some (.int o.1)), o.2)) {x2 : Int32} {x1 : Int32} {x3 : Int32} {g4 : Option Value} {g5 : Option Value} {g6 : Option Value} {s : aS} (hl : Ly tt cc s) {o : Int32 × aS} (h : dm233_231 rc x2 s = some o) : Q 2 sio tt cc d 233 231 [some (.ref 121), some (.int x1), some (.int x2), some (.int x3), g4, g5, g6] [] s (.inl (some (.int o.1)), o.2) := by
  unfold dm233_231 at h
  obtain ⟨d, rfl⟩ : ∃ e, d = e + 1 := ⟨d - 1, by omega⟩
  refine Q.run zm233 3 (i' := 234) (ls' := [some (.ref 121), some (.int x1), some (.int x2), some (.int x3), g4, g5, g6]) (st' := [.int (x2 + 1)]) rfl ?_
  cases h
  exact Q.ret (A.ri zm233 (show zM233.2.2.2.2.2[234]? = some (414, 1, .ireturn, []) from rfl) rfl rfl) hl
def dm233_104 (rc : Int32 → Int32 → aS → Option (Int32 × aS)) (x1 : Int32) (x4 : Int32) (x5 : Int32) (s : aS) : Option (Int32 × aS) :=
  bv (dm236 rc x1 x5 (x4 + 1) s) fun r4 s3 =>
  some (r4, s3)
set_option maxRecDepth 100000 in
theorem dt233_104 {sio : Bool} {tt : Nat} {cc : Nat → Nat → Int32} {d : Nat} {m : Nat} (hd : 12 + 3 * m + 2 ≤ d) {rc : Int32 → Int32 → aS → Option (Int32 × aS)} (hrc : ∀ {d : Nat}, 12 + 3 * m ≤ d → ∀ {x1 x2 : Int32} {s : aS}, Ly tt cc s → ∀ {o : Int32 × aS}, rc x1 x2 s = some o → Q 2 sio tt cc d 233 0 [some (.ref 121), some (.int x1), some (.int x2), none, none, none, none] [] s (.inl (some (.int o.1)), o.2)) {x1 : Int32} {x4 : Int32} {x5 : Int32} {x2 : Int32} {x3 : Int32} {s : aS} (hl : Ly tt cc s) {o : Int32 × aS} (h : dm233_104 rc x1 x4 x5 s = some o) : Q 2 sio tt cc d 233 104 [some (.ref 121), some (.int x1), some (.int x2), some (.int x3), some (.int x4), some (.int x5), none] [] s (.inl (some (.int o.1)), o.2) := by
  unfold dm233_104 at h
  obtain ⟨d, rfl⟩ : ∃ e, d = e + 1 := ⟨d - 1, by omega⟩
  refine Q.run zm233 6 (i' := 110) (ls' := [some (.ref 121), some (.int x1), some (.int x2), some (.int x3), some (.int x4), some (.int x5), none]) (st' := [.int (x4 + 1), .int x5, .int x1, .ref 121]) rfl ?_
  obtain ⟨r4, s3, hc2, h⟩ := bv_so h
  have hq1 : Q 2 sio tt cc d 236 0 [some (.ref 121), some (.int x1), some (.int x5), some (.int (x4 + 1)), none, none] [] s (.inl (some (.int r4)), s3) := dt236 (m := m) (by omega) hrc hl  hc2
  refine Q.callI (gC_vi zm233 (show zM233.2.2.2.2.2[110]? = some (193, 3, .invokevirtual 356, [0, 236, 3, 9]) from rfl) zm236 (hl.lt (a := 121) (by decide)) (hl.T (a := 121) (p := (9, 45)) 43 rfl rfl) rfl (show aCr 3 121 [.int (x4 + 1), .int x5, .int x1, .ref 121] 6 = some ([some (.ref 121), some (.int x1), some (.int x5), some (.int (x4 + 1)), none, none], []) from rfl)) hq1 ?_
  cases h
  exact Q.ret (A.ri zm233 (show zM233.2.2.2.2.2[111]? = some (196, 1, .ireturn, []) from rfl) rfl rfl) hq1.1
def dm233_32 (rc : Int32 → Int32 → aS → Option (Int32 × aS)) (k21 : Int32 → Int32 → Int32 → Int32 → aS → Option (Int32 × aS)) (x1 : Int32) (x2 : Int32) (x4 : Int32) (x5 : Int32) (s : aS) : Option (Int32 × aS) :=
  bv (rc x1 x4 s) fun r4 s3 =>
  k21 x1 x2 r4 (x5 + 1) s3
set_option maxRecDepth 100000 in
theorem dt233_32 {sio : Bool} {tt : Nat} {cc : Nat → Nat → Int32} {d : Nat} {m : Nat} (hd : 12 + 3 * m + 2 ≤ d) {rc : Int32 → Int32 → aS → Option (Int32 × aS)} (hrc : ∀ {d : Nat}, 12 + 3 * m ≤ d → ∀ {x1 x2 : Int32} {s : aS}, Ly tt cc s → ∀ {o : Int32 × aS}, rc x1 x2 s = some o → Q 2 sio tt cc d 233 0 [some (.ref 121), some (.int x1), some (.int x2), none, none, none, none] [] s (.inl (some (.int o.1)), o.2)) {k21 : Int32 → Int32 → Int32 → Int32 → aS → Option (Int32 × aS)} (hk21 : ∀ {x1 : Int32} {x2 : Int32} {x4 : Int32} {x5 : Int32} {x3 : Int32} {s : aS}, Ly tt cc s → ∀ {o : Int32 × aS}, k21 x1 x2 x4 x5 s = some o → Q 2 sio tt cc d 233 21 [some (.ref 121), some (.int x1), some (.int x2), some (.int x3), some (.int x4), some (.int x5), none] [] s (.inl (some (.int o.1)), o.2)) {x1 : Int32} {x2 : Int32} {x4 : Int32} {x5 : Int32} {x3 : Int32} {s : aS} (hl : Ly tt cc s) {o : Int32 × aS} (h : dm233_32 rc k21 x1 x2 x4 x5 s = some o) : Q 2 sio tt cc d 233 32 [some (.ref 121), some (.int x1), some (.int x2), some (.int x3), some (.int x4), some (.int x5), none] [] s (.inl (some (.int o.1)), o.2) := by
  unfold dm233_32 at h
  obtain ⟨d, rfl⟩ : ∃ e, d = e + 1 := ⟨d - 1, by omega⟩
  refine Q.run zm233 3 (i' := 35) (ls' := [some (.ref 121), some (.int x1), some (.int x2), some (.int x3), some (.int x4), some (.int x5), none]) (st' := [.int x4, .int x1, .ref 121]) rfl ?_
  obtain ⟨r4, s3, hc2, h⟩ := bv_so h
  have hq1 : Q 2 sio tt cc d 233 0 [some (.ref 121), some (.int x1), some (.int x4), none, none, none, none] [] s (.inl (some (.int r4)), s3) := hrc (by omega) hl  hc2
  refine Q.callI (gC_vi zm233 (show zM233.2.2.2.2.2[35]? = some (59, 3, .invokevirtual 350, [0, 233, 2, 9]) from rfl) zm233 (hl.lt (a := 121) (by decide)) (hl.T (a := 121) (p := (9, 45)) 43 rfl rfl) rfl (show aCr 2 121 [.int x4, .int x1, .ref 121] 7 = some ([some (.ref 121), some (.int x1), some (.int x4), none, none, none, none], []) from rfl)) hq1 ?_
  refine Q.run zm233 3 (i' := 21) (ls' := [some (.ref 121), some (.int x1), some (.int x2), some (.int x3), some (.int r4), some (.int (x5 + 1)), none]) (st' := []) rfl ?_
  exact hk21 hq1.1  h
def dm233_179 (rc : Int32 → Int32 → aS → Option (Int32 × aS)) (x2 : Int32) (x3 : Int32) (s : aS) : Option (Int32 × aS) :=
  if aB x2 1152 then
    bu (dm238 (sI s 130 (jN x2)) s) fun s4 =>
    if aB x2 1152 then
      if aB x2 1152 then
        if aB x2 1152 then
          bu (dm241 (sI s4 131 (jN x2)) (sI s4 132 (jN x2)) ((sI s4 135 (jN x2)) &&& 3) s4) fun s10 =>
          if x3 = 5 then
            bu (dm235 58 s10) fun s14 =>
            if aB x2 1152 then
              if aB x2 1152 then
                if aB x2 1152 then
                  bu (dm241 (sI s14 133 (jN x2)) (sI s14 134 (jN x2)) ((sI s14 135 (jN x2)) >>> ((2 : Int32) &&& 31)) s14) fun s20 =>
                  dm233_231 rc x2 s20
                else none
              else none
            else none
          else
            dm233_231 rc x2 s10
        else none
      else none
    else none
  else none
set_option maxRecDepth 100000 in
theorem dt233_179 {sio : Bool} {tt : Nat} {cc : Nat → Nat → Int32} {d : Nat} {m : Nat} (hd : 12 + 3 * m + 2 ≤ d) {rc : Int32 → Int32 → aS → Option (Int32 × aS)} (hrc : ∀ {d : Nat}, 12 + 3 * m ≤ d → ∀ {x1 x2 : Int32} {s : aS}, Ly tt cc s → ∀ {o : Int32 × aS}, rc x1 x2 s = some o → Q 2 sio tt cc d 233 0 [some (.ref 121), some (.int x1), some (.int x2), none, none, none, none] [] s (.inl (some (.int o.1)), o.2)) {x2 : Int32} {x3 : Int32} {x1 : Int32} {s : aS} (hl : Ly tt cc s) {o : Int32 × aS} (h : dm233_179 rc x2 x3 s = some o) : Q 2 sio tt cc d 233 179 [some (.ref 121), some (.int x1), some (.int x2), some (.int x3), none, none, none] [] s (.inl (some (.int o.1)), o.2) := by
  unfold dm233_179 at h
  obtain ⟨d, rfl⟩ : ∃ e, d = e + 1 := ⟨d - 1, by omega⟩
  refine Q.run zm233 2 (i' := 181) (ls' := [some (.ref 121), some (.int x1), some (.int x2), some (.int x3), none, none, none]) (st' := [.ref 121, .ref 121]) rfl ?_
  refine Q.map (A.gf (gI_of zm233 (e := (329, 3, .getfield 35, [9, 11])) rfl) (hl.lt (a := 121) (by decide)) (hl.T (a := 121) (p := (9, 45)) 43 rfl rfl) (by decide) (hl.R 31 rfl)) ?_
  refine Q.run zm233 1 (i' := 183) (ls' := [some (.ref 121), some (.int x1), some (.int x2), some (.int x3), none, none, none]) (st' := [.int x2, .ref 130, .ref 121]) rfl ?_
  obtain ⟨hc1, h⟩ := ite_so h
  refine Q.map (A.ia (gI_of zm233 (e := (333, 1, .iaload, [])) rfl) (hl.lt (a := 130) (by decide)) (hl.T (a := 130) (p := (100, 1152)) 52 rfl rfl) hc1) ?_
  obtain ⟨s4, hc3, h⟩ := bu_so h
  have hq2 : Q 2 sio tt cc d 238 0 [some (.ref 121), some (.int (sI s 130 (jN x2))), none, none, none] [] s (.inl none, s4) := dt238 (by omega) hl  hc3
  refine Q.callV (gC_vi zm233 (show zM233.2.2.2.2.2[184]? = some (334, 3, .invokevirtual 362, [0, 238, 1, 9]) from rfl) zm238 (hl.lt (a := 121) (by decide)) (hl.T (a := 121) (p := (9, 45)) 43 rfl rfl) rfl (show aCr 1 121 [.int (sI s 130 (jN x2)), .ref 121] 5 = some ([some (.ref 121), some (.int (sI s 130 (jN x2))), none, none, none], []) from rfl)) hq2 ?_
  refine Q.run zm233 2 (i' := 187) (ls' := [some (.ref 121), some (.int x1), some (.int x2), some (.int x3), none, none, none]) (st' := [.ref 121, .ref 121]) rfl ?_
  refine Q.map (A.gf (gI_of zm233 (e := (339, 3, .getfield 38, [9, 12])) rfl) (hq2.1.lt (a := 121) (by decide)) (hq2.1.T (a := 121) (p := (9, 45)) 43 rfl rfl) (by decide) (hq2.1.R 32 rfl)) ?_
  refine Q.run zm233 1 (i' := 189) (ls' := [some (.ref 121), some (.int x1), some (.int x2), some (.int x3), none, none, none]) (st' := [.int x2, .ref 131, .ref 121]) rfl ?_
  obtain ⟨hc5, h⟩ := ite_so h
  refine Q.map (A.ia (gI_of zm233 (e := (343, 1, .iaload, [])) rfl) (hq2.1.lt (a := 131) (by decide)) (hq2.1.T (a := 131) (p := (100, 1152)) 53 rfl rfl) hc5) ?_
  refine Q.run zm233 1 (i' := 191) (ls' := [some (.ref 121), some (.int x1), some (.int x2), some (.int x3), none, none, none]) (st' := [.ref 121, .int (sI s4 131 (jN x2)), .ref 121]) rfl ?_
  refine Q.map (A.gf (gI_of zm233 (e := (345, 3, .getfield 41, [9, 13])) rfl) (hq2.1.lt (a := 121) (by decide)) (hq2.1.T (a := 121) (p := (9, 45)) 43 rfl rfl) (by decide) (hq2.1.R 33 rfl)) ?_
  refine Q.run zm233 1 (i' := 193) (ls' := [some (.ref 121), some (.int x1), some (.int x2), some (.int x3), none, none, none]) (st' := [.int x2, .ref 132, .int (sI s4 131 (jN x2)), .ref 121]) rfl ?_
  obtain ⟨hc6, h⟩ := ite_so h
  refine Q.map (A.ia (gI_of zm233 (e := (349, 1, .iaload, [])) rfl) (hq2.1.lt (a := 132) (by decide)) (hq2.1.T (a := 132) (p := (100, 1152)) 54 rfl rfl) hc6) ?_
  refine Q.run zm233 1 (i' := 195) (ls' := [some (.ref 121), some (.int x1), some (.int x2), some (.int x3), none, none, none]) (st' := [.ref 121, .int (sI s4 132 (jN x2)), .int (sI s4 131 (jN x2)), .ref 121]) rfl ?_
  refine Q.map (A.gf (gI_of zm233 (e := (351, 3, .getfield 50, [9, 16])) rfl) (hq2.1.lt (a := 121) (by decide)) (hq2.1.T (a := 121) (p := (9, 45)) 43 rfl rfl) (by decide) (hq2.1.R 36 rfl)) ?_
  refine Q.run zm233 1 (i' := 197) (ls' := [some (.ref 121), some (.int x1), some (.int x2), some (.int x3), none, none, none]) (st' := [.int x2, .ref 135, .int (sI s4 132 (jN x2)), .int (sI s4 131 (jN x2)), .ref 121]) rfl ?_
  obtain ⟨hc7, h⟩ := ite_so h
  refine Q.map (A.ia (gI_of zm233 (e := (355, 1, .iaload, [])) rfl) (hq2.1.lt (a := 135) (by decide)) (hq2.1.T (a := 135) (p := (100, 1152)) 57 rfl rfl) hc7) ?_
  refine Q.run zm233 2 (i' := 200) (ls' := [some (.ref 121), some (.int x1), some (.int x2), some (.int x3), none, none, none]) (st' := [.int ((sI s4 135 (jN x2)) &&& 3), .int (sI s4 132 (jN x2)), .int (sI s4 131 (jN x2)), .ref 121]) rfl ?_
  obtain ⟨s10, hc9, h⟩ := bu_so h
  have hq8 : Q 2 sio tt cc d 241 0 [some (.ref 121), some (.int (sI s4 131 (jN x2))), some (.int (sI s4 132 (jN x2))), some (.int ((sI s4 135 (jN x2)) &&& 3))] [] s4 (.inl none, s10) := dt241 (by omega) hq2.1  hc9
  refine Q.callV (gC_vi zm233 (show zM233.2.2.2.2.2[200]? = some (358, 3, .invokevirtual 365, [0, 241, 3, 9]) from rfl) zm241 (hq2.1.lt (a := 121) (by decide)) (hq2.1.T (a := 121) (p := (9, 45)) 43 rfl rfl) rfl (show aCr 3 121 [.int ((sI s4 135 (jN x2)) &&& 3), .int (sI s4 132 (jN x2)), .int (sI s4 131 (jN x2)), .ref 121] 4 = some ([some (.ref 121), some (.int (sI s4 131 (jN x2))), some (.int (sI s4 132 (jN x2))), some (.int ((sI s4 135 (jN x2)) &&& 3))], []) from rfl)) hq8 ?_
  refine Q.run zm233 2 (i' := 203) (ls' := [some (.ref 121), some (.int x1), some (.int x2), some (.int x3), none, none, none]) (st' := [.int 5, .int x3]) rfl ?_
  by_cases hc11 : x3 = 5
  · rw [if_pos hc11] at h
    refine Q.map (A.bF (gI_of zm233 (e := (363, 3, .if_icmp .ne 48, [231])) rfl) (fun q => of_decide_eq_true q hc11)) ?_
    refine Q.run zm233 2 (i' := 206) (ls' := [some (.ref 121), some (.int x1), some (.int x2), some (.int x3), none, none, none]) (st' := [.int 58, .ref 121]) rfl ?_
    obtain ⟨s14, hc13, h⟩ := bu_so h
    have hq12 : Q 2 sio tt cc d 235 0 [some (.ref 121), some (.int 58)] [] s10 (.inl none, s14) := dt235 (by omega) hq8.1  hc13
    refine Q.callV (gC_vi zm233 (show zM233.2.2.2.2.2[206]? = some (369, 3, .invokevirtual 337, [0, 235, 1, 9]) from rfl) zm235 (hq8.1.lt (a := 121) (by decide)) (hq8.1.T (a := 121) (p := (9, 45)) 43 rfl rfl) rfl (show aCr 1 121 [.int 58, .ref 121] 2 = some ([some (.ref 121), some (.int 58)], []) from rfl)) hq12 ?_
    refine Q.run zm233 2 (i' := 209) (ls' := [some (.ref 121), some (.int x1), some (.int x2), some (.int x3), none, none, none]) (st' := [.ref 121, .ref 121]) rfl ?_
    refine Q.map (A.gf (gI_of zm233 (e := (374, 3, .getfield 44, [9, 14])) rfl) (hq12.1.lt (a := 121) (by decide)) (hq12.1.T (a := 121) (p := (9, 45)) 43 rfl rfl) (by decide) (hq12.1.R 34 rfl)) ?_
    refine Q.run zm233 1 (i' := 211) (ls' := [some (.ref 121), some (.int x1), some (.int x2), some (.int x3), none, none, none]) (st' := [.int x2, .ref 133, .ref 121]) rfl ?_
    obtain ⟨hc15, h⟩ := ite_so h
    refine Q.map (A.ia (gI_of zm233 (e := (378, 1, .iaload, [])) rfl) (hq12.1.lt (a := 133) (by decide)) (hq12.1.T (a := 133) (p := (100, 1152)) 55 rfl rfl) hc15) ?_
    refine Q.run zm233 1 (i' := 213) (ls' := [some (.ref 121), some (.int x1), some (.int x2), some (.int x3), none, none, none]) (st' := [.ref 121, .int (sI s14 133 (jN x2)), .ref 121]) rfl ?_
    refine Q.map (A.gf (gI_of zm233 (e := (380, 3, .getfield 47, [9, 15])) rfl) (hq12.1.lt (a := 121) (by decide)) (hq12.1.T (a := 121) (p := (9, 45)) 43 rfl rfl) (by decide) (hq12.1.R 35 rfl)) ?_
    refine Q.run zm233 1 (i' := 215) (ls' := [some (.ref 121), some (.int x1), some (.int x2), some (.int x3), none, none, none]) (st' := [.int x2, .ref 134, .int (sI s14 133 (jN x2)), .ref 121]) rfl ?_
    obtain ⟨hc16, h⟩ := ite_so h
    refine Q.map (A.ia (gI_of zm233 (e := (384, 1, .iaload, [])) rfl) (hq12.1.lt (a := 134) (by decide)) (hq12.1.T (a := 134) (p := (100, 1152)) 56 rfl rfl) hc16) ?_
    refine Q.run zm233 1 (i' := 217) (ls' := [some (.ref 121), some (.int x1), some (.int x2), some (.int x3), none, none, none]) (st' := [.ref 121, .int (sI s14 134 (jN x2)), .int (sI s14 133 (jN x2)), .ref 121]) rfl ?_
    refine Q.map (A.gf (gI_of zm233 (e := (386, 3, .getfield 50, [9, 16])) rfl) (hq12.1.lt (a := 121) (by decide)) (hq12.1.T (a := 121) (p := (9, 45)) 43 rfl rfl) (by decide) (hq12.1.R 36 rfl)) ?_
    refine Q.run zm233 1 (i' := 219) (ls' := [some (.ref 121), some (.int x1), some (.int x2), some (.int x3), none, none, none]) (st' := [.int x2, .ref 135, .int (sI s14 134 (jN x2)), .int (sI s14 133 (jN x2)), .ref 121]) rfl ?_
    obtain ⟨hc17, h⟩ := ite_so h
    refine Q.map (A.ia (gI_of zm233 (e := (390, 1, .iaload, [])) rfl) (hq12.1.lt (a := 135) (by decide)) (hq12.1.T (a := 135) (p := (100, 1152)) 57 rfl rfl) hc17) ?_
    refine Q.run zm233 2 (i' := 222) (ls' := [some (.ref 121), some (.int x1), some (.int x2), some (.int x3), none, none, none]) (st' := [.int ((sI s14 135 (jN x2)) >>> ((2 : Int32) &&& 31)), .int (sI s14 134 (jN x2)), .int (sI s14 133 (jN x2)), .ref 121]) rfl ?_
    obtain ⟨s20, hc19, h⟩ := bu_so h
    have hq18 : Q 2 sio tt cc d 241 0 [some (.ref 121), some (.int (sI s14 133 (jN x2))), some (.int (sI s14 134 (jN x2))), some (.int ((sI s14 135 (jN x2)) >>> ((2 : Int32) &&& 31)))] [] s14 (.inl none, s20) := dt241 (by omega) hq12.1  hc19
    refine Q.callV (gC_vi zm233 (show zM233.2.2.2.2.2[222]? = some (393, 3, .invokevirtual 365, [0, 241, 3, 9]) from rfl) zm241 (hq12.1.lt (a := 121) (by decide)) (hq12.1.T (a := 121) (p := (9, 45)) 43 rfl rfl) rfl (show aCr 3 121 [.int ((sI s14 135 (jN x2)) >>> ((2 : Int32) &&& 31)), .int (sI s14 134 (jN x2)), .int (sI s14 133 (jN x2)), .ref 121] 4 = some ([some (.ref 121), some (.int (sI s14 133 (jN x2))), some (.int (sI s14 134 (jN x2))), some (.int ((sI s14 135 (jN x2)) >>> ((2 : Int32) &&& 31)))], []) from rfl)) hq18 ?_
    refine Q.run zm233 1 (i' := 231) (ls' := [some (.ref 121), some (.int x1), some (.int x2), some (.int x3), none, none, none]) (st' := []) rfl ?_
    exact dt233_231 (by omega) hrc hq18.1  h
  · rw [if_neg hc11] at h
    refine Q.map (A.bT (gI_of zm233 (e := (363, 3, .if_icmp .ne 48, [231])) rfl) (decide_eq_true hc11)) ?_
    exact dt233_231 (by omega) hrc hq8.1  h
def dm233_158 (rc : Int32 → Int32 → aS → Option (Int32 × aS)) : Nat → Int32 → Int64 → Int32 → aS → Option (Int32 × aS)
  | 0, _, _, _, _ => none
  | n + 1, x2, x4, x6, s =>
    if x6 < 0 then
      dm233_231 rc x2 s
    else
      bu (dm235 (((x4 >>> ((8 * x6).toInt64 &&& 63)) &&& 255).toInt32) s) fun s4 =>
      dm233_158 rc n x2 x4 (x6 + (-1)) s4
set_option maxRecDepth 100000 in
theorem dt233_158 {sio : Bool} {tt : Nat} {cc : Nat → Nat → Int32} {d : Nat} {m : Nat} (hd : 12 + 3 * m + 2 ≤ d) {rc : Int32 → Int32 → aS → Option (Int32 × aS)} (hrc : ∀ {d : Nat}, 12 + 3 * m ≤ d → ∀ {x1 x2 : Int32} {s : aS}, Ly tt cc s → ∀ {o : Int32 × aS}, rc x1 x2 s = some o → Q 2 sio tt cc d 233 0 [some (.ref 121), some (.int x1), some (.int x2), none, none, none, none] [] s (.inl (some (.int o.1)), o.2)) : ∀ (n : Nat) {x2 : Int32} {x4 : Int64} {x6 : Int32} {x1 : Int32} {x3 : Int32} {s : aS} (_ : Ly tt cc s) {o : Int32 × aS} (_ : dm233_158 rc n x2 x4 x6 s = some o), Q 2 sio tt cc d 233 158 [some (.ref 121), some (.int x1), some (.int x2), some (.int x3), some (.long x4), none, some (.int x6)] [] s (.inl (some (.int o.1)), o.2) := by
  obtain ⟨d, rfl⟩ : ∃ e, d = e + 1 := ⟨d - 1, by omega⟩
  intro n
  induction n with
  | zero => intro x2 x4 x6 x1 x3 s hl o h; rw [dm233_158] at h; cases h
  | succ n ih =>
    intro x2 x4 x6 x1 x3 s hl o h
    rw [dm233_158] at h
    refine Q.run zm233 1 (i' := 159) (ls' := [some (.ref 121), some (.int x1), some (.int x2), some (.int x3), some (.long x4), none, some (.int x6)]) (st' := [.int x6]) rfl ?_
    by_cases hc1 : x6 < 0
    · rw [if_pos hc1] at h
      refine Q.map (A.zT (gI_of zm233 (e := (288, 3, .ifCond .lt 26, [172])) rfl) (decide_eq_true hc1)) ?_
      refine Q.run zm233 1 (i' := 231) (ls' := [some (.ref 121), some (.int x1), some (.int x2), some (.int x3), some (.long x4), none, some (.int x6)]) (st' := []) rfl ?_
      exact dt233_231 (by omega) hrc hl  h
    · rw [if_neg hc1] at h
      refine Q.map (A.zF (gI_of zm233 (e := (288, 3, .ifCond .lt 26, [172])) rfl) (fun q => hc1 (of_decide_eq_true q))) ?_
      refine Q.run zm233 9 (i' := 169) (ls' := [some (.ref 121), some (.int x1), some (.int x2), some (.int x3), some (.long x4), none, some (.int x6)]) (st' := [.int (((x4 >>> ((8 * x6).toInt64 &&& 63)) &&& 255).toInt32), .ref 121]) rfl ?_
      obtain ⟨s4, hc3, h⟩ := bu_so h
      have hq2 : Q 2 sio tt cc d 235 0 [some (.ref 121), some (.int (((x4 >>> ((8 * x6).toInt64 &&& 63)) &&& 255).toInt32))] [] s (.inl none, s4) := dt235 (by omega) hl  hc3
      refine Q.callV (gC_vi zm233 (show zM233.2.2.2.2.2[169]? = some (305, 3, .invokevirtual 337, [0, 235, 1, 9]) from rfl) zm235 (hl.lt (a := 121) (by decide)) (hl.T (a := 121) (p := (9, 45)) 43 rfl rfl) rfl (show aCr 1 121 [.int (((x4 >>> ((8 * x6).toInt64 &&& 63)) &&& 255).toInt32), .ref 121] 2 = some ([some (.ref 121), some (.int (((x4 >>> ((8 * x6).toInt64 &&& 63)) &&& 255).toInt32))], []) from rfl)) hq2 ?_
      refine Q.run zm233 2 (i' := 158) (ls' := [some (.ref 121), some (.int x1), some (.int x2), some (.int x3), some (.long x4), none, some (.int (x6 + (-1)))]) (st' := []) rfl ?_
      exact ih hq2.1  h
def dm233_117 (rc : Int32 → Int32 → aS → Option (Int32 × aS)) : Nat → Int32 → Int32 → aS → Option (Int32 × aS)
  | 0, _, _, _ => none
  | n + 1, x2, x4, s =>
    if aB x2 1152 then
      bu (dm204 (sI s 136 (jN x2)) x4) fun r4 =>
      if r4 ≤ 0 then
        dm233_231 rc x2 s
      else
        if aB x2 1152 then
          bu (dm204 (sI s 136 (jN x2)) x4) fun r9 =>
          bu (dm235 r9 s) fun s12 =>
          dm233_117 rc n x2 (x4 + 1) s12
        else none
    else none
set_option maxRecDepth 100000 in
theorem dt233_117 {sio : Bool} {tt : Nat} {cc : Nat → Nat → Int32} {d : Nat} {m : Nat} (hd : 12 + 3 * m + 2 ≤ d) {rc : Int32 → Int32 → aS → Option (Int32 × aS)} (hrc : ∀ {d : Nat}, 12 + 3 * m ≤ d → ∀ {x1 x2 : Int32} {s : aS}, Ly tt cc s → ∀ {o : Int32 × aS}, rc x1 x2 s = some o → Q 2 sio tt cc d 233 0 [some (.ref 121), some (.int x1), some (.int x2), none, none, none, none] [] s (.inl (some (.int o.1)), o.2)) : ∀ (n : Nat) {x2 : Int32} {x4 : Int32} {x1 : Int32} {x3 : Int32} {s : aS} (_ : Ly tt cc s) {o : Int32 × aS} (_ : dm233_117 rc n x2 x4 s = some o), Q 2 sio tt cc d 233 117 [some (.ref 121), some (.int x1), some (.int x2), some (.int x3), some (.int x4), none, none] [] s (.inl (some (.int o.1)), o.2) := by
  obtain ⟨d, rfl⟩ : ∃ e, d = e + 1 := ⟨d - 1, by omega⟩
  intro n
  induction n with
  | zero => intro x2 x4 x1 x3 s hl o h; rw [dm233_117] at h; cases h
  | succ n ih =>
    intro x2 x4 x1 x3 s hl o h
    rw [dm233_117] at h
    refine Q.run zm233 1 (i' := 118) (ls' := [some (.ref 121), some (.int x1), some (.int x2), some (.int x3), some (.int x4), none, none]) (st' := [.ref 121]) rfl ?_
    refine Q.map (A.gf (gI_of zm233 (e := (206, 3, .getfield 53, [9, 17])) rfl) (hl.lt (a := 121) (by decide)) (hl.T (a := 121) (p := (9, 45)) 43 rfl rfl) (by decide) (hl.R 37 rfl)) ?_
    refine Q.run zm233 1 (i' := 120) (ls' := [some (.ref 121), some (.int x1), some (.int x2), some (.int x3), some (.int x4), none, none]) (st' := [.int x2, .ref 136]) rfl ?_
    obtain ⟨hc1, h⟩ := ite_so h
    refine Q.map (A.ia (gI_of zm233 (e := (210, 1, .iaload, [])) rfl) (hl.lt (a := 136) (by decide)) (hl.T (a := 136) (p := (100, 1152)) 58 rfl rfl) hc1) ?_
    refine Q.run zm233 1 (i' := 122) (ls' := [some (.ref 121), some (.int x1), some (.int x2), some (.int x3), some (.int x4), none, none]) (st' := [.int x4, .int (sI s 136 (jN x2))]) rfl ?_
    obtain ⟨r4, hc3, h⟩ := bu_so h
    have hq2 : Q 2 sio tt cc d 204 0 [some (.int (sI s 136 (jN x2))), some (.int x4), none, none, none] [] s (.inl (some (.int r4)), s) := dt204 (by omega) hl  hc3
    refine Q.callI (gC_st zm233 (show zM233.2.2.2.2.2[122]? = some (213, 3, .invokestatic 196, [0, 204, 2]) from rfl) zm204 (show aC 2 [.int x4, .int (sI s 136 (jN x2))] 5 = some ([some (.int (sI s 136 (jN x2))), some (.int x4), none, none, none], []) from rfl)) hq2 ?_
    by_cases hc5 : r4 ≤ 0
    · rw [if_pos hc5] at h
      refine Q.map (A.zT (gI_of zm233 (e := (216, 3, .ifCond .le 24, [134])) rfl) (decide_eq_true hc5)) ?_
      refine Q.run zm233 1 (i' := 231) (ls' := [some (.ref 121), some (.int x1), some (.int x2), some (.int x3), some (.int x4), none, none]) (st' := []) rfl ?_
      exact dt233_231 (by omega) hrc hl  h
    · rw [if_neg hc5] at h
      refine Q.map (A.zF (gI_of zm233 (e := (216, 3, .ifCond .le 24, [134])) rfl) (fun q => hc5 (of_decide_eq_true q))) ?_
      refine Q.run zm233 2 (i' := 126) (ls' := [some (.ref 121), some (.int x1), some (.int x2), some (.int x3), some (.int x4), none, none]) (st' := [.ref 121, .ref 121]) rfl ?_
      refine Q.map (A.gf (gI_of zm233 (e := (221, 3, .getfield 53, [9, 17])) rfl) (hl.lt (a := 121) (by decide)) (hl.T (a := 121) (p := (9, 45)) 43 rfl rfl) (by decide) (hl.R 37 rfl)) ?_
      refine Q.run zm233 1 (i' := 128) (ls' := [some (.ref 121), some (.int x1), some (.int x2), some (.int x3), some (.int x4), none, none]) (st' := [.int x2, .ref 136, .ref 121]) rfl ?_
      obtain ⟨hc6, h⟩ := ite_so h
      refine Q.map (A.ia (gI_of zm233 (e := (225, 1, .iaload, [])) rfl) (hl.lt (a := 136) (by decide)) (hl.T (a := 136) (p := (100, 1152)) 58 rfl rfl) hc6) ?_
      refine Q.run zm233 1 (i' := 130) (ls' := [some (.ref 121), some (.int x1), some (.int x2), some (.int x3), some (.int x4), none, none]) (st' := [.int x4, .int (sI s 136 (jN x2)), .ref 121]) rfl ?_
      obtain ⟨r9, hc8, h⟩ := bu_so h
      have hq7 : Q 2 sio tt cc d 204 0 [some (.int (sI s 136 (jN x2))), some (.int x4), none, none, none] [] s (.inl (some (.int r9)), s) := dt204 (by omega) hl  hc8
      refine Q.callI (gC_st zm233 (show zM233.2.2.2.2.2[130]? = some (228, 3, .invokestatic 196, [0, 204, 2]) from rfl) zm204 (show aC 2 [.int x4, .int (sI s 136 (jN x2)), .ref 121] 5 = some ([some (.int (sI s 136 (jN x2))), some (.int x4), none, none, none], [.ref 121]) from rfl)) hq7 ?_
      obtain ⟨s12, hc11, h⟩ := bu_so h
      have hq10 : Q 2 sio tt cc d 235 0 [some (.ref 121), some (.int r9)] [] s (.inl none, s12) := dt235 (by omega) hl  hc11
      refine Q.callV (gC_vi zm233 (show zM233.2.2.2.2.2[131]? = some (231, 3, .invokevirtual 337, [0, 235, 1, 9]) from rfl) zm235 (hl.lt (a := 121) (by decide)) (hl.T (a := 121) (p := (9, 45)) 43 rfl rfl) rfl (show aCr 1 121 [.int r9, .ref 121] 2 = some ([some (.ref 121), some (.int r9)], []) from rfl)) hq10 ?_
      refine Q.run zm233 2 (i' := 117) (ls' := [some (.ref 121), some (.int x1), some (.int x2), some (.int x3), some (.int (x4 + 1)), none, none]) (st' := []) rfl ?_
      exact ih hq10.1  h
def dm233_98 (rc : Int32 → Int32 → aS → Option (Int32 × aS)) (x1 : Int32) (x3 : Int32) (x4 : Int32) (x5 : Int32) (s : aS) : Option (Int32 × aS) :=
  if x3 ≤ 20 then
    dm233_104 rc x1 x4 x5 s
  else
    bu (dm235 61 s) fun s4 =>
    dm233_104 rc x1 x4 x5 s4
set_option maxRecDepth 100000 in
theorem dt233_98 {sio : Bool} {tt : Nat} {cc : Nat → Nat → Int32} {d : Nat} {m : Nat} (hd : 12 + 3 * m + 2 ≤ d) {rc : Int32 → Int32 → aS → Option (Int32 × aS)} (hrc : ∀ {d : Nat}, 12 + 3 * m ≤ d → ∀ {x1 x2 : Int32} {s : aS}, Ly tt cc s → ∀ {o : Int32 × aS}, rc x1 x2 s = some o → Q 2 sio tt cc d 233 0 [some (.ref 121), some (.int x1), some (.int x2), none, none, none, none] [] s (.inl (some (.int o.1)), o.2)) {x1 : Int32} {x3 : Int32} {x4 : Int32} {x5 : Int32} {x2 : Int32} {s : aS} (hl : Ly tt cc s) {o : Int32 × aS} (h : dm233_98 rc x1 x3 x4 x5 s = some o) : Q 2 sio tt cc d 233 98 [some (.ref 121), some (.int x1), some (.int x2), some (.int x3), some (.int x4), some (.int x5), none] [] s (.inl (some (.int o.1)), o.2) := by
  unfold dm233_98 at h
  obtain ⟨d, rfl⟩ : ∃ e, d = e + 1 := ⟨d - 1, by omega⟩
  refine Q.run zm233 2 (i' := 100) (ls' := [some (.ref 121), some (.int x1), some (.int x2), some (.int x3), some (.int x4), some (.int x5), none]) (st' := [.int 20, .int x3]) rfl ?_
  by_cases hc1 : x3 ≤ 20
  · rw [if_pos hc1] at h
    refine Q.map (A.bT (gI_of zm233 (e := (176, 3, .if_icmp .le 9, [104])) rfl) (decide_eq_true hc1)) ?_
    exact dt233_104 (by omega) hrc hl  h
  · rw [if_neg hc1] at h
    refine Q.map (A.bF (gI_of zm233 (e := (176, 3, .if_icmp .le 9, [104])) rfl) (fun q => hc1 (of_decide_eq_true q))) ?_
    refine Q.run zm233 2 (i' := 103) (ls' := [some (.ref 121), some (.int x1), some (.int x2), some (.int x3), some (.int x4), some (.int x5), none]) (st' := [.int 61, .ref 121]) rfl ?_
    obtain ⟨s4, hc3, h⟩ := bu_so h
    have hq2 : Q 2 sio tt cc d 235 0 [some (.ref 121), some (.int 61)] [] s (.inl none, s4) := dt235 (by omega) hl  hc3
    refine Q.callV (gC_vi zm233 (show zM233.2.2.2.2.2[103]? = some (182, 3, .invokevirtual 337, [0, 235, 1, 9]) from rfl) zm235 (hl.lt (a := 121) (by decide)) (hl.T (a := 121) (p := (9, 45)) 43 rfl rfl) rfl (show aCr 1 121 [.int 61, .ref 121] 2 = some ([some (.ref 121), some (.int 61)], []) from rfl)) hq2 ?_
    exact dt233_104 (by omega) hrc hq2.1  h
def dm233_21 (rc : Int32 → Int32 → aS → Option (Int32 × aS)) : Nat → Int32 → Int32 → Int32 → Int32 → aS → Option (Int32 × aS)
  | 0, _, _, _, _, _ => none
  | n + 1, x1, x2, x4, x5, s =>
    if aB x2 1152 then
      if (sI s 129 (jN x2)) ≤ x5 then
        bu (dm235 41 s) fun s5 =>
        some (x4, s5)
      else
        if x5 ≤ 0 then
          dm233_32 rc (dm233_21 rc n) x1 x2 x4 x5 s
        else
          bu (dm235 44 s) fun s9 =>
          dm233_32 rc (dm233_21 rc n) x1 x2 x4 x5 s9
    else none
set_option maxRecDepth 100000 in
theorem dt233_21 {sio : Bool} {tt : Nat} {cc : Nat → Nat → Int32} {d : Nat} {m : Nat} (hd : 12 + 3 * m + 2 ≤ d) {rc : Int32 → Int32 → aS → Option (Int32 × aS)} (hrc : ∀ {d : Nat}, 12 + 3 * m ≤ d → ∀ {x1 x2 : Int32} {s : aS}, Ly tt cc s → ∀ {o : Int32 × aS}, rc x1 x2 s = some o → Q 2 sio tt cc d 233 0 [some (.ref 121), some (.int x1), some (.int x2), none, none, none, none] [] s (.inl (some (.int o.1)), o.2)) : ∀ (n : Nat) {x1 : Int32} {x2 : Int32} {x4 : Int32} {x5 : Int32} {x3 : Int32} {s : aS} (_ : Ly tt cc s) {o : Int32 × aS} (_ : dm233_21 rc n x1 x2 x4 x5 s = some o), Q 2 sio tt cc d 233 21 [some (.ref 121), some (.int x1), some (.int x2), some (.int x3), some (.int x4), some (.int x5), none] [] s (.inl (some (.int o.1)), o.2) := by
  obtain ⟨d, rfl⟩ : ∃ e, d = e + 1 := ⟨d - 1, by omega⟩
  intro n
  induction n with
  | zero => intro x1 x2 x4 x5 x3 s hl o h; rw [dm233_21] at h; cases h
  | succ n ih =>
    intro x1 x2 x4 x5 x3 s hl o h
    rw [dm233_21] at h
    refine Q.run zm233 2 (i' := 23) (ls' := [some (.ref 121), some (.int x1), some (.int x2), some (.int x3), some (.int x4), some (.int x5), none]) (st' := [.ref 121, .int x5]) rfl ?_
    refine Q.map (A.gf (gI_of zm233 (e := (36, 3, .getfield 32, [9, 10])) rfl) (hl.lt (a := 121) (by decide)) (hl.T (a := 121) (p := (9, 45)) 43 rfl rfl) (by decide) (hl.R 30 rfl)) ?_
    refine Q.run zm233 1 (i' := 25) (ls' := [some (.ref 121), some (.int x1), some (.int x2), some (.int x3), some (.int x4), some (.int x5), none]) (st' := [.int x2, .ref 129, .int x5]) rfl ?_
    obtain ⟨hc1, h⟩ := ite_so h
    refine Q.map (A.ia (gI_of zm233 (e := (40, 1, .iaload, [])) rfl) (hl.lt (a := 129) (by decide)) (hl.T (a := 129) (p := (100, 1152)) 51 rfl rfl) hc1) ?_
    by_cases hc2 : (sI s 129 (jN x2)) ≤ x5
    · rw [if_pos hc2] at h
      refine Q.map (A.bT (gI_of zm233 (e := (41, 3, .if_icmp .ge 29, [39])) rfl) (decide_eq_true hc2)) ?_
      refine Q.run zm233 2 (i' := 41) (ls' := [some (.ref 121), some (.int x1), some (.int x2), some (.int x3), some (.int x4), some (.int x5), none]) (st' := [.int 41, .ref 121]) rfl ?_
      obtain ⟨s5, hc4, h⟩ := bu_so h
      have hq3 : Q 2 sio tt cc d 235 0 [some (.ref 121), some (.int 41)] [] s (.inl none, s5) := dt235 (by omega) hl  hc4
      refine Q.callV (gC_vi zm233 (show zM233.2.2.2.2.2[41]? = some (73, 3, .invokevirtual 337, [0, 235, 1, 9]) from rfl) zm235 (hl.lt (a := 121) (by decide)) (hl.T (a := 121) (p := (9, 45)) 43 rfl rfl) rfl (show aCr 1 121 [.int 41, .ref 121] 2 = some ([some (.ref 121), some (.int 41)], []) from rfl)) hq3 ?_
      refine Q.run zm233 1 (i' := 43) (ls' := [some (.ref 121), some (.int x1), some (.int x2), some (.int x3), some (.int x4), some (.int x5), none]) (st' := [.int x4]) rfl ?_
      cases h
      exact Q.ret (A.ri zm233 (show zM233.2.2.2.2.2[43]? = some (78, 1, .ireturn, []) from rfl) rfl rfl) hq3.1
    · rw [if_neg hc2] at h
      refine Q.map (A.bF (gI_of zm233 (e := (41, 3, .if_icmp .ge 29, [39])) rfl) (fun q => hc2 (of_decide_eq_true q))) ?_
      refine Q.run zm233 1 (i' := 28) (ls' := [some (.ref 121), some (.int x1), some (.int x2), some (.int x3), some (.int x4), some (.int x5), none]) (st' := [.int x5]) rfl ?_
      by_cases hc6 : x5 ≤ 0
      · rw [if_pos hc6] at h
        refine Q.map (A.zT (gI_of zm233 (e := (46, 3, .ifCond .le 9, [32])) rfl) (decide_eq_true hc6)) ?_
        exact dt233_32 (by omega) hrc ih hl  h
      · rw [if_neg hc6] at h
        refine Q.map (A.zF (gI_of zm233 (e := (46, 3, .ifCond .le 9, [32])) rfl) (fun q => hc6 (of_decide_eq_true q))) ?_
        refine Q.run zm233 2 (i' := 31) (ls' := [some (.ref 121), some (.int x1), some (.int x2), some (.int x3), some (.int x4), some (.int x5), none]) (st' := [.int 44, .ref 121]) rfl ?_
        obtain ⟨s9, hc8, h⟩ := bu_so h
        have hq7 : Q 2 sio tt cc d 235 0 [some (.ref 121), some (.int 44)] [] s (.inl none, s9) := dt235 (by omega) hl  hc8
        refine Q.callV (gC_vi zm233 (show zM233.2.2.2.2.2[31]? = some (52, 3, .invokevirtual 337, [0, 235, 1, 9]) from rfl) zm235 (hl.lt (a := 121) (by decide)) (hl.T (a := 121) (p := (9, 45)) 43 rfl rfl) rfl (show aCr 1 121 [.int 44, .ref 121] 2 = some ([some (.ref 121), some (.int 44)], []) from rfl)) hq7 ?_
        exact dt233_32 (by omega) hrc ih hq7.1  h
def dm233_157 (rc : Int32 → Int32 → aS → Option (Int32 × aS)) (x2 : Int32) (x4 : Int64) (y0 : Int32) (s : aS) : Option (Int32 × aS) :=
  dm233_158 rc 5000 x2 x4 y0 s
set_option maxRecDepth 100000 in
theorem dt233_157 {sio : Bool} {tt : Nat} {cc : Nat → Nat → Int32} {d : Nat} {m : Nat} (hd : 12 + 3 * m + 2 ≤ d) {rc : Int32 → Int32 → aS → Option (Int32 × aS)} (hrc : ∀ {d : Nat}, 12 + 3 * m ≤ d → ∀ {x1 x2 : Int32} {s : aS}, Ly tt cc s → ∀ {o : Int32 × aS}, rc x1 x2 s = some o → Q 2 sio tt cc d 233 0 [some (.ref 121), some (.int x1), some (.int x2), none, none, none, none] [] s (.inl (some (.int o.1)), o.2)) {x2 : Int32} {x4 : Int64} {y0 : Int32} {x1 : Int32} {x3 : Int32} {s : aS} (hl : Ly tt cc s) {o : Int32 × aS} (h : dm233_157 rc x2 x4 y0 s = some o) : Q 2 sio tt cc d 233 157 [some (.ref 121), some (.int x1), some (.int x2), some (.int x3), some (.long x4), none, none] [.int y0] s (.inl (some (.int o.1)), o.2) := by
  unfold dm233_157 at h
  obtain ⟨d, rfl⟩ : ∃ e, d = e + 1 := ⟨d - 1, by omega⟩
  refine Q.run zm233 1 (i' := 158) (ls' := [some (.ref 121), some (.int x1), some (.int x2), some (.int x3), some (.long x4), none, some (.int y0)]) (st' := []) rfl ?_
  exact dt233_158 (by omega) hrc _ hl  h
def dm233_147 (rc : Int32 → Int32 → aS → Option (Int32 × aS)) (x2 : Int32) (y0 : Int64) (s : aS) : Option (Int32 × aS) :=
  if aB x2 1152 then
    if (sI s 136 (jN x2)) = 1 then
      dm233_157 rc x2 y0 3 s
    else
      dm233_157 rc x2 y0 4 s
  else none
set_option maxRecDepth 100000 in
theorem dt233_147 {sio : Bool} {tt : Nat} {cc : Nat → Nat → Int32} {d : Nat} {m : Nat} (hd : 12 + 3 * m + 2 ≤ d) {rc : Int32 → Int32 → aS → Option (Int32 × aS)} (hrc : ∀ {d : Nat}, 12 + 3 * m ≤ d → ∀ {x1 x2 : Int32} {s : aS}, Ly tt cc s → ∀ {o : Int32 × aS}, rc x1 x2 s = some o → Q 2 sio tt cc d 233 0 [some (.ref 121), some (.int x1), some (.int x2), none, none, none, none] [] s (.inl (some (.int o.1)), o.2)) {x2 : Int32} {y0 : Int64} {x1 : Int32} {x3 : Int32} {s : aS} (hl : Ly tt cc s) {o : Int32 × aS} (h : dm233_147 rc x2 y0 s = some o) : Q 2 sio tt cc d 233 147 [some (.ref 121), some (.int x1), some (.int x2), some (.int x3), none, none, none] [.long y0] s (.inl (some (.int o.1)), o.2) := by
  unfold dm233_147 at h
  obtain ⟨d, rfl⟩ : ∃ e, d = e + 1 := ⟨d - 1, by omega⟩
  refine Q.run zm233 2 (i' := 149) (ls' := [some (.ref 121), some (.int x1), some (.int x2), some (.int x3), some (.long y0), none, none]) (st' := [.ref 121]) rfl ?_
  refine Q.map (A.gf (gI_of zm233 (e := (270, 3, .getfield 53, [9, 17])) rfl) (hl.lt (a := 121) (by decide)) (hl.T (a := 121) (p := (9, 45)) 43 rfl rfl) (by decide) (hl.R 37 rfl)) ?_
  refine Q.run zm233 1 (i' := 151) (ls' := [some (.ref 121), some (.int x1), some (.int x2), some (.int x3), some (.long y0), none, none]) (st' := [.int x2, .ref 136]) rfl ?_
  obtain ⟨hc1, h⟩ := ite_so h
  refine Q.map (A.ia (gI_of zm233 (e := (274, 1, .iaload, [])) rfl) (hl.lt (a := 136) (by decide)) (hl.T (a := 136) (p := (100, 1152)) 58 rfl rfl) hc1) ?_
  refine Q.run zm233 1 (i' := 153) (ls' := [some (.ref 121), some (.int x1), some (.int x2), some (.int x3), some (.long y0), none, none]) (st' := [.int 1, .int (sI s 136 (jN x2))]) rfl ?_
  by_cases hc2 : (sI s 136 (jN x2)) = 1
  · rw [if_pos hc2] at h
    refine Q.map (A.bF (gI_of zm233 (e := (276, 3, .if_icmp .ne 7, [156])) rfl) (fun q => of_decide_eq_true q hc2)) ?_
    refine Q.run zm233 2 (i' := 157) (ls' := [some (.ref 121), some (.int x1), some (.int x2), some (.int x3), some (.long y0), none, none]) (st' := [.int 3]) rfl ?_
    exact dt233_157 (by omega) hrc hl  h
  · rw [if_neg hc2] at h
    refine Q.map (A.bT (gI_of zm233 (e := (276, 3, .if_icmp .ne 7, [156])) rfl) (decide_eq_true hc2)) ?_
    refine Q.run zm233 1 (i' := 157) (ls' := [some (.ref 121), some (.int x1), some (.int x2), some (.int x3), some (.long y0), none, none]) (st' := [.int 4]) rfl ?_
    exact dt233_157 (by omega) hrc hl  h
def dm233 : Nat → Int32 → Int32 → aS → Option (Int32 × aS)
  | 0, _, _, _ => none
  | n + 1, x1, x2, s => nx (dm233 n) fun rc =>
    if aB x2 1152 then
      if (sI s 128 (jN x2)) = 7 then
        bu (dm234 x1 x2 s) fun s5 =>
        bu (dm235 40 s5) fun s8 =>
        dm233_21 rc 5000 x1 x2 (x2 + 1) 0 s8
      else
        if (sI s 128 (jN x2)) = 9 then
          bv (dm236 rc x1 (x2 + 1) 7 s) fun r13 s12 =>
          bu (dm235 37 s12) fun s16 =>
          some (r13, s16)
        else
          if (sI s 128 (jN x2)) = 10 then
            bu (dm235 45 s) fun s20 =>
            bv (dm236 rc x1 (x2 + 1) 6 s20) fun r24 s23 =>
            some (r24, s23)
          else
            if (sI s 128 (jN x2)) < 11 then
              if (sI s 128 (jN x2)) = 2 then
                dm233_117 rc 5000 x2 0 s
              else
                if (sI s 128 (jN x2)) = 3 then
                  if aB x2 1152 then
                    if (sI s 136 (jN x2)) = 1 then
                      dm233_147 rc x2 1414681925 s
                    else
                      dm233_147 rc x2 301743231813 s
                  else none
                else
                  if (sI s 128 (jN x2)) = 4 then
                    dm233_179 rc x2 (sI s 128 (jN x2)) s
                  else
                    if (sI s 128 (jN x2)) = 5 then
                      dm233_179 rc x2 (sI s 128 (jN x2)) s
                    else
                      if (sI s 128 (jN x2)) = 8 then
                        dm233_231 rc x2 s
                      else
                        bu (dm234 x1 x2 s) fun s35 =>
                        dm233_231 rc x2 s35
            else
              bu (dm191 (sI s 128 (jN x2))) fun r38 =>
              bv (dm236 rc x1 (x2 + 1) r38 s) fun r42 s41 =>
              bu (dm237 (sI s 128 (jN x2))) fun r45 =>
              bu (dm235 r45 s41) fun s48 =>
              if (sI s 128 (jN x2)) = 18 then
                bu (dm235 62 s48) fun s52 =>
                dm233_98 rc x1 (sI s 128 (jN x2)) r38 r42 s52
              else
                dm233_98 rc x1 (sI s 128 (jN x2)) r38 r42 s48
    else none
set_option maxRecDepth 100000 in
theorem dt233 {sio : Bool} {tt : Nat} {cc : Nat → Nat → Int32} : ∀ (m : Nat) {d : Nat} (_ : 12 + 3 * m ≤ d) {x1 : Int32} {x2 : Int32} {s : aS} (_ : Ly tt cc s) {o : Int32 × aS} (_ : dm233 m x1 x2 s = some o), Q 2 sio tt cc d 233 0 [some (.ref 121), some (.int x1), some (.int x2), none, none, none, none] [] s (.inl (some (.int o.1)), o.2) := by
  intro m
  induction m with
  | zero => intro d hd x1 x2 s hl o h; rw [dm233] at h; cases h
  | succ m ih =>
    intro d hd x1 x2 s hl o h
    rw [dm233] at h
    obtain ⟨rc, hrc0, h⟩ := nx_so h
    have hrc : ∀ {d : Nat}, 12 + 3 * m ≤ d → ∀ {x1 x2 : Int32} {s : aS}, Ly tt cc s → ∀ {o : Int32 × aS}, rc x1 x2 s = some o → Q 2 sio tt cc d 233 0 [some (.ref 121), some (.int x1), some (.int x2), none, none, none, none] [] s (.inl (some (.int o.1)), o.2) := fun h1 _ _ _ h2 _ h3 => ih h1 h2 (by rw [← hrc0]; exact h3)
    clear hrc0 ih
    obtain ⟨d, rfl⟩ : ∃ e, d = e + 1 := ⟨d - 1, by omega⟩
    refine Q.run zm233 1 (i' := 1) (ls' := [some (.ref 121), some (.int x1), some (.int x2), none, none, none, none]) (st' := [.ref 121]) rfl ?_
    refine Q.map (A.gf (gI_of zm233 (e := (1, 3, .getfield 29, [9, 9])) rfl) (hl.lt (a := 121) (by decide)) (hl.T (a := 121) (p := (9, 45)) 43 rfl rfl) (by decide) (hl.R 29 rfl)) ?_
    refine Q.run zm233 1 (i' := 3) (ls' := [some (.ref 121), some (.int x1), some (.int x2), none, none, none, none]) (st' := [.int x2, .ref 128]) rfl ?_
    obtain ⟨hc1, h⟩ := ite_so h
    refine Q.map (A.ia (gI_of zm233 (e := (5, 1, .iaload, [])) rfl) (hl.lt (a := 128) (by decide)) (hl.T (a := 128) (p := (100, 1152)) 50 rfl rfl) hc1) ?_
    refine Q.run zm233 3 (i' := 7) (ls' := [some (.ref 121), some (.int x1), some (.int x2), some (.int (sI s 128 (jN x2))), none, none, none]) (st' := [.int 7, .int (sI s 128 (jN x2))]) rfl ?_
    by_cases hc2 : (sI s 128 (jN x2)) = 7
    · rw [if_pos hc2] at h
      refine Q.map (A.bF (gI_of zm233 (e := (10, 3, .if_icmp .ne 69, [44])) rfl) (fun q => of_decide_eq_true q hc2)) ?_
      refine Q.run zm233 3 (i' := 11) (ls' := [some (.ref 121), some (.int x1), some (.int x2), some (.int (sI s 128 (jN x2))), none, none, none]) (st' := [.int x2, .int x1, .ref 121]) rfl ?_
      obtain ⟨s5, hc4, h⟩ := bu_so h
      have hq3 : Q 2 sio tt cc d 234 0 [some (.ref 121), some (.int x1), some (.int x2), none] [] s (.inl none, s5) := dt234 (by omega) hl  hc4
      refine Q.callV (gC_vi zm233 (show zM233.2.2.2.2.2[11]? = some (16, 3, .invokevirtual 353, [0, 234, 2, 9]) from rfl) zm234 (hl.lt (a := 121) (by decide)) (hl.T (a := 121) (p := (9, 45)) 43 rfl rfl) rfl (show aCr 2 121 [.int x2, .int x1, .ref 121] 4 = some ([some (.ref 121), some (.int x1), some (.int x2), none], []) from rfl)) hq3 ?_
      refine Q.run zm233 2 (i' := 14) (ls' := [some (.ref 121), some (.int x1), some (.int x2), some (.int (sI s 128 (jN x2))), none, none, none]) (st' := [.int 40, .ref 121]) rfl ?_
      obtain ⟨s8, hc7, h⟩ := bu_so h
      have hq6 : Q 2 sio tt cc d 235 0 [some (.ref 121), some (.int 40)] [] s5 (.inl none, s8) := dt235 (by omega) hq3.1  hc7
      refine Q.callV (gC_vi zm233 (show zM233.2.2.2.2.2[14]? = some (22, 3, .invokevirtual 337, [0, 235, 1, 9]) from rfl) zm235 (hq3.1.lt (a := 121) (by decide)) (hq3.1.T (a := 121) (p := (9, 45)) 43 rfl rfl) rfl (show aCr 1 121 [.int 40, .ref 121] 2 = some ([some (.ref 121), some (.int 40)], []) from rfl)) hq6 ?_
      refine Q.run zm233 6 (i' := 21) (ls' := [some (.ref 121), some (.int x1), some (.int x2), some (.int (sI s 128 (jN x2))), some (.int (x2 + 1)), some (.int 0), none]) (st' := []) rfl ?_
      exact dt233_21 (by omega) hrc _ hq6.1  h
    · rw [if_neg hc2] at h
      refine Q.map (A.bT (gI_of zm233 (e := (10, 3, .if_icmp .ne 69, [44])) rfl) (decide_eq_true hc2)) ?_
      refine Q.run zm233 2 (i' := 46) (ls' := [some (.ref 121), some (.int x1), some (.int x2), some (.int (sI s 128 (jN x2))), none, none, none]) (st' := [.int 9, .int (sI s 128 (jN x2))]) rfl ?_
      by_cases hc9 : (sI s 128 (jN x2)) = 9
      · rw [if_pos hc9] at h
        refine Q.map (A.bF (gI_of zm233 (e := (82, 3, .if_icmp .ne 24, [60])) rfl) (fun q => of_decide_eq_true q hc9)) ?_
        refine Q.run zm233 6 (i' := 53) (ls' := [some (.ref 121), some (.int x1), some (.int x2), some (.int (sI s 128 (jN x2))), none, none, none]) (st' := [.int 7, .int (x2 + 1), .int x1, .ref 121]) rfl ?_
        obtain ⟨r13, s12, hc11, h⟩ := bv_so h
        have hq10 : Q 2 sio tt cc d 236 0 [some (.ref 121), some (.int x1), some (.int (x2 + 1)), some (.int 7), none, none] [] s (.inl (some (.int r13)), s12) := dt236 (m := m) (by omega) hrc hl  hc11
        refine Q.callI (gC_vi zm233 (show zM233.2.2.2.2.2[53]? = some (92, 3, .invokevirtual 356, [0, 236, 3, 9]) from rfl) zm236 (hl.lt (a := 121) (by decide)) (hl.T (a := 121) (p := (9, 45)) 43 rfl rfl) rfl (show aCr 3 121 [.int 7, .int (x2 + 1), .int x1, .ref 121] 6 = some ([some (.ref 121), some (.int x1), some (.int (x2 + 1)), some (.int 7), none, none], []) from rfl)) hq10 ?_
        refine Q.run zm233 3 (i' := 57) (ls' := [some (.ref 121), some (.int x1), some (.int x2), some (.int (sI s 128 (jN x2))), some (.int r13), none, none]) (st' := [.int 37, .ref 121]) rfl ?_
        obtain ⟨s16, hc15, h⟩ := bu_so h
        have hq14 : Q 2 sio tt cc d 235 0 [some (.ref 121), some (.int 37)] [] s12 (.inl none, s16) := dt235 (by omega) hq10.1  hc15
        refine Q.callV (gC_vi zm233 (show zM233.2.2.2.2.2[57]? = some (100, 3, .invokevirtual 337, [0, 235, 1, 9]) from rfl) zm235 (hq10.1.lt (a := 121) (by decide)) (hq10.1.T (a := 121) (p := (9, 45)) 43 rfl rfl) rfl (show aCr 1 121 [.int 37, .ref 121] 2 = some ([some (.ref 121), some (.int 37)], []) from rfl)) hq14 ?_
        refine Q.run zm233 1 (i' := 59) (ls' := [some (.ref 121), some (.int x1), some (.int x2), some (.int (sI s 128 (jN x2))), some (.int r13), none, none]) (st' := [.int r13]) rfl ?_
        cases h
        exact Q.ret (A.ri zm233 (show zM233.2.2.2.2.2[59]? = some (105, 1, .ireturn, []) from rfl) rfl rfl) hq14.1
      · rw [if_neg hc9] at h
        refine Q.map (A.bT (gI_of zm233 (e := (82, 3, .if_icmp .ne 24, [60])) rfl) (decide_eq_true hc9)) ?_
        refine Q.run zm233 2 (i' := 62) (ls' := [some (.ref 121), some (.int x1), some (.int x2), some (.int (sI s 128 (jN x2))), none, none, none]) (st' := [.int 10, .int (sI s 128 (jN x2))]) rfl ?_
        by_cases hc17 : (sI s 128 (jN x2)) = 10
        · rw [if_pos hc17] at h
          refine Q.map (A.bF (gI_of zm233 (e := (109, 3, .if_icmp .ne 20, [74])) rfl) (fun q => of_decide_eq_true q hc17)) ?_
          refine Q.run zm233 2 (i' := 65) (ls' := [some (.ref 121), some (.int x1), some (.int x2), some (.int (sI s 128 (jN x2))), none, none, none]) (st' := [.int 45, .ref 121]) rfl ?_
          obtain ⟨s20, hc19, h⟩ := bu_so h
          have hq18 : Q 2 sio tt cc d 235 0 [some (.ref 121), some (.int 45)] [] s (.inl none, s20) := dt235 (by omega) hl  hc19
          refine Q.callV (gC_vi zm233 (show zM233.2.2.2.2.2[65]? = some (115, 3, .invokevirtual 337, [0, 235, 1, 9]) from rfl) zm235 (hl.lt (a := 121) (by decide)) (hl.T (a := 121) (p := (9, 45)) 43 rfl rfl) rfl (show aCr 1 121 [.int 45, .ref 121] 2 = some ([some (.ref 121), some (.int 45)], []) from rfl)) hq18 ?_
          refine Q.run zm233 6 (i' := 72) (ls' := [some (.ref 121), some (.int x1), some (.int x2), some (.int (sI s 128 (jN x2))), none, none, none]) (st' := [.int 6, .int (x2 + 1), .int x1, .ref 121]) rfl ?_
          obtain ⟨r24, s23, hc22, h⟩ := bv_so h
          have hq21 : Q 2 sio tt cc d 236 0 [some (.ref 121), some (.int x1), some (.int (x2 + 1)), some (.int 6), none, none] [] s20 (.inl (some (.int r24)), s23) := dt236 (m := m) (by omega) hrc hq18.1  hc22
          refine Q.callI (gC_vi zm233 (show zM233.2.2.2.2.2[72]? = some (125, 3, .invokevirtual 356, [0, 236, 3, 9]) from rfl) zm236 (hq18.1.lt (a := 121) (by decide)) (hq18.1.T (a := 121) (p := (9, 45)) 43 rfl rfl) rfl (show aCr 3 121 [.int 6, .int (x2 + 1), .int x1, .ref 121] 6 = some ([some (.ref 121), some (.int x1), some (.int (x2 + 1)), some (.int 6), none, none], []) from rfl)) hq21 ?_
          cases h
          exact Q.ret (A.ri zm233 (show zM233.2.2.2.2.2[73]? = some (128, 1, .ireturn, []) from rfl) rfl rfl) hq21.1
        · rw [if_neg hc17] at h
          refine Q.map (A.bT (gI_of zm233 (e := (109, 3, .if_icmp .ne 20, [74])) rfl) (decide_eq_true hc17)) ?_
          refine Q.run zm233 2 (i' := 76) (ls' := [some (.ref 121), some (.int x1), some (.int x2), some (.int (sI s 128 (jN x2))), none, none, none]) (st' := [.int 11, .int (sI s 128 (jN x2))]) rfl ?_
          by_cases hc25 : (sI s 128 (jN x2)) < 11
          · rw [if_pos hc25] at h
            refine Q.map (A.bT (gI_of zm233 (e := (132, 3, .if_icmp .lt 65, [112])) rfl) (decide_eq_true hc25)) ?_
            refine Q.run zm233 2 (i' := 114) (ls' := [some (.ref 121), some (.int x1), some (.int x2), some (.int (sI s 128 (jN x2))), none, none, none]) (st' := [.int 2, .int (sI s 128 (jN x2))]) rfl ?_
            by_cases hc26 : (sI s 128 (jN x2)) = 2
            · rw [if_pos hc26] at h
              refine Q.map (A.bF (gI_of zm233 (e := (199, 3, .if_icmp .ne 44, [135])) rfl) (fun q => of_decide_eq_true q hc26)) ?_
              refine Q.run zm233 2 (i' := 117) (ls' := [some (.ref 121), some (.int x1), some (.int x2), some (.int (sI s 128 (jN x2))), some (.int 0), none, none]) (st' := []) rfl ?_
              exact dt233_117 (by omega) hrc _ hl  h
            · rw [if_neg hc26] at h
              refine Q.map (A.bT (gI_of zm233 (e := (199, 3, .if_icmp .ne 44, [135])) rfl) (decide_eq_true hc26)) ?_
              refine Q.run zm233 2 (i' := 137) (ls' := [some (.ref 121), some (.int x1), some (.int x2), some (.int (sI s 128 (jN x2))), none, none, none]) (st' := [.int 3, .int (sI s 128 (jN x2))]) rfl ?_
              by_cases hc27 : (sI s 128 (jN x2)) = 3
              · rw [if_pos hc27] at h
                refine Q.map (A.bF (gI_of zm233 (e := (245, 3, .if_icmp .ne 72, [173])) rfl) (fun q => of_decide_eq_true q hc27)) ?_
                refine Q.run zm233 1 (i' := 139) (ls' := [some (.ref 121), some (.int x1), some (.int x2), some (.int (sI s 128 (jN x2))), none, none, none]) (st' := [.ref 121]) rfl ?_
                refine Q.map (A.gf (gI_of zm233 (e := (249, 3, .getfield 53, [9, 17])) rfl) (hl.lt (a := 121) (by decide)) (hl.T (a := 121) (p := (9, 45)) 43 rfl rfl) (by decide) (hl.R 37 rfl)) ?_
                refine Q.run zm233 1 (i' := 141) (ls' := [some (.ref 121), some (.int x1), some (.int x2), some (.int (sI s 128 (jN x2))), none, none, none]) (st' := [.int x2, .ref 136]) rfl ?_
                obtain ⟨hc28, h⟩ := ite_so h
                refine Q.map (A.ia (gI_of zm233 (e := (253, 1, .iaload, [])) rfl) (hl.lt (a := 136) (by decide)) (hl.T (a := 136) (p := (100, 1152)) 58 rfl rfl) hc28) ?_
                refine Q.run zm233 1 (i' := 143) (ls' := [some (.ref 121), some (.int x1), some (.int x2), some (.int (sI s 128 (jN x2))), none, none, none]) (st' := [.int 1, .int (sI s 136 (jN x2))]) rfl ?_
                by_cases hc29 : (sI s 136 (jN x2)) = 1
                · rw [if_pos hc29] at h
                  refine Q.map (A.bF (gI_of zm233 (e := (255, 3, .if_icmp .ne 9, [146])) rfl) (fun q => of_decide_eq_true q hc29)) ?_
                  refine Q.run zm233 2 (i' := 147) (ls' := [some (.ref 121), some (.int x1), some (.int x2), some (.int (sI s 128 (jN x2))), none, none, none]) (st' := [.long 1414681925]) rfl ?_
                  exact dt233_147 (by omega) hrc hl  h
                · rw [if_neg hc29] at h
                  refine Q.map (A.bT (gI_of zm233 (e := (255, 3, .if_icmp .ne 9, [146])) rfl) (decide_eq_true hc29)) ?_
                  refine Q.run zm233 1 (i' := 147) (ls' := [some (.ref 121), some (.int x1), some (.int x2), some (.int (sI s 128 (jN x2))), none, none, none]) (st' := [.long 301743231813]) rfl ?_
                  exact dt233_147 (by omega) hrc hl  h
              · rw [if_neg hc27] at h
                refine Q.map (A.bT (gI_of zm233 (e := (245, 3, .if_icmp .ne 72, [173])) rfl) (decide_eq_true hc27)) ?_
                refine Q.run zm233 2 (i' := 175) (ls' := [some (.ref 121), some (.int x1), some (.int x2), some (.int (sI s 128 (jN x2))), none, none, none]) (st' := [.int 4, .int (sI s 128 (jN x2))]) rfl ?_
                by_cases hc30 : (sI s 128 (jN x2)) = 4
                · rw [if_pos hc30] at h
                  refine Q.map (A.bT (gI_of zm233 (e := (319, 3, .if_icmp .eq 8, [179])) rfl) (decide_eq_true hc30)) ?_
                  exact dt233_179 (by omega) hrc hl  h
                · rw [if_neg hc30] at h
                  refine Q.map (A.bF (gI_of zm233 (e := (319, 3, .if_icmp .eq 8, [179])) rfl) (fun q => hc30 (of_decide_eq_true q))) ?_
                  refine Q.run zm233 2 (i' := 178) (ls' := [some (.ref 121), some (.int x1), some (.int x2), some (.int (sI s 128 (jN x2))), none, none, none]) (st' := [.int 5, .int (sI s 128 (jN x2))]) rfl ?_
                  by_cases hc31 : (sI s 128 (jN x2)) = 5
                  · rw [if_pos hc31] at h
                    refine Q.map (A.bF (gI_of zm233 (e := (324, 3, .if_icmp .ne 75, [224])) rfl) (fun q => of_decide_eq_true q hc31)) ?_
                    exact dt233_179 (by omega) hrc hl  h
                  · rw [if_neg hc31] at h
                    refine Q.map (A.bT (gI_of zm233 (e := (324, 3, .if_icmp .ne 75, [224])) rfl) (decide_eq_true hc31)) ?_
                    refine Q.run zm233 2 (i' := 226) (ls' := [some (.ref 121), some (.int x1), some (.int x2), some (.int (sI s 128 (jN x2))), none, none, none]) (st' := [.int 8, .int (sI s 128 (jN x2))]) rfl ?_
                    by_cases hc32 : (sI s 128 (jN x2)) = 8
                    · rw [if_pos hc32] at h
                      refine Q.map (A.bT (gI_of zm233 (e := (402, 3, .if_icmp .eq 9, [231])) rfl) (decide_eq_true hc32)) ?_
                      exact dt233_231 (by omega) hrc hl  h
                    · rw [if_neg hc32] at h
                      refine Q.map (A.bF (gI_of zm233 (e := (402, 3, .if_icmp .eq 9, [231])) rfl) (fun q => hc32 (of_decide_eq_true q))) ?_
                      refine Q.run zm233 3 (i' := 230) (ls' := [some (.ref 121), some (.int x1), some (.int x2), some (.int (sI s 128 (jN x2))), none, none, none]) (st' := [.int x2, .int x1, .ref 121]) rfl ?_
                      obtain ⟨s35, hc34, h⟩ := bu_so h
                      have hq33 : Q 2 sio tt cc d 234 0 [some (.ref 121), some (.int x1), some (.int x2), none] [] s (.inl none, s35) := dt234 (by omega) hl  hc34
                      refine Q.callV (gC_vi zm233 (show zM233.2.2.2.2.2[230]? = some (408, 3, .invokevirtual 353, [0, 234, 2, 9]) from rfl) zm234 (hl.lt (a := 121) (by decide)) (hl.T (a := 121) (p := (9, 45)) 43 rfl rfl) rfl (show aCr 2 121 [.int x2, .int x1, .ref 121] 4 = some ([some (.ref 121), some (.int x1), some (.int x2), none], []) from rfl)) hq33 ?_
                      exact dt233_231 (by omega) hrc hq33.1  h
          · rw [if_neg hc25] at h
            refine Q.map (A.bF (gI_of zm233 (e := (132, 3, .if_icmp .lt 65, [112])) rfl) (fun q => hc25 (of_decide_eq_true q))) ?_
            refine Q.run zm233 1 (i' := 78) (ls' := [some (.ref 121), some (.int x1), some (.int x2), some (.int (sI s 128 (jN x2))), none, none, none]) (st' := [.int (sI s 128 (jN x2))]) rfl ?_
            obtain ⟨r38, hc37, h⟩ := bu_so h
            have hq36 : Q 2 sio tt cc d 191 0 [some (.int (sI s 128 (jN x2)))] [] s (.inl (some (.int r38)), s) := dt191 (by omega) hl  hc37
            refine Q.callI (gC_st zm233 (show zM233.2.2.2.2.2[78]? = some (136, 3, .invokestatic 150, [0, 191, 1]) from rfl) zm191 (show aC 1 [.int (sI s 128 (jN x2))] 1 = some ([some (.int (sI s 128 (jN x2)))], []) from rfl)) hq36 ?_
            refine Q.run zm233 7 (i' := 86) (ls' := [some (.ref 121), some (.int x1), some (.int x2), some (.int (sI s 128 (jN x2))), some (.int r38), none, none]) (st' := [.int r38, .int (x2 + 1), .int x1, .ref 121]) rfl ?_
            obtain ⟨r42, s41, hc40, h⟩ := bv_so h
            have hq39 : Q 2 sio tt cc d 236 0 [some (.ref 121), some (.int x1), some (.int (x2 + 1)), some (.int r38), none, none] [] s (.inl (some (.int r42)), s41) := dt236 (m := m) (by omega) hrc hl  hc40
            refine Q.callI (gC_vi zm233 (show zM233.2.2.2.2.2[86]? = some (148, 3, .invokevirtual 356, [0, 236, 3, 9]) from rfl) zm236 (hl.lt (a := 121) (by decide)) (hl.T (a := 121) (p := (9, 45)) 43 rfl rfl) rfl (show aCr 3 121 [.int r38, .int (x2 + 1), .int x1, .ref 121] 6 = some ([some (.ref 121), some (.int x1), some (.int (x2 + 1)), some (.int r38), none, none], []) from rfl)) hq39 ?_
            refine Q.run zm233 3 (i' := 90) (ls' := [some (.ref 121), some (.int x1), some (.int x2), some (.int (sI s 128 (jN x2))), some (.int r38), some (.int r42), none]) (st' := [.int (sI s 128 (jN x2)), .ref 121]) rfl ?_
            obtain ⟨r45, hc44, h⟩ := bu_so h
            have hq43 : Q 2 sio tt cc d 237 0 [some (.int (sI s 128 (jN x2)))] [] s41 (.inl (some (.int r45)), s41) := dt237 (by omega) hq39.1  hc44
            refine Q.callI (gC_st zm233 (show zM233.2.2.2.2.2[90]? = some (155, 3, .invokestatic 359, [0, 237, 1]) from rfl) zm237 (show aC 1 [.int (sI s 128 (jN x2)), .ref 121] 1 = some ([some (.int (sI s 128 (jN x2)))], [.ref 121]) from rfl)) hq43 ?_
            obtain ⟨s48, hc47, h⟩ := bu_so h
            have hq46 : Q 2 sio tt cc d 235 0 [some (.ref 121), some (.int r45)] [] s41 (.inl none, s48) := dt235 (by omega) hq39.1  hc47
            refine Q.callV (gC_vi zm233 (show zM233.2.2.2.2.2[91]? = some (158, 3, .invokevirtual 337, [0, 235, 1, 9]) from rfl) zm235 (hq39.1.lt (a := 121) (by decide)) (hq39.1.T (a := 121) (p := (9, 45)) 43 rfl rfl) rfl (show aCr 1 121 [.int r45, .ref 121] 2 = some ([some (.ref 121), some (.int r45)], []) from rfl)) hq46 ?_
            refine Q.run zm233 2 (i' := 94) (ls' := [some (.ref 121), some (.int x1), some (.int x2), some (.int (sI s 128 (jN x2))), some (.int r38), some (.int r42), none]) (st' := [.int 18, .int (sI s 128 (jN x2))]) rfl ?_
            by_cases hc49 : (sI s 128 (jN x2)) = 18
            · rw [if_pos hc49] at h
              refine Q.map (A.bF (gI_of zm233 (e := (164, 3, .if_icmp .ne 9, [98])) rfl) (fun q => of_decide_eq_true q hc49)) ?_
              refine Q.run zm233 2 (i' := 97) (ls' := [some (.ref 121), some (.int x1), some (.int x2), some (.int (sI s 128 (jN x2))), some (.int r38), some (.int r42), none]) (st' := [.int 62, .ref 121]) rfl ?_
              obtain ⟨s52, hc51, h⟩ := bu_so h
              have hq50 : Q 2 sio tt cc d 235 0 [some (.ref 121), some (.int 62)] [] s48 (.inl none, s52) := dt235 (by omega) hq46.1  hc51
              refine Q.callV (gC_vi zm233 (show zM233.2.2.2.2.2[97]? = some (170, 3, .invokevirtual 337, [0, 235, 1, 9]) from rfl) zm235 (hq46.1.lt (a := 121) (by decide)) (hq46.1.T (a := 121) (p := (9, 45)) 43 rfl rfl) rfl (show aCr 1 121 [.int 62, .ref 121] 2 = some ([some (.ref 121), some (.int 62)], []) from rfl)) hq50 ?_
              exact dt233_98 (by omega) hrc hq50.1  h
            · rw [if_neg hc49] at h
              refine Q.map (A.bT (gI_of zm233 (e := (164, 3, .if_icmp .ne 9, [98])) rfl) (decide_eq_true hc49)) ?_
              exact dt233_98 (by omega) hrc hq46.1  h
end
section
/-! 232 FormulaTreesModel.form(II)I -/
set_option maxRecDepth 100000 in
theorem zm232 : zP[232]? = some zM232 := rfl
def dm232_8 (x1 : Int32) (x2 : Int32) (y1 : Int32) (s : aS) : Option (Int32 × aS) :=
  nx (wI s 121 0 y1) fun s1 =>
  if (sI s1 121 0) ≤ 0 then
    nx (wI s1 121 42 0) fun s5 =>
    nx (wI s5 121 43 x2) fun s8 =>
    nx (wI s8 121 44 (-1)) fun s11 =>
    bv (dm233 400 x1 (128 * x1) s11) fun r17 s16 =>
    some (sI s16 121 44, s16)
  else
    some (0, s1)
set_option maxRecDepth 100000 in
theorem dt232_8 {sio : Bool} {tt : Nat} {cc : Nat → Nat → Int32} {d : Nat} (hd : 1213 ≤ d) {x1 : Int32} {x2 : Int32} {y1 : Int32} {s : aS} (hl : Ly tt cc s) {o : Int32 × aS} (h : dm232_8  x1 x2 y1 s = some o) : Q 2 sio tt cc d 232 8 [some (.ref 121), some (.int x1), some (.int x2)] [.int y1, .ref 121] s (.inl (some (.int o.1)), o.2) := by
  unfold dm232_8 at h
  obtain ⟨d, rfl⟩ : ∃ e, d = e + 1 := ⟨d - 1, by omega⟩
  obtain ⟨s1, hs2, h⟩ := nx_so h
  refine Q.pf hs2 rfl (gI_of zm232 (e := (14, 3, .putfield 89, [9, 0, 0])) rfl) (hl.lt (a := 121) (by decide)) (by decide) (hl.T (a := 121) (p := (9, 45)) 43 rfl rfl) (by decide) rfl rfl ?_
  have hl3 : Ly tt cc s1 := by rw [hs2]; exact hl.wId (by decide)
  refine Q.run zm232 1 (i' := 10) (ls' := [some (.ref 121), some (.int x1), some (.int x2)]) (st' := [.ref 121]) rfl ?_
  refine Q.map (A.gf (gI_of zm232 (e := (18, 3, .getfield 89, [9, 0])) rfl) (hl3.lt (a := 121) (by decide)) (hl3.T (a := 121) (p := (9, 45)) 43 rfl rfl) (by decide) rfl) ?_
  by_cases hc4 : (sI s1 121 0) ≤ 0
  · rw [if_pos hc4] at h
    refine Q.map (A.zT (gI_of zm232 (e := (21, 3, .ifCond .le 5, [14])) rfl) (decide_eq_true hc4)) ?_
    refine Q.run zm232 2 (i' := 16) (ls' := [some (.ref 121), some (.int x1), some (.int x2)]) (st' := [.int 0, .ref 121]) rfl ?_
    obtain ⟨s5, hs6, h⟩ := nx_so h
    refine Q.pf hs6 rfl (gI_of zm232 (e := (28, 3, .putfield 328, [9, 42, 0])) rfl) (hl3.lt (a := 121) (by decide)) (by decide) (hl3.T (a := 121) (p := (9, 45)) 43 rfl rfl) (by decide) rfl rfl ?_
    have hl7 : Ly tt cc s5 := by rw [hs6]; exact hl3.wId (by decide)
    refine Q.run zm232 2 (i' := 19) (ls' := [some (.ref 121), some (.int x1), some (.int x2)]) (st' := [.int x2, .ref 121]) rfl ?_
    obtain ⟨s8, hs9, h⟩ := nx_so h
    refine Q.pf hs9 rfl (gI_of zm232 (e := (33, 3, .putfield 331, [9, 43, 0])) rfl) (hl7.lt (a := 121) (by decide)) (by decide) (hl7.T (a := 121) (p := (9, 45)) 43 rfl rfl) (by decide) rfl rfl ?_
    have hl10 : Ly tt cc s8 := by rw [hs9]; exact hl7.wId (by decide)
    refine Q.run zm232 2 (i' := 22) (ls' := [some (.ref 121), some (.int x1), some (.int x2)]) (st' := [.int (-1), .ref 121]) rfl ?_
    obtain ⟨s11, hs12, h⟩ := nx_so h
    refine Q.pf hs12 rfl (gI_of zm232 (e := (38, 3, .putfield 334, [9, 44, 0])) rfl) (hl10.lt (a := 121) (by decide)) (by decide) (hl10.T (a := 121) (p := (9, 45)) 43 rfl rfl) (by decide) rfl rfl ?_
    have hl13 : Ly tt cc s11 := by rw [hs12]; exact hl10.wId (by decide)
    refine Q.run zm232 5 (i' := 28) (ls' := [some (.ref 121), some (.int x1), some (.int x2)]) (st' := [.int (128 * x1), .int x1, .ref 121]) rfl ?_
    obtain ⟨r17, s16, hc15, h⟩ := bv_so h
    have hq14 : Q 2 sio tt cc d 233 0 [some (.ref 121), some (.int x1), some (.int (128 * x1)), none, none, none, none] [] s11 (.inl (some (.int r17)), s16) := dt233 400 (by omega) hl13  hc15
    refine Q.callI (gC_vi zm232 (show zM232.2.2.2.2.2[28]? = some (48, 3, .invokevirtual 350, [0, 233, 2, 9]) from rfl) zm233 (hl13.lt (a := 121) (by decide)) (hl13.T (a := 121) (p := (9, 45)) 43 rfl rfl) rfl (show aCr 2 121 [.int (128 * x1), .int x1, .ref 121] 7 = some ([some (.ref 121), some (.int x1), some (.int (128 * x1)), none, none, none, none], []) from rfl)) hq14 ?_
    refine Q.run zm232 2 (i' := 31) (ls' := [some (.ref 121), some (.int x1), some (.int x2)]) (st' := [.ref 121]) rfl ?_
    refine Q.map (A.gf (gI_of zm232 (e := (53, 3, .getfield 334, [9, 44])) rfl) (hq14.1.lt (a := 121) (by decide)) (hq14.1.T (a := 121) (p := (9, 45)) 43 rfl rfl) (by decide) rfl) ?_
    cases h
    exact Q.ret (A.ri zm232 (show zM232.2.2.2.2.2[32]? = some (56, 1, .ireturn, []) from rfl) rfl rfl) hq14.1
  · rw [if_neg hc4] at h
    refine Q.map (A.zF (gI_of zm232 (e := (21, 3, .ifCond .le 5, [14])) rfl) (fun q => hc4 (of_decide_eq_true q))) ?_
    refine Q.run zm232 1 (i' := 13) (ls' := [some (.ref 121), some (.int x1), some (.int x2)]) (st' := [.int 0]) rfl ?_
    cases h
    exact Q.ret (A.ri zm232 (show zM232.2.2.2.2.2[13]? = some (25, 1, .ireturn, []) from rfl) rfl rfl) hl3
def dm232 (x1 : Int32) (x2 : Int32) (s : aS) : Option (Int32 × aS) :=
  bu (dm225 x1 s) fun r3 =>
  if r3 = 0 then
    dm232_8 x1 x2 0 s
  else
    dm232_8 x1 x2 1 s
set_option maxRecDepth 100000 in
theorem dt232 {sio : Bool} {tt : Nat} {cc : Nat → Nat → Int32} {d : Nat} (hd : 1213 ≤ d) {x1 : Int32} {x2 : Int32} {s : aS} (hl : Ly tt cc s) {o : Int32 × aS} (h : dm232  x1 x2 s = some o) : Q 2 sio tt cc d 232 0 [some (.ref 121), some (.int x1), some (.int x2)] [] s (.inl (some (.int o.1)), o.2) := by
  unfold dm232 at h
  obtain ⟨d, rfl⟩ : ∃ e, d = e + 1 := ⟨d - 1, by omega⟩
  refine Q.run zm232 3 (i' := 3) (ls' := [some (.ref 121), some (.int x1), some (.int x2)]) (st' := [.int x1, .ref 121, .ref 121]) rfl ?_
  obtain ⟨r3, hc2, h⟩ := bu_so h
  have hq1 : Q 2 sio tt cc d 225 0 [some (.ref 121), some (.int x1)] [] s (.inl (some (.int r3)), s) := dt225 (by omega) hl  hc2
  refine Q.callI (gC_vi zm232 (show zM232.2.2.2.2.2[3]? = some (3, 3, .invokevirtual 310, [0, 225, 1, 9]) from rfl) zm225 (hl.lt (a := 121) (by decide)) (hl.T (a := 121) (p := (9, 45)) 43 rfl rfl) rfl (show aCr 1 121 [.int x1, .ref 121, .ref 121] 2 = some ([some (.ref 121), some (.int x1)], [.ref 121]) from rfl)) hq1 ?_
  by_cases hc4 : r3 = 0
  · rw [if_pos hc4] at h
    refine Q.map (A.zT (gI_of zm232 (e := (6, 3, .ifCond .eq 7, [7])) rfl) (decide_eq_true hc4)) ?_
    refine Q.run zm232 1 (i' := 8) (ls' := [some (.ref 121), some (.int x1), some (.int x2)]) (st' := [.int 0, .ref 121]) rfl ?_
    exact dt232_8 hd hl  h
  · rw [if_neg hc4] at h
    refine Q.map (A.zF (gI_of zm232 (e := (6, 3, .ifCond .eq 7, [7])) rfl) (fun q => hc4 (of_decide_eq_true q))) ?_
    refine Q.run zm232 2 (i' := 8) (ls' := [some (.ref 121), some (.int x1), some (.int x2)]) (st' := [.int 1, .ref 121]) rfl ?_
    exact dt232_8 hd hl  h
/-! 159 FormulaTrees.size(I)I -/
set_option maxRecDepth 100000 in
theorem zm159 : zP[159]? = some zM159 := rfl
def dm159 (x1 : Int32) (s : aS) : Option (xZ × aS) :=
  bu (dm54 x1 s) fun r3 =>
  vN r3 (
    some (.inr 2, nw s 82 0)
  ) fun b5 =>
    if aK s b5 3 then
      bu (dm94 b5 s) fun r9 =>
      some (.inl (some (.int r9)), s)
    else none
set_option maxRecDepth 100000 in
theorem dt159 {sio : Bool} {tt : Nat} {cc : Nat → Nat → Int32} {d : Nat} (hd : 9 ≤ d) {x1 : Int32} {s : aS} (hl : Ly tt cc s) {o : xZ × aS} (h : dm159  x1 s = some o) : Q 1 sio tt cc d 159 0 [some (.ref 78), some (.int x1), none] [] s o := by
  unfold dm159 at h
  obtain ⟨d, rfl⟩ : ∃ e, d = e + 1 := ⟨d - 1, by omega⟩
  refine Q.run zm159 2 (i' := 2) (ls' := [some (.ref 78), some (.int x1), none]) (st' := [.int x1, .ref 78]) rfl ?_
  obtain ⟨r3, hc2, h⟩ := bu_so h
  have hq1 : Q 1 sio tt cc d 54 0 [some (.ref 78), some (.int x1)] [] s (.inl (some r3), s) := dt54 (by omega) hl  hc2
  rcases vN_so h with ⟨hv4, h9⟩ | ⟨b5, hv4, h9⟩
  · clear h
    subst hv4
    have h := h9
    refine Q.callR (gC_vi zm159 (show zM159.2.2.2.2.2[2]? = some (2, 3, .invokevirtual 114, [0, 54, 1, 0]) from rfl) zm54 (hl.lt (a := 78) (by decide)) (hl.T (a := 78) (p := (0, 7)) 0 rfl rfl) rfl (show aCr 1 78 [.int x1, .ref 78] 2 = some ([some (.ref 78), some (.int x1)], []) from rfl)) hq1 ?_
    refine Q.run zm159 3 (i' := 6) (ls' := [some (.ref 78), some (.int x1), some (.null)]) (st' := []) rfl ?_
    cases h
    exact Q.t zm159 (show zM159.2.2.2.2.2[6]? = some (10, 3, .new 100, [202]) from rfl) rfl rfl hl.gL (by omega) hl
  · clear h
    subst hv4
    have h := h9
    obtain ⟨hr6, h⟩ := ite_so h
    refine Q.callR (gC_vi zm159 (show zM159.2.2.2.2.2[2]? = some (2, 3, .invokevirtual 114, [0, 54, 1, 0]) from rfl) zm54 (hl.lt (a := 78) (by decide)) (hl.T (a := 78) (p := (0, 7)) 0 rfl rfl) rfl (show aCr 1 78 [.int x1, .ref 78] 2 = some ([some (.ref 78), some (.int x1)], []) from rfl)) hq1 ?_
    refine Q.run zm159 4 (i' := 12) (ls' := [some (.ref 78), some (.int x1), some (.ref b5)]) (st' := [.ref b5]) rfl ?_
    obtain ⟨r9, hc8, h⟩ := bu_so h
    have hq7 : Q 1 sio tt cc d 94 0 [some (.ref b5)] [] s (.inl (some (.int r9)), s) := dt94 (by omega) hl hr6 hc8
    refine Q.callI (gC_vi zm159 (show zM159.2.2.2.2.2[12]? = some (21, 3, .invokevirtual 163, [0, 94, 0, 3]) from rfl) zm94 hr6.1 (hl.tr hr6).1 rfl (show aCr 0 b5 [.ref b5] 1 = some ([some (.ref b5)], []) from rfl)) hq7 ?_
    cases h
    exact Q.ret (A.ri zm159 (show zM159.2.2.2.2.2[13]? = some (24, 1, .ireturn, []) from rfl) rfl rfl) hl
/-! 10 FormulaTreesLaw.size(LFormulaTrees;I[J)I -/
set_option maxRecDepth 100000 in
theorem zm10 : zP[10]? = some zM10 := rfl
def dm10 (x1 : Int32) (s : aS) : Option (Int32 × aS) :=
  bv (dm159 x1 s) fun z4 s3 =>
  zN z4 (fun v5 =>
    vI v5 fun r7 =>
    if aB 0 1 then
      nx (wJ s3 148 (jN 0) r7.toInt64) fun s10 =>
      some (0, s10)
    else none
  ) fun e6 =>
    if e6 = 2 then
      some (1, s3)
    else
      none
set_option maxRecDepth 100000 in
theorem dt10 {sio : Bool} {tt : Nat} {cc : Nat → Nat → Int32} {d : Nat} (hd : 10 ≤ d) {x1 : Int32} {s : aS} (hl : Ly tt cc s) {o : Int32 × aS} (h : dm10  x1 s = some o) : Q 1 sio tt cc d 10 0 [some (.ref 78), some (.int x1), some (.ref 148), none] [] s (.inl (some (.int o.1)), o.2) := by
  unfold dm10 at h
  obtain ⟨d, rfl⟩ : ∃ e, d = e + 1 := ⟨d - 1, by omega⟩
  refine Q.run zm10 4 (i' := 4) (ls' := [some (.ref 78), some (.int x1), some (.ref 148), none]) (st' := [.int x1, .ref 78, .int 0, .ref 148]) rfl ?_
  obtain ⟨z4, s3, hc2, h⟩ := bv_so h
  have hq1 : Q 1 sio tt cc d 159 0 [some (.ref 78), some (.int x1), none] [] s (z4, s3) := dt159 (by omega) hl  hc2
  rcases zN_so h with ⟨v5, hz13, h8⟩ | ⟨e6, hz13, h8⟩
  · clear h
    subst hz13
    have h := h8
    obtain ⟨r7, hv8, h9⟩ := vI_so h
    clear h
    subst hv8
    have h := h9
    refine Q.callI (gC_vi zm10 (show zM10.2.2.2.2.2[4]? = some (4, 3, .invokevirtual 48, [0, 159, 1, 0]) from rfl) zm159 (hl.lt (a := 78) (by decide)) (hl.T (a := 78) (p := (0, 7)) 0 rfl rfl) rfl (show aCr 1 78 [.int x1, .ref 78, .int 0, .ref 148] 3 = some ([some (.ref 78), some (.int x1), none], [.int 0, .ref 148]) from rfl)) hq1 ?_
    refine Q.run zm10 1 (i' := 6) (ls' := [some (.ref 78), some (.int x1), some (.ref 148), none]) (st' := [.long r7.toInt64, .int 0, .ref 148]) rfl ?_
    obtain ⟨hc9, h⟩ := ite_so h
    obtain ⟨s10, hs11, h⟩ := nx_so h
    refine Q.lS hs11 rfl (gI_of zm10 (e := (8, 1, .lastore, [])) rfl) (hq1.1.lt (a := 148) (by decide)) (by decide) (hq1.1.T (a := 148) (p := (104, 1)) 70 rfl rfl) hc9 ?_
    have hl12 : Ly tt cc s10 := by rw [hs11]; exact hq1.1.wJd
    refine Q.run zm10 2 (i' := 12) (ls' := [some (.ref 78), some (.int x1), some (.ref 148), none]) (st' := [.int 0]) rfl ?_
    cases h
    exact Q.ret (A.ri zm10 (show zM10.2.2.2.2.2[12]? = some (16, 1, .ireturn, []) from rfl) rfl rfl) hl12
  · clear h
    subst hz13
    have h := h8
    by_cases hc14 : e6 = 2
    · rw [if_pos hc14] at h
      subst hc14
      refine Q.hc (gC_vi zm10 (show zM10.2.2.2.2.2[4]? = some (4, 3, .invokevirtual 48, [0, 159, 1, 0]) from rfl) zm159 (hl.lt (a := 78) (by decide)) (hl.T (a := 78) (p := (0, 7)) 0 rfl rfl) rfl (show aCr 1 78 [.int x1, .ref 78, .int 0, .ref 148] 3 = some ([some (.ref 78), some (.int x1), none], [.int 0, .ref 148]) from rfl)) hq1 (t := 8) rfl ?_
      refine Q.run zm10 2 (i' := 10) (ls' := [some (.ref 78), some (.int x1), some (.ref 148), some (.ref (sL s3 - 1))]) (st' := [.int 1]) rfl ?_
      cases h
      exact Q.ret (A.ri zm10 (show zM10.2.2.2.2.2[10]? = some (14, 1, .ireturn, []) from rfl) rfl rfl) hq1.1
    · rw [if_neg hc14] at h
      cases h
/-! 243 FormulaTreesModel.size(I)I -/
set_option maxRecDepth 100000 in
theorem zm243 : zP[243]? = some zM243 := rfl
def dm243_8 (x1 : Int32) (y1 : Int32) (s : aS) : Option (Int32 × aS) :=
  nx (wI s 121 0 y1) fun s1 =>
  if (sI s1 121 0) ≤ 0 then
    if aB x1 9 then
      some (sI s1 127 (jN x1), s1)
    else none
  else
    some (0, s1)
set_option maxRecDepth 100000 in
theorem dt243_8 {sio : Bool} {tt : Nat} {cc : Nat → Nat → Int32} {d : Nat} (hd : 1 ≤ d) {x1 : Int32} {y1 : Int32} {s : aS} (hl : Ly tt cc s) {o : Int32 × aS} (h : dm243_8  x1 y1 s = some o) : Q 2 sio tt cc d 243 8 [some (.ref 121), some (.int x1)] [.int y1, .ref 121] s (.inl (some (.int o.1)), o.2) := by
  unfold dm243_8 at h
  obtain ⟨d, rfl⟩ : ∃ e, d = e + 1 := ⟨d - 1, by omega⟩
  obtain ⟨s1, hs2, h⟩ := nx_so h
  refine Q.pf hs2 rfl (gI_of zm243 (e := (14, 3, .putfield 89, [9, 0, 0])) rfl) (hl.lt (a := 121) (by decide)) (by decide) (hl.T (a := 121) (p := (9, 45)) 43 rfl rfl) (by decide) rfl rfl ?_
  have hl3 : Ly tt cc s1 := by rw [hs2]; exact hl.wId (by decide)
  refine Q.run zm243 1 (i' := 10) (ls' := [some (.ref 121), some (.int x1)]) (st' := [.ref 121]) rfl ?_
  refine Q.map (A.gf (gI_of zm243 (e := (18, 3, .getfield 89, [9, 0])) rfl) (hl3.lt (a := 121) (by decide)) (hl3.T (a := 121) (p := (9, 45)) 43 rfl rfl) (by decide) rfl) ?_
  by_cases hc4 : (sI s1 121 0) ≤ 0
  · rw [if_pos hc4] at h
    refine Q.map (A.zT (gI_of zm243 (e := (21, 3, .ifCond .le 7, [14])) rfl) (decide_eq_true hc4)) ?_
    refine Q.run zm243 1 (i' := 15) (ls' := [some (.ref 121), some (.int x1)]) (st' := [.ref 121]) rfl ?_
    refine Q.map (A.gf (gI_of zm243 (e := (29, 3, .getfield 26, [9, 8])) rfl) (hl3.lt (a := 121) (by decide)) (hl3.T (a := 121) (p := (9, 45)) 43 rfl rfl) (by decide) (hl3.R 28 rfl)) ?_
    refine Q.run zm243 1 (i' := 17) (ls' := [some (.ref 121), some (.int x1)]) (st' := [.int x1, .ref 127]) rfl ?_
    obtain ⟨hc5, h⟩ := ite_so h
    refine Q.map (A.ia (gI_of zm243 (e := (33, 1, .iaload, [])) rfl) (hl3.lt (a := 127) (by decide)) (hl3.T (a := 127) (p := (100, 9)) 49 rfl rfl) hc5) ?_
    cases h
    exact Q.ret (A.ri zm243 (show zM243.2.2.2.2.2[18]? = some (34, 1, .ireturn, []) from rfl) rfl rfl) hl3
  · rw [if_neg hc4] at h
    refine Q.map (A.zF (gI_of zm243 (e := (21, 3, .ifCond .le 7, [14])) rfl) (fun q => hc4 (of_decide_eq_true q))) ?_
    refine Q.run zm243 2 (i' := 18) (ls' := [some (.ref 121), some (.int x1)]) (st' := [.int 0]) rfl ?_
    cases h
    exact Q.ret (A.ri zm243 (show zM243.2.2.2.2.2[18]? = some (34, 1, .ireturn, []) from rfl) rfl rfl) hl3
def dm243 (x1 : Int32) (s : aS) : Option (Int32 × aS) :=
  bu (dm225 x1 s) fun r3 =>
  if r3 = 0 then
    dm243_8 x1 0 s
  else
    dm243_8 x1 1 s
set_option maxRecDepth 100000 in
theorem dt243 {sio : Bool} {tt : Nat} {cc : Nat → Nat → Int32} {d : Nat} (hd : 1 ≤ d) {x1 : Int32} {s : aS} (hl : Ly tt cc s) {o : Int32 × aS} (h : dm243  x1 s = some o) : Q 2 sio tt cc d 243 0 [some (.ref 121), some (.int x1)] [] s (.inl (some (.int o.1)), o.2) := by
  unfold dm243 at h
  obtain ⟨d, rfl⟩ : ∃ e, d = e + 1 := ⟨d - 1, by omega⟩
  refine Q.run zm243 3 (i' := 3) (ls' := [some (.ref 121), some (.int x1)]) (st' := [.int x1, .ref 121, .ref 121]) rfl ?_
  obtain ⟨r3, hc2, h⟩ := bu_so h
  have hq1 : Q 2 sio tt cc d 225 0 [some (.ref 121), some (.int x1)] [] s (.inl (some (.int r3)), s) := dt225 (by omega) hl  hc2
  refine Q.callI (gC_vi zm243 (show zM243.2.2.2.2.2[3]? = some (3, 3, .invokevirtual 310, [0, 225, 1, 9]) from rfl) zm225 (hl.lt (a := 121) (by decide)) (hl.T (a := 121) (p := (9, 45)) 43 rfl rfl) rfl (show aCr 1 121 [.int x1, .ref 121, .ref 121] 2 = some ([some (.ref 121), some (.int x1)], [.ref 121]) from rfl)) hq1 ?_
  by_cases hc4 : r3 = 0
  · rw [if_pos hc4] at h
    refine Q.map (A.zT (gI_of zm243 (e := (6, 3, .ifCond .eq 7, [7])) rfl) (decide_eq_true hc4)) ?_
    refine Q.run zm243 1 (i' := 8) (ls' := [some (.ref 121), some (.int x1)]) (st' := [.int 0, .ref 121]) rfl ?_
    exact dt243_8 hd hl  h
  · rw [if_neg hc4] at h
    refine Q.map (A.zF (gI_of zm243 (e := (6, 3, .ifCond .eq 7, [7])) rfl) (fun q => hc4 (of_decide_eq_true q))) ?_
    refine Q.run zm243 2 (i' := 8) (ls' := [some (.ref 121), some (.int x1)]) (st' := [.int 1, .ref 121]) rfl ?_
    exact dt243_8 hd hl  h
/-! 161 FormulaTrees$Tree.has(I)Z -/
set_option maxRecDepth 100000 in
theorem zm161 : zP[161]? = some zM161 := rfl
def dm161 (b0 : Nat) (x1 : Int32) (s : aS) : Option (Int32) :=
  if x1 < 0 then
    some 0
  else
    if (sI s b0 2) ≤ x1 then
      some 0
    else
      some 1
set_option maxRecDepth 100000 in
theorem dt161 {sio : Bool} {tt : Nat} {cc : Nat → Nat → Int32} {d : Nat} (hd : 0 ≤ d) {b0 : Nat} {x1 : Int32} {s : aS} (hl : Ly tt cc s) (hk_b0 : aK s b0 3) {o : Int32} (h : dm161  b0 x1 s = some o) : Q 1 sio tt cc d 161 0 [some (.ref b0), some (.int x1)] [] s (.inl (some (.int o)), s) := by
  unfold dm161 at h
  refine Q.run zm161 1 (i' := 1) (ls' := [some (.ref b0), some (.int x1)]) (st' := [.int x1]) rfl ?_
  by_cases hc1 : x1 < 0
  · rw [if_pos hc1] at h
    refine Q.map (A.zT (gI_of zm161 (e := (1, 3, .ifCond .lt 15, [8])) rfl) (decide_eq_true hc1)) ?_
    refine Q.run zm161 1 (i' := 9) (ls' := [some (.ref b0), some (.int x1)]) (st' := [.int 0]) rfl ?_
    cases h
    exact Q.ret (A.ri zm161 (show zM161.2.2.2.2.2[9]? = some (17, 1, .ireturn, []) from rfl) rfl rfl) hl
  · rw [if_neg hc1] at h
    refine Q.map (A.zF (gI_of zm161 (e := (1, 3, .ifCond .lt 15, [8])) rfl) (fun q => hc1 (of_decide_eq_true q))) ?_
    refine Q.run zm161 2 (i' := 4) (ls' := [some (.ref b0), some (.int x1)]) (st' := [.ref b0, .int x1]) rfl ?_
    refine Q.map (A.gf (gI_of zm161 (e := (6, 3, .getfield 24, [3, 2])) rfl) hk_b0.1 (hl.tr hk_b0).1 (by decide) rfl) ?_
    by_cases hc2 : (sI s b0 2) ≤ x1
    · rw [if_pos hc2] at h
      refine Q.map (A.bT (gI_of zm161 (e := (9, 3, .if_icmp .ge 7, [8])) rfl) (decide_eq_true hc2)) ?_
      refine Q.run zm161 1 (i' := 9) (ls' := [some (.ref b0), some (.int x1)]) (st' := [.int 0]) rfl ?_
      cases h
      exact Q.ret (A.ri zm161 (show zM161.2.2.2.2.2[9]? = some (17, 1, .ireturn, []) from rfl) rfl rfl) hl
    · rw [if_neg hc2] at h
      refine Q.map (A.bF (gI_of zm161 (e := (9, 3, .if_icmp .ge 7, [8])) rfl) (fun q => hc2 (of_decide_eq_true q))) ?_
      refine Q.run zm161 2 (i' := 9) (ls' := [some (.ref b0), some (.int x1)]) (st' := [.int 1]) rfl ?_
      cases h
      exact Q.ret (A.ri zm161 (show zM161.2.2.2.2.2[9]? = some (17, 1, .ireturn, []) from rfl) rfl rfl) hl
/-! 160 FormulaTrees.node(III)I -/
set_option maxRecDepth 100000 in
theorem zm160 : zP[160]? = some zM160 := rfl
def dm160_20 (s : aS) : Option (xZ × aS) :=
  some (.inr 0, nw s 80 0)
set_option maxRecDepth 100000 in
theorem dt160_20 {sio : Bool} {tt : Nat} {cc : Nat → Nat → Int32} {d : Nat} (hd : 9 ≤ d) {x1 : Int32} {x2 : Int32} {x3 : Int32} {b4 : Nat} {s : aS} (hl : Ly tt cc s) {o : xZ × aS} (h : dm160_20  s = some o) : Q 1 sio tt cc d 160 20 [some (.ref 78), some (.int x1), some (.int x2), some (.int x3), some (.ref b4)] [] s o := by
  unfold dm160_20 at h
  obtain ⟨d, rfl⟩ : ∃ e, d = e + 1 := ⟨d - 1, by omega⟩
  cases h
  exact Q.t zm160 (show zM160.2.2.2.2.2[20]? = some (41, 3, .new 58, [200]) from rfl) rfl rfl hl.gL (by omega) hl
def dm160_10 (s : aS) : Option (xZ × aS) :=
  some (.inr 2, nw s 82 0)
set_option maxRecDepth 100000 in
theorem dt160_10 {sio : Bool} {tt : Nat} {cc : Nat → Nat → Int32} {d : Nat} (hd : 9 ≤ d) {x1 : Int32} {x2 : Int32} {x3 : Int32} {g4 : Option Value} {s : aS} (hl : Ly tt cc s) {o : xZ × aS} (h : dm160_10  s = some o) : Q 1 sio tt cc d 160 10 [some (.ref 78), some (.int x1), some (.int x2), some (.int x3), g4] [] s o := by
  unfold dm160_10 at h
  obtain ⟨d, rfl⟩ : ∃ e, d = e + 1 := ⟨d - 1, by omega⟩
  cases h
  exact Q.t zm160 (show zM160.2.2.2.2.2[10]? = some (21, 3, .new 100, [202]) from rfl) rfl rfl hl.gL (by omega) hl
def dm160 (x1 : Int32) (x2 : Int32) (x3 : Int32) (s : aS) : Option (xZ × aS) :=
  bu (dm54 x1 s) fun r3 =>
  vN r3 (
    dm160_10 s
  ) fun b5 =>
    if aK s b5 3 then
      bu (dm161 b5 x2 s) fun r9 =>
      if r9 = 0 then
        dm160_10 s
      else
        if x3 < 0 then
          dm160_20 s
        else
          if x3 < 9 then
            bu (dm57 b5 x2 x3 s) fun r15 =>
            some (.inl (some (.int r15)), s)
          else
            dm160_20 s
    else none
set_option maxRecDepth 100000 in
theorem dt160 {sio : Bool} {tt : Nat} {cc : Nat → Nat → Int32} {d : Nat} (hd : 9 ≤ d) {x1 : Int32} {x2 : Int32} {x3 : Int32} {s : aS} (hl : Ly tt cc s) {o : xZ × aS} (h : dm160  x1 x2 x3 s = some o) : Q 1 sio tt cc d 160 0 [some (.ref 78), some (.int x1), some (.int x2), some (.int x3), none] [] s o := by
  unfold dm160 at h
  obtain ⟨d, rfl⟩ : ∃ e, d = e + 1 := ⟨d - 1, by omega⟩
  refine Q.run zm160 2 (i' := 2) (ls' := [some (.ref 78), some (.int x1), some (.int x2), some (.int x3), none]) (st' := [.int x1, .ref 78]) rfl ?_
  obtain ⟨r3, hc2, h⟩ := bu_so h
  have hq1 : Q 1 sio tt cc d 54 0 [some (.ref 78), some (.int x1)] [] s (.inl (some r3), s) := dt54 (by omega) hl  hc2
  rcases vN_so h with ⟨hv4, h9⟩ | ⟨b5, hv4, h9⟩
  · clear h
    subst hv4
    have h := h9
    refine Q.callR (gC_vi zm160 (show zM160.2.2.2.2.2[2]? = some (2, 3, .invokevirtual 114, [0, 54, 1, 0]) from rfl) zm54 (hl.lt (a := 78) (by decide)) (hl.T (a := 78) (p := (0, 7)) 0 rfl rfl) rfl (show aCr 1 78 [.int x1, .ref 78] 2 = some ([some (.ref 78), some (.int x1)], []) from rfl)) hq1 ?_
    refine Q.run zm160 3 (i' := 10) (ls' := [some (.ref 78), some (.int x1), some (.int x2), some (.int x3), some (.null)]) (st' := []) rfl ?_
    exact dt160_10 hd hl  h
  · clear h
    subst hv4
    have h := h9
    obtain ⟨hr6, h⟩ := ite_so h
    refine Q.callR (gC_vi zm160 (show zM160.2.2.2.2.2[2]? = some (2, 3, .invokevirtual 114, [0, 54, 1, 0]) from rfl) zm54 (hl.lt (a := 78) (by decide)) (hl.T (a := 78) (p := (0, 7)) 0 rfl rfl) rfl (show aCr 1 78 [.int x1, .ref 78] 2 = some ([some (.ref 78), some (.int x1)], []) from rfl)) hq1 ?_
    refine Q.run zm160 5 (i' := 8) (ls' := [some (.ref 78), some (.int x1), some (.int x2), some (.int x3), some (.ref b5)]) (st' := [.int x2, .ref b5]) rfl ?_
    obtain ⟨r9, hc8, h⟩ := bu_so h
    have hq7 : Q 1 sio tt cc d 161 0 [some (.ref b5), some (.int x2)] [] s (.inl (some (.int r9)), s) := dt161 (by omega) hl hr6 hc8
    refine Q.callI (gC_vi zm160 (show zM160.2.2.2.2.2[8]? = some (15, 3, .invokevirtual 166, [0, 161, 1, 3]) from rfl) zm161 hr6.1 (hl.tr hr6).1 rfl (show aCr 1 b5 [.int x2, .ref b5] 2 = some ([some (.ref b5), some (.int x2)], []) from rfl)) hq7 ?_
    by_cases hc10 : r9 = 0
    · rw [if_pos hc10] at h
      refine Q.map (A.zF (gI_of zm160 (e := (18, 3, .ifCond .ne 13, [15])) rfl) (fun q => of_decide_eq_true q hc10)) ?_
      exact dt160_10 hd hl  h
    · rw [if_neg hc10] at h
      refine Q.map (A.zT (gI_of zm160 (e := (18, 3, .ifCond .ne 13, [15])) rfl) (decide_eq_true hc10)) ?_
      refine Q.run zm160 1 (i' := 16) (ls' := [some (.ref 78), some (.int x1), some (.int x2), some (.int x3), some (.ref b5)]) (st' := [.int x3]) rfl ?_
      by_cases hc11 : x3 < 0
      · rw [if_pos hc11] at h
        refine Q.map (A.zT (gI_of zm160 (e := (32, 3, .ifCond .lt 9, [20])) rfl) (decide_eq_true hc11)) ?_
        exact dt160_20 hd hl  h
      · rw [if_neg hc11] at h
        refine Q.map (A.zF (gI_of zm160 (e := (32, 3, .ifCond .lt 9, [20])) rfl) (fun q => hc11 (of_decide_eq_true q))) ?_
        refine Q.run zm160 2 (i' := 19) (ls' := [some (.ref 78), some (.int x1), some (.int x2), some (.int x3), some (.ref b5)]) (st' := [.int 9, .int x3]) rfl ?_
        by_cases hc12 : x3 < 9
        · rw [if_pos hc12] at h
          refine Q.map (A.bT (gI_of zm160 (e := (38, 3, .if_icmp .lt 13, [25])) rfl) (decide_eq_true hc12)) ?_
          refine Q.run zm160 3 (i' := 28) (ls' := [some (.ref 78), some (.int x1), some (.int x2), some (.int x3), some (.ref b5)]) (st' := [.int x3, .int x2, .ref b5]) rfl ?_
          obtain ⟨r15, hc14, h⟩ := bu_so h
          have hq13 : Q 1 sio tt cc d 57 0 [some (.ref b5), some (.int x2), some (.int x3), none] [] s (.inl (some (.int r15)), s) := dt57 (by omega) hl hr6 hc14
          refine Q.callI (gC_vi zm160 (show zM160.2.2.2.2.2[28]? = some (55, 3, .invokevirtual 171, [0, 57, 2, 3]) from rfl) zm57 hr6.1 (hl.tr hr6).1 rfl (show aCr 2 b5 [.int x3, .int x2, .ref b5] 4 = some ([some (.ref b5), some (.int x2), some (.int x3), none], []) from rfl)) hq13 ?_
          cases h
          exact Q.ret (A.ri zm160 (show zM160.2.2.2.2.2[29]? = some (58, 1, .ireturn, []) from rfl) rfl rfl) hl
        · rw [if_neg hc12] at h
          refine Q.map (A.bF (gI_of zm160 (e := (38, 3, .if_icmp .lt 13, [25])) rfl) (fun q => hc12 (of_decide_eq_true q))) ?_
          exact dt160_20 hd hl  h
/-! 11 FormulaTreesLaw.node(LFormulaTrees;III[J)I -/
set_option maxRecDepth 100000 in
theorem zm11 : zP[11]? = some zM11 := rfl
def dm11 (x1 : Int32) (x2 : Int32) (x3 : Int32) (s : aS) : Option (Int32 × aS) :=
  bv (dm160 x1 x2 x3 s) fun z4 s3 =>
  zN z4 (fun v5 =>
    vI v5 fun r7 =>
    if aB 0 1 then
      nx (wJ s3 148 (jN 0) r7.toInt64) fun s10 =>
      some (0, s10)
    else none
  ) fun e6 =>
    if e6 = 2 then
      some (1, s3)
    else
      if e6 = 0 then
        some (2, s3)
      else
        none
set_option maxRecDepth 100000 in
theorem dt11 {sio : Bool} {tt : Nat} {cc : Nat → Nat → Int32} {d : Nat} (hd : 10 ≤ d) {x1 : Int32} {x2 : Int32} {x3 : Int32} {s : aS} (hl : Ly tt cc s) {o : Int32 × aS} (h : dm11  x1 x2 x3 s = some o) : Q 1 sio tt cc d 11 0 [some (.ref 78), some (.int x1), some (.int x2), some (.int x3), some (.ref 148), none] [] s (.inl (some (.int o.1)), o.2) := by
  unfold dm11 at h
  obtain ⟨d, rfl⟩ : ∃ e, d = e + 1 := ⟨d - 1, by omega⟩
  refine Q.run zm11 6 (i' := 6) (ls' := [some (.ref 78), some (.int x1), some (.int x2), some (.int x3), some (.ref 148), none]) (st' := [.int x3, .int x2, .int x1, .ref 78, .int 0, .ref 148]) rfl ?_
  obtain ⟨z4, s3, hc2, h⟩ := bv_so h
  have hq1 : Q 1 sio tt cc d 160 0 [some (.ref 78), some (.int x1), some (.int x2), some (.int x3), none] [] s (z4, s3) := dt160 (by omega) hl  hc2
  rcases zN_so h with ⟨v5, hz13, h8⟩ | ⟨e6, hz13, h8⟩
  · clear h
    subst hz13
    have h := h8
    obtain ⟨r7, hv8, h9⟩ := vI_so h
    clear h
    subst hv8
    have h := h9
    refine Q.callI (gC_vi zm11 (show zM11.2.2.2.2.2[6]? = some (7, 3, .invokevirtual 51, [0, 160, 3, 0]) from rfl) zm160 (hl.lt (a := 78) (by decide)) (hl.T (a := 78) (p := (0, 7)) 0 rfl rfl) rfl (show aCr 3 78 [.int x3, .int x2, .int x1, .ref 78, .int 0, .ref 148] 5 = some ([some (.ref 78), some (.int x1), some (.int x2), some (.int x3), none], [.int 0, .ref 148]) from rfl)) hq1 ?_
    refine Q.run zm11 1 (i' := 8) (ls' := [some (.ref 78), some (.int x1), some (.int x2), some (.int x3), some (.ref 148), none]) (st' := [.long r7.toInt64, .int 0, .ref 148]) rfl ?_
    obtain ⟨hc9, h⟩ := ite_so h
    obtain ⟨s10, hs11, h⟩ := nx_so h
    refine Q.lS hs11 rfl (gI_of zm11 (e := (11, 1, .lastore, [])) rfl) (hq1.1.lt (a := 148) (by decide)) (by decide) (hq1.1.T (a := 148) (p := (104, 1)) 70 rfl rfl) hc9 ?_
    have hl12 : Ly tt cc s10 := by rw [hs11]; exact hq1.1.wJd
    refine Q.run zm11 2 (i' := 17) (ls' := [some (.ref 78), some (.int x1), some (.int x2), some (.int x3), some (.ref 148), none]) (st' := [.int 0]) rfl ?_
    cases h
    exact Q.ret (A.ri zm11 (show zM11.2.2.2.2.2[17]? = some (24, 1, .ireturn, []) from rfl) rfl rfl) hl12
  · clear h
    subst hz13
    have h := h8
    by_cases hc14 : e6 = 2
    · rw [if_pos hc14] at h
      subst hc14
      refine Q.hc (gC_vi zm11 (show zM11.2.2.2.2.2[6]? = some (7, 3, .invokevirtual 51, [0, 160, 3, 0]) from rfl) zm160 (hl.lt (a := 78) (by decide)) (hl.T (a := 78) (p := (0, 7)) 0 rfl rfl) rfl (show aCr 3 78 [.int x3, .int x2, .int x1, .ref 78, .int 0, .ref 148] 5 = some ([some (.ref 78), some (.int x1), some (.int x2), some (.int x3), none], [.int 0, .ref 148]) from rfl)) hq1 (t := 10) rfl ?_
      refine Q.run zm11 2 (i' := 12) (ls' := [some (.ref 78), some (.int x1), some (.int x2), some (.int x3), some (.ref 148), some (.ref (sL s3 - 1))]) (st' := [.int 1]) rfl ?_
      cases h
      exact Q.ret (A.ri zm11 (show zM11.2.2.2.2.2[12]? = some (18, 1, .ireturn, []) from rfl) rfl rfl) hq1.1
    · rw [if_neg hc14] at h
      by_cases hc15 : e6 = 0
      · rw [if_pos hc15] at h
        subst hc15
        refine Q.hc (gC_vi zm11 (show zM11.2.2.2.2.2[6]? = some (7, 3, .invokevirtual 51, [0, 160, 3, 0]) from rfl) zm160 (hl.lt (a := 78) (by decide)) (hl.T (a := 78) (p := (0, 7)) 0 rfl rfl) rfl (show aCr 3 78 [.int x3, .int x2, .int x1, .ref 78, .int 0, .ref 148] 5 = some ([some (.ref 78), some (.int x1), some (.int x2), some (.int x3), none], [.int 0, .ref 148]) from rfl)) hq1 (t := 13) rfl ?_
        refine Q.run zm11 2 (i' := 15) (ls' := [some (.ref 78), some (.int x1), some (.int x2), some (.int x3), some (.ref 148), some (.ref (sL s3 - 1))]) (st' := [.int 2]) rfl ?_
        cases h
        exact Q.ret (A.ri zm11 (show zM11.2.2.2.2.2[15]? = some (22, 1, .ireturn, []) from rfl) rfl rfl) hq1.1
      · rw [if_neg hc15] at h
        cases h
/-! 245 FormulaTreesModel.told(II)I -/
set_option maxRecDepth 100000 in
theorem zm245 : zP[245]? = some zM245 := rfl
def dm245 (x1 : Int32) (x2 : Int32) (s : aS) : Option (Int32) :=
  if x2 = 0 then
    if aB x1 1152 then
      some (sI s 128 (jN x1))
    else none
  else
    if x2 = 1 then
      if aB x1 1152 then
        some (sI s 129 (jN x1))
      else none
    else
      if x2 = 2 then
        if aB x1 1152 then
          some (sI s 130 (jN x1))
        else none
      else
        if x2 = 3 then
          if aB x1 1152 then
            some (sI s 131 (jN x1))
          else none
        else
          if x2 = 4 then
            if aB x1 1152 then
              some (sI s 132 (jN x1))
            else none
          else
            if x2 = 5 then
              if aB x1 1152 then
                some (sI s 133 (jN x1))
              else none
            else
              if x2 = 6 then
                if aB x1 1152 then
                  some (sI s 134 (jN x1))
                else none
              else
                if x2 = 7 then
                  if aB x1 1152 then
                    some (sI s 135 (jN x1))
                  else none
                else
                  if aB x1 1152 then
                    some (sI s 136 (jN x1))
                  else none
set_option maxRecDepth 100000 in
theorem dt245 {sio : Bool} {tt : Nat} {cc : Nat → Nat → Int32} {d : Nat} (hd : 0 ≤ d) {x1 : Int32} {x2 : Int32} {s : aS} (hl : Ly tt cc s) {o : Int32} (h : dm245  x1 x2 s = some o) : Q 2 sio tt cc d 245 0 [some (.ref 121), some (.int x1), some (.int x2)] [] s (.inl (some (.int o)), s) := by
  unfold dm245 at h
  refine Q.run zm245 1 (i' := 1) (ls' := [some (.ref 121), some (.int x1), some (.int x2)]) (st' := [.int x2]) rfl ?_
  by_cases hc1 : x2 = 0
  · rw [if_pos hc1] at h
    refine Q.map (A.ts (gI_of zm245 (e := (1, 47, .tableswitch 103 0 7 #[47, 54, 61, 68, 75, 82, 89, 96], [42, 2, 7, 12, 17, 22, 27, 32, 37])) rfl) (t := 2) (by rw [hc1] <;> decide)) ?_
    refine Q.run zm245 1 (i' := 3) (ls' := [some (.ref 121), some (.int x1), some (.int x2)]) (st' := [.ref 121]) rfl ?_
    refine Q.map (A.gf (gI_of zm245 (e := (49, 3, .getfield 29, [9, 9])) rfl) (hl.lt (a := 121) (by decide)) (hl.T (a := 121) (p := (9, 45)) 43 rfl rfl) (by decide) (hl.R 29 rfl)) ?_
    refine Q.run zm245 1 (i' := 5) (ls' := [some (.ref 121), some (.int x1), some (.int x2)]) (st' := [.int x1, .ref 128]) rfl ?_
    obtain ⟨hc2, h⟩ := ite_so h
    refine Q.map (A.ia (gI_of zm245 (e := (53, 1, .iaload, [])) rfl) (hl.lt (a := 128) (by decide)) (hl.T (a := 128) (p := (100, 1152)) 50 rfl rfl) hc2) ?_
    cases h
    exact Q.ret (A.ri zm245 (show zM245.2.2.2.2.2[6]? = some (54, 1, .ireturn, []) from rfl) rfl rfl) hl
  · rw [if_neg hc1] at h
    by_cases hc3 : x2 = 1
    · rw [if_pos hc3] at h
      refine Q.map (A.ts (gI_of zm245 (e := (1, 47, .tableswitch 103 0 7 #[47, 54, 61, 68, 75, 82, 89, 96], [42, 2, 7, 12, 17, 22, 27, 32, 37])) rfl) (t := 7) (by rw [hc3] <;> decide)) ?_
      refine Q.run zm245 1 (i' := 8) (ls' := [some (.ref 121), some (.int x1), some (.int x2)]) (st' := [.ref 121]) rfl ?_
      refine Q.map (A.gf (gI_of zm245 (e := (56, 3, .getfield 32, [9, 10])) rfl) (hl.lt (a := 121) (by decide)) (hl.T (a := 121) (p := (9, 45)) 43 rfl rfl) (by decide) (hl.R 30 rfl)) ?_
      refine Q.run zm245 1 (i' := 10) (ls' := [some (.ref 121), some (.int x1), some (.int x2)]) (st' := [.int x1, .ref 129]) rfl ?_
      obtain ⟨hc4, h⟩ := ite_so h
      refine Q.map (A.ia (gI_of zm245 (e := (60, 1, .iaload, [])) rfl) (hl.lt (a := 129) (by decide)) (hl.T (a := 129) (p := (100, 1152)) 51 rfl rfl) hc4) ?_
      cases h
      exact Q.ret (A.ri zm245 (show zM245.2.2.2.2.2[11]? = some (61, 1, .ireturn, []) from rfl) rfl rfl) hl
    · rw [if_neg hc3] at h
      by_cases hc5 : x2 = 2
      · rw [if_pos hc5] at h
        refine Q.map (A.ts (gI_of zm245 (e := (1, 47, .tableswitch 103 0 7 #[47, 54, 61, 68, 75, 82, 89, 96], [42, 2, 7, 12, 17, 22, 27, 32, 37])) rfl) (t := 12) (by rw [hc5] <;> decide)) ?_
        refine Q.run zm245 1 (i' := 13) (ls' := [some (.ref 121), some (.int x1), some (.int x2)]) (st' := [.ref 121]) rfl ?_
        refine Q.map (A.gf (gI_of zm245 (e := (63, 3, .getfield 35, [9, 11])) rfl) (hl.lt (a := 121) (by decide)) (hl.T (a := 121) (p := (9, 45)) 43 rfl rfl) (by decide) (hl.R 31 rfl)) ?_
        refine Q.run zm245 1 (i' := 15) (ls' := [some (.ref 121), some (.int x1), some (.int x2)]) (st' := [.int x1, .ref 130]) rfl ?_
        obtain ⟨hc6, h⟩ := ite_so h
        refine Q.map (A.ia (gI_of zm245 (e := (67, 1, .iaload, [])) rfl) (hl.lt (a := 130) (by decide)) (hl.T (a := 130) (p := (100, 1152)) 52 rfl rfl) hc6) ?_
        cases h
        exact Q.ret (A.ri zm245 (show zM245.2.2.2.2.2[16]? = some (68, 1, .ireturn, []) from rfl) rfl rfl) hl
      · rw [if_neg hc5] at h
        by_cases hc7 : x2 = 3
        · rw [if_pos hc7] at h
          refine Q.map (A.ts (gI_of zm245 (e := (1, 47, .tableswitch 103 0 7 #[47, 54, 61, 68, 75, 82, 89, 96], [42, 2, 7, 12, 17, 22, 27, 32, 37])) rfl) (t := 17) (by rw [hc7] <;> decide)) ?_
          refine Q.run zm245 1 (i' := 18) (ls' := [some (.ref 121), some (.int x1), some (.int x2)]) (st' := [.ref 121]) rfl ?_
          refine Q.map (A.gf (gI_of zm245 (e := (70, 3, .getfield 38, [9, 12])) rfl) (hl.lt (a := 121) (by decide)) (hl.T (a := 121) (p := (9, 45)) 43 rfl rfl) (by decide) (hl.R 32 rfl)) ?_
          refine Q.run zm245 1 (i' := 20) (ls' := [some (.ref 121), some (.int x1), some (.int x2)]) (st' := [.int x1, .ref 131]) rfl ?_
          obtain ⟨hc8, h⟩ := ite_so h
          refine Q.map (A.ia (gI_of zm245 (e := (74, 1, .iaload, [])) rfl) (hl.lt (a := 131) (by decide)) (hl.T (a := 131) (p := (100, 1152)) 53 rfl rfl) hc8) ?_
          cases h
          exact Q.ret (A.ri zm245 (show zM245.2.2.2.2.2[21]? = some (75, 1, .ireturn, []) from rfl) rfl rfl) hl
        · rw [if_neg hc7] at h
          by_cases hc9 : x2 = 4
          · rw [if_pos hc9] at h
            refine Q.map (A.ts (gI_of zm245 (e := (1, 47, .tableswitch 103 0 7 #[47, 54, 61, 68, 75, 82, 89, 96], [42, 2, 7, 12, 17, 22, 27, 32, 37])) rfl) (t := 22) (by rw [hc9] <;> decide)) ?_
            refine Q.run zm245 1 (i' := 23) (ls' := [some (.ref 121), some (.int x1), some (.int x2)]) (st' := [.ref 121]) rfl ?_
            refine Q.map (A.gf (gI_of zm245 (e := (77, 3, .getfield 41, [9, 13])) rfl) (hl.lt (a := 121) (by decide)) (hl.T (a := 121) (p := (9, 45)) 43 rfl rfl) (by decide) (hl.R 33 rfl)) ?_
            refine Q.run zm245 1 (i' := 25) (ls' := [some (.ref 121), some (.int x1), some (.int x2)]) (st' := [.int x1, .ref 132]) rfl ?_
            obtain ⟨hc10, h⟩ := ite_so h
            refine Q.map (A.ia (gI_of zm245 (e := (81, 1, .iaload, [])) rfl) (hl.lt (a := 132) (by decide)) (hl.T (a := 132) (p := (100, 1152)) 54 rfl rfl) hc10) ?_
            cases h
            exact Q.ret (A.ri zm245 (show zM245.2.2.2.2.2[26]? = some (82, 1, .ireturn, []) from rfl) rfl rfl) hl
          · rw [if_neg hc9] at h
            by_cases hc11 : x2 = 5
            · rw [if_pos hc11] at h
              refine Q.map (A.ts (gI_of zm245 (e := (1, 47, .tableswitch 103 0 7 #[47, 54, 61, 68, 75, 82, 89, 96], [42, 2, 7, 12, 17, 22, 27, 32, 37])) rfl) (t := 27) (by rw [hc11] <;> decide)) ?_
              refine Q.run zm245 1 (i' := 28) (ls' := [some (.ref 121), some (.int x1), some (.int x2)]) (st' := [.ref 121]) rfl ?_
              refine Q.map (A.gf (gI_of zm245 (e := (84, 3, .getfield 44, [9, 14])) rfl) (hl.lt (a := 121) (by decide)) (hl.T (a := 121) (p := (9, 45)) 43 rfl rfl) (by decide) (hl.R 34 rfl)) ?_
              refine Q.run zm245 1 (i' := 30) (ls' := [some (.ref 121), some (.int x1), some (.int x2)]) (st' := [.int x1, .ref 133]) rfl ?_
              obtain ⟨hc12, h⟩ := ite_so h
              refine Q.map (A.ia (gI_of zm245 (e := (88, 1, .iaload, [])) rfl) (hl.lt (a := 133) (by decide)) (hl.T (a := 133) (p := (100, 1152)) 55 rfl rfl) hc12) ?_
              cases h
              exact Q.ret (A.ri zm245 (show zM245.2.2.2.2.2[31]? = some (89, 1, .ireturn, []) from rfl) rfl rfl) hl
            · rw [if_neg hc11] at h
              by_cases hc13 : x2 = 6
              · rw [if_pos hc13] at h
                refine Q.map (A.ts (gI_of zm245 (e := (1, 47, .tableswitch 103 0 7 #[47, 54, 61, 68, 75, 82, 89, 96], [42, 2, 7, 12, 17, 22, 27, 32, 37])) rfl) (t := 32) (by rw [hc13] <;> decide)) ?_
                refine Q.run zm245 1 (i' := 33) (ls' := [some (.ref 121), some (.int x1), some (.int x2)]) (st' := [.ref 121]) rfl ?_
                refine Q.map (A.gf (gI_of zm245 (e := (91, 3, .getfield 47, [9, 15])) rfl) (hl.lt (a := 121) (by decide)) (hl.T (a := 121) (p := (9, 45)) 43 rfl rfl) (by decide) (hl.R 35 rfl)) ?_
                refine Q.run zm245 1 (i' := 35) (ls' := [some (.ref 121), some (.int x1), some (.int x2)]) (st' := [.int x1, .ref 134]) rfl ?_
                obtain ⟨hc14, h⟩ := ite_so h
                refine Q.map (A.ia (gI_of zm245 (e := (95, 1, .iaload, [])) rfl) (hl.lt (a := 134) (by decide)) (hl.T (a := 134) (p := (100, 1152)) 56 rfl rfl) hc14) ?_
                cases h
                exact Q.ret (A.ri zm245 (show zM245.2.2.2.2.2[36]? = some (96, 1, .ireturn, []) from rfl) rfl rfl) hl
              · rw [if_neg hc13] at h
                by_cases hc15 : x2 = 7
                · rw [if_pos hc15] at h
                  refine Q.map (A.ts (gI_of zm245 (e := (1, 47, .tableswitch 103 0 7 #[47, 54, 61, 68, 75, 82, 89, 96], [42, 2, 7, 12, 17, 22, 27, 32, 37])) rfl) (t := 37) (by rw [hc15] <;> decide)) ?_
                  refine Q.run zm245 1 (i' := 38) (ls' := [some (.ref 121), some (.int x1), some (.int x2)]) (st' := [.ref 121]) rfl ?_
                  refine Q.map (A.gf (gI_of zm245 (e := (98, 3, .getfield 50, [9, 16])) rfl) (hl.lt (a := 121) (by decide)) (hl.T (a := 121) (p := (9, 45)) 43 rfl rfl) (by decide) (hl.R 36 rfl)) ?_
                  refine Q.run zm245 1 (i' := 40) (ls' := [some (.ref 121), some (.int x1), some (.int x2)]) (st' := [.int x1, .ref 135]) rfl ?_
                  obtain ⟨hc16, h⟩ := ite_so h
                  refine Q.map (A.ia (gI_of zm245 (e := (102, 1, .iaload, [])) rfl) (hl.lt (a := 135) (by decide)) (hl.T (a := 135) (p := (100, 1152)) 57 rfl rfl) hc16) ?_
                  cases h
                  exact Q.ret (A.ri zm245 (show zM245.2.2.2.2.2[41]? = some (103, 1, .ireturn, []) from rfl) rfl rfl) hl
                · rw [if_neg hc15] at h
                  refine Q.map (A.ts (gI_of zm245 (e := (1, 47, .tableswitch 103 0 7 #[47, 54, 61, 68, 75, 82, 89, 96], [42, 2, 7, 12, 17, 22, 27, 32, 37])) rfl) (t := 42) (by have := (show x2.toInt ≠ 0 ∧ x2.toInt ≠ 1 ∧ x2.toInt ≠ 2 ∧ x2.toInt ≠ 3 ∧ x2.toInt ≠ 4 ∧ x2.toInt ≠ 5 ∧ x2.toInt ≠ 6 ∧ x2.toInt ≠ 7 from ⟨i32_ne (n := 0) hc1 (by decide), i32_ne (n := 1) hc3 (by decide), i32_ne (n := 2) hc5 (by decide), i32_ne (n := 3) hc7 (by decide), i32_ne (n := 4) hc9 (by decide), i32_ne (n := 5) hc11 (by decide), i32_ne (n := 6) hc13 (by decide), i32_ne (n := 7) hc15 (by decide)⟩); rw [if_pos]; omega)) ?_
                  refine Q.run zm245 1 (i' := 43) (ls' := [some (.ref 121), some (.int x1), some (.int x2)]) (st' := [.ref 121]) rfl ?_
                  refine Q.map (A.gf (gI_of zm245 (e := (105, 3, .getfield 53, [9, 17])) rfl) (hl.lt (a := 121) (by decide)) (hl.T (a := 121) (p := (9, 45)) 43 rfl rfl) (by decide) (hl.R 37 rfl)) ?_
                  refine Q.run zm245 1 (i' := 45) (ls' := [some (.ref 121), some (.int x1), some (.int x2)]) (st' := [.int x1, .ref 136]) rfl ?_
                  obtain ⟨hc17, h⟩ := ite_so h
                  refine Q.map (A.ia (gI_of zm245 (e := (109, 1, .iaload, [])) rfl) (hl.lt (a := 136) (by decide)) (hl.T (a := 136) (p := (100, 1152)) 58 rfl rfl) hc17) ?_
                  cases h
                  exact Q.ret (A.ri zm245 (show zM245.2.2.2.2.2[46]? = some (110, 1, .ireturn, []) from rfl) rfl rfl) hl
/-! 244 FormulaTreesModel.node(III)I -/
set_option maxRecDepth 100000 in
theorem zm244 : zP[244]? = some zM244 := rfl
def dm244_23 (x1 : Int32) (x2 : Int32) (x3 : Int32) (y1 : Int32) (s : aS) : Option (Int32 × aS) :=
  nx (wI s 121 0 y1) fun s1 =>
  if (sI s1 121 0) ≤ 0 then
    bu (dm245 ((128 * x1) + x2) x3 s1) fun r7 =>
    some (r7, s1)
  else
    some (0, s1)
set_option maxRecDepth 100000 in
theorem dt244_23 {sio : Bool} {tt : Nat} {cc : Nat → Nat → Int32} {d : Nat} (hd : 1 ≤ d) {x1 : Int32} {x2 : Int32} {x3 : Int32} {y1 : Int32} {s : aS} (hl : Ly tt cc s) {o : Int32 × aS} (h : dm244_23  x1 x2 x3 y1 s = some o) : Q 2 sio tt cc d 244 23 [some (.ref 121), some (.int x1), some (.int x2), some (.int x3)] [.int y1, .ref 121] s (.inl (some (.int o.1)), o.2) := by
  unfold dm244_23 at h
  obtain ⟨d, rfl⟩ : ∃ e, d = e + 1 := ⟨d - 1, by omega⟩
  obtain ⟨s1, hs2, h⟩ := nx_so h
  refine Q.pf hs2 rfl (gI_of zm244 (e := (42, 3, .putfield 89, [9, 0, 0])) rfl) (hl.lt (a := 121) (by decide)) (by decide) (hl.T (a := 121) (p := (9, 45)) 43 rfl rfl) (by decide) rfl rfl ?_
  have hl3 : Ly tt cc s1 := by rw [hs2]; exact hl.wId (by decide)
  refine Q.run zm244 1 (i' := 25) (ls' := [some (.ref 121), some (.int x1), some (.int x2), some (.int x3)]) (st' := [.ref 121]) rfl ?_
  refine Q.map (A.gf (gI_of zm244 (e := (46, 3, .getfield 89, [9, 0])) rfl) (hl3.lt (a := 121) (by decide)) (hl3.T (a := 121) (p := (9, 45)) 43 rfl rfl) (by decide) rfl) ?_
  by_cases hc4 : (sI s1 121 0) ≤ 0
  · rw [if_pos hc4] at h
    refine Q.map (A.zT (gI_of zm244 (e := (49, 3, .ifCond .le 7, [29])) rfl) (decide_eq_true hc4)) ?_
    refine Q.run zm244 7 (i' := 36) (ls' := [some (.ref 121), some (.int x1), some (.int x2), some (.int x3)]) (st' := [.int x3, .int ((128 * x1) + x2), .ref 121]) rfl ?_
    obtain ⟨r7, hc6, h⟩ := bu_so h
    have hq5 : Q 2 sio tt cc d 245 0 [some (.ref 121), some (.int ((128 * x1) + x2)), some (.int x3)] [] s1 (.inl (some (.int r7)), s1) := dt245 (by omega) hl3  hc6
    refine Q.callI (gC_vi zm244 (show zM244.2.2.2.2.2[36]? = some (65, 3, .invokevirtual 368, [0, 245, 2, 9]) from rfl) zm245 (hl3.lt (a := 121) (by decide)) (hl3.T (a := 121) (p := (9, 45)) 43 rfl rfl) rfl (show aCr 2 121 [.int x3, .int ((128 * x1) + x2), .ref 121] 3 = some ([some (.ref 121), some (.int ((128 * x1) + x2)), some (.int x3)], []) from rfl)) hq5 ?_
    cases h
    exact Q.ret (A.ri zm244 (show zM244.2.2.2.2.2[37]? = some (68, 1, .ireturn, []) from rfl) rfl rfl) hl3
  · rw [if_neg hc4] at h
    refine Q.map (A.zF (gI_of zm244 (e := (49, 3, .ifCond .le 7, [29])) rfl) (fun q => hc4 (of_decide_eq_true q))) ?_
    refine Q.run zm244 2 (i' := 37) (ls' := [some (.ref 121), some (.int x1), some (.int x2), some (.int x3)]) (st' := [.int 0]) rfl ?_
    cases h
    exact Q.ret (A.ri zm244 (show zM244.2.2.2.2.2[37]? = some (68, 1, .ireturn, []) from rfl) rfl rfl) hl3
def dm244_20 (x1 : Int32) (x2 : Int32) (x3 : Int32) (s : aS) : Option (Int32 × aS) :=
  dm244_23 x1 x2 x3 2 s
set_option maxRecDepth 100000 in
theorem dt244_20 {sio : Bool} {tt : Nat} {cc : Nat → Nat → Int32} {d : Nat} (hd : 1 ≤ d) {x1 : Int32} {x2 : Int32} {x3 : Int32} {s : aS} (hl : Ly tt cc s) {o : Int32 × aS} (h : dm244_20  x1 x2 x3 s = some o) : Q 2 sio tt cc d 244 20 [some (.ref 121), some (.int x1), some (.int x2), some (.int x3)] [.ref 121] s (.inl (some (.int o.1)), o.2) := by
  unfold dm244_20 at h
  obtain ⟨d, rfl⟩ : ∃ e, d = e + 1 := ⟨d - 1, by omega⟩
  refine Q.run zm244 2 (i' := 23) (ls' := [some (.ref 121), some (.int x1), some (.int x2), some (.int x3)]) (st' := [.int 2, .ref 121]) rfl ?_
  exact dt244_23 hd hl  h
def dm244_13 (x1 : Int32) (x2 : Int32) (x3 : Int32) (s : aS) : Option (Int32 × aS) :=
  dm244_23 x1 x2 x3 1 s
set_option maxRecDepth 100000 in
theorem dt244_13 {sio : Bool} {tt : Nat} {cc : Nat → Nat → Int32} {d : Nat} (hd : 1 ≤ d) {x1 : Int32} {x2 : Int32} {x3 : Int32} {s : aS} (hl : Ly tt cc s) {o : Int32 × aS} (h : dm244_13  x1 x2 x3 s = some o) : Q 2 sio tt cc d 244 13 [some (.ref 121), some (.int x1), some (.int x2), some (.int x3)] [.ref 121] s (.inl (some (.int o.1)), o.2) := by
  unfold dm244_13 at h
  obtain ⟨d, rfl⟩ : ∃ e, d = e + 1 := ⟨d - 1, by omega⟩
  refine Q.run zm244 2 (i' := 23) (ls' := [some (.ref 121), some (.int x1), some (.int x2), some (.int x3)]) (st' := [.int 1, .ref 121]) rfl ?_
  exact dt244_23 hd hl  h
def dm244 (x1 : Int32) (x2 : Int32) (x3 : Int32) (s : aS) : Option (Int32 × aS) :=
  bu (dm225 x1 s) fun r3 =>
  if r3 = 0 then
    if x2 < 0 then
      dm244_13 x1 x2 x3 s
    else
      if aB x1 9 then
        if x2 < (sI s 127 (jN x1)) then
          if x3 < 0 then
            dm244_20 x1 x2 x3 s
          else
            if x3 ≤ 8 then
              dm244_23 x1 x2 x3 0 s
            else
              dm244_20 x1 x2 x3 s
        else
          dm244_13 x1 x2 x3 s
      else none
  else
    dm244_13 x1 x2 x3 s
set_option maxRecDepth 100000 in
theorem dt244 {sio : Bool} {tt : Nat} {cc : Nat → Nat → Int32} {d : Nat} (hd : 1 ≤ d) {x1 : Int32} {x2 : Int32} {x3 : Int32} {s : aS} (hl : Ly tt cc s) {o : Int32 × aS} (h : dm244  x1 x2 x3 s = some o) : Q 2 sio tt cc d 244 0 [some (.ref 121), some (.int x1), some (.int x2), some (.int x3)] [] s (.inl (some (.int o.1)), o.2) := by
  unfold dm244 at h
  obtain ⟨d, rfl⟩ : ∃ e, d = e + 1 := ⟨d - 1, by omega⟩
  refine Q.run zm244 3 (i' := 3) (ls' := [some (.ref 121), some (.int x1), some (.int x2), some (.int x3)]) (st' := [.int x1, .ref 121, .ref 121]) rfl ?_
  obtain ⟨r3, hc2, h⟩ := bu_so h
  have hq1 : Q 2 sio tt cc d 225 0 [some (.ref 121), some (.int x1)] [] s (.inl (some (.int r3)), s) := dt225 (by omega) hl  hc2
  refine Q.callI (gC_vi zm244 (show zM244.2.2.2.2.2[3]? = some (3, 3, .invokevirtual 310, [0, 225, 1, 9]) from rfl) zm225 (hl.lt (a := 121) (by decide)) (hl.T (a := 121) (p := (9, 45)) 43 rfl rfl) rfl (show aCr 1 121 [.int x1, .ref 121, .ref 121] 2 = some ([some (.ref 121), some (.int x1)], [.ref 121]) from rfl)) hq1 ?_
  by_cases hc4 : r3 = 0
  · rw [if_pos hc4] at h
    refine Q.map (A.zF (gI_of zm244 (e := (6, 3, .ifCond .ne 17, [13])) rfl) (fun q => of_decide_eq_true q hc4)) ?_
    refine Q.run zm244 1 (i' := 6) (ls' := [some (.ref 121), some (.int x1), some (.int x2), some (.int x3)]) (st' := [.int x2, .ref 121]) rfl ?_
    by_cases hc5 : x2 < 0
    · rw [if_pos hc5] at h
      refine Q.map (A.zT (gI_of zm244 (e := (10, 3, .ifCond .lt 13, [13])) rfl) (decide_eq_true hc5)) ?_
      exact dt244_13 hd hl  h
    · rw [if_neg hc5] at h
      refine Q.map (A.zF (gI_of zm244 (e := (10, 3, .ifCond .lt 13, [13])) rfl) (fun q => hc5 (of_decide_eq_true q))) ?_
      refine Q.run zm244 2 (i' := 9) (ls' := [some (.ref 121), some (.int x1), some (.int x2), some (.int x3)]) (st' := [.ref 121, .int x2, .ref 121]) rfl ?_
      refine Q.map (A.gf (gI_of zm244 (e := (15, 3, .getfield 26, [9, 8])) rfl) (hl.lt (a := 121) (by decide)) (hl.T (a := 121) (p := (9, 45)) 43 rfl rfl) (by decide) (hl.R 28 rfl)) ?_
      refine Q.run zm244 1 (i' := 11) (ls' := [some (.ref 121), some (.int x1), some (.int x2), some (.int x3)]) (st' := [.int x1, .ref 127, .int x2, .ref 121]) rfl ?_
      obtain ⟨hc6, h⟩ := ite_so h
      refine Q.map (A.ia (gI_of zm244 (e := (19, 1, .iaload, [])) rfl) (hl.lt (a := 127) (by decide)) (hl.T (a := 127) (p := (100, 9)) 49 rfl rfl) hc6) ?_
      by_cases hc7 : x2 < (sI s 127 (jN x1))
      · rw [if_pos hc7] at h
        refine Q.map (A.bT (gI_of zm244 (e := (20, 3, .if_icmp .lt 7, [15])) rfl) (decide_eq_true hc7)) ?_
        refine Q.run zm244 1 (i' := 16) (ls' := [some (.ref 121), some (.int x1), some (.int x2), some (.int x3)]) (st' := [.int x3, .ref 121]) rfl ?_
        by_cases hc8 : x3 < 0
        · rw [if_pos hc8] at h
          refine Q.map (A.zT (gI_of zm244 (e := (28, 3, .ifCond .lt 9, [20])) rfl) (decide_eq_true hc8)) ?_
          exact dt244_20 hd hl  h
        · rw [if_neg hc8] at h
          refine Q.map (A.zF (gI_of zm244 (e := (28, 3, .ifCond .lt 9, [20])) rfl) (fun q => hc8 (of_decide_eq_true q))) ?_
          refine Q.run zm244 2 (i' := 19) (ls' := [some (.ref 121), some (.int x1), some (.int x2), some (.int x3)]) (st' := [.int 8, .int x3, .ref 121]) rfl ?_
          by_cases hc9 : x3 ≤ 8
          · rw [if_pos hc9] at h
            refine Q.map (A.bT (gI_of zm244 (e := (34, 3, .if_icmp .le 7, [22])) rfl) (decide_eq_true hc9)) ?_
            refine Q.run zm244 1 (i' := 23) (ls' := [some (.ref 121), some (.int x1), some (.int x2), some (.int x3)]) (st' := [.int 0, .ref 121]) rfl ?_
            exact dt244_23 hd hl  h
          · rw [if_neg hc9] at h
            refine Q.map (A.bF (gI_of zm244 (e := (34, 3, .if_icmp .le 7, [22])) rfl) (fun q => hc9 (of_decide_eq_true q))) ?_
            exact dt244_20 hd hl  h
      · rw [if_neg hc7] at h
        refine Q.map (A.bF (gI_of zm244 (e := (20, 3, .if_icmp .lt 7, [15])) rfl) (fun q => hc7 (of_decide_eq_true q))) ?_
        exact dt244_13 hd hl  h
  · rw [if_neg hc4] at h
    refine Q.map (A.zT (gI_of zm244 (e := (6, 3, .ifCond .ne 17, [13])) rfl) (decide_eq_true hc4)) ?_
    exact dt244_13 hd hl  h
/-! 162 FormulaTrees.letter(III)I -/
set_option maxRecDepth 100000 in
theorem zm162 : zP[162]? = some zM162 := rfl
def dm162_10 (s : aS) : Option (xZ × aS) :=
  some (.inr 2, nw s 82 0)
set_option maxRecDepth 100000 in
theorem dt162_10 {sio : Bool} {tt : Nat} {cc : Nat → Nat → Int32} {d : Nat} (hd : 9 ≤ d) {x1 : Int32} {x2 : Int32} {x3 : Int32} {g4 : Option Value} {s : aS} (hl : Ly tt cc s) {o : xZ × aS} (h : dm162_10  s = some o) : Q 1 sio tt cc d 162 10 [some (.ref 78), some (.int x1), some (.int x2), some (.int x3), g4] [] s o := by
  unfold dm162_10 at h
  obtain ⟨d, rfl⟩ : ∃ e, d = e + 1 := ⟨d - 1, by omega⟩
  cases h
  exact Q.t zm162 (show zM162.2.2.2.2.2[10]? = some (21, 3, .new 100, [202]) from rfl) rfl rfl hl.gL (by omega) hl
def dm162 (x1 : Int32) (x2 : Int32) (x3 : Int32) (s : aS) : Option (xZ × aS) :=
  bu (dm54 x1 s) fun r3 =>
  vN r3 (
    dm162_10 s
  ) fun b5 =>
    if aK s b5 3 then
      bu (dm161 b5 x2 s) fun r9 =>
      if r9 = 0 then
        dm162_10 s
      else
        bu (dm144 b5 x2 x3 s) fun r13 =>
        some (.inl (some (.int r13)), s)
    else none
set_option maxRecDepth 100000 in
theorem dt162 {sio : Bool} {tt : Nat} {cc : Nat → Nat → Int32} {d : Nat} (hd : 9 ≤ d) {x1 : Int32} {x2 : Int32} {x3 : Int32} {s : aS} (hl : Ly tt cc s) {o : xZ × aS} (h : dm162  x1 x2 x3 s = some o) : Q 1 sio tt cc d 162 0 [some (.ref 78), some (.int x1), some (.int x2), some (.int x3), none] [] s o := by
  unfold dm162 at h
  obtain ⟨d, rfl⟩ : ∃ e, d = e + 1 := ⟨d - 1, by omega⟩
  refine Q.run zm162 2 (i' := 2) (ls' := [some (.ref 78), some (.int x1), some (.int x2), some (.int x3), none]) (st' := [.int x1, .ref 78]) rfl ?_
  obtain ⟨r3, hc2, h⟩ := bu_so h
  have hq1 : Q 1 sio tt cc d 54 0 [some (.ref 78), some (.int x1)] [] s (.inl (some r3), s) := dt54 (by omega) hl  hc2
  rcases vN_so h with ⟨hv4, h9⟩ | ⟨b5, hv4, h9⟩
  · clear h
    subst hv4
    have h := h9
    refine Q.callR (gC_vi zm162 (show zM162.2.2.2.2.2[2]? = some (2, 3, .invokevirtual 114, [0, 54, 1, 0]) from rfl) zm54 (hl.lt (a := 78) (by decide)) (hl.T (a := 78) (p := (0, 7)) 0 rfl rfl) rfl (show aCr 1 78 [.int x1, .ref 78] 2 = some ([some (.ref 78), some (.int x1)], []) from rfl)) hq1 ?_
    refine Q.run zm162 3 (i' := 10) (ls' := [some (.ref 78), some (.int x1), some (.int x2), some (.int x3), some (.null)]) (st' := []) rfl ?_
    exact dt162_10 hd hl  h
  · clear h
    subst hv4
    have h := h9
    obtain ⟨hr6, h⟩ := ite_so h
    refine Q.callR (gC_vi zm162 (show zM162.2.2.2.2.2[2]? = some (2, 3, .invokevirtual 114, [0, 54, 1, 0]) from rfl) zm54 (hl.lt (a := 78) (by decide)) (hl.T (a := 78) (p := (0, 7)) 0 rfl rfl) rfl (show aCr 1 78 [.int x1, .ref 78] 2 = some ([some (.ref 78), some (.int x1)], []) from rfl)) hq1 ?_
    refine Q.run zm162 5 (i' := 8) (ls' := [some (.ref 78), some (.int x1), some (.int x2), some (.int x3), some (.ref b5)]) (st' := [.int x2, .ref b5]) rfl ?_
    obtain ⟨r9, hc8, h⟩ := bu_so h
    have hq7 : Q 1 sio tt cc d 161 0 [some (.ref b5), some (.int x2)] [] s (.inl (some (.int r9)), s) := dt161 (by omega) hl hr6 hc8
    refine Q.callI (gC_vi zm162 (show zM162.2.2.2.2.2[8]? = some (15, 3, .invokevirtual 166, [0, 161, 1, 3]) from rfl) zm161 hr6.1 (hl.tr hr6).1 rfl (show aCr 1 b5 [.int x2, .ref b5] 2 = some ([some (.ref b5), some (.int x2)], []) from rfl)) hq7 ?_
    by_cases hc10 : r9 = 0
    · rw [if_pos hc10] at h
      refine Q.map (A.zF (gI_of zm162 (e := (18, 3, .ifCond .ne 13, [15])) rfl) (fun q => of_decide_eq_true q hc10)) ?_
      exact dt162_10 hd hl  h
    · rw [if_neg hc10] at h
      refine Q.map (A.zT (gI_of zm162 (e := (18, 3, .ifCond .ne 13, [15])) rfl) (decide_eq_true hc10)) ?_
      refine Q.run zm162 3 (i' := 18) (ls' := [some (.ref 78), some (.int x1), some (.int x2), some (.int x3), some (.ref b5)]) (st' := [.int x3, .int x2, .ref b5]) rfl ?_
      obtain ⟨r13, hc12, h⟩ := bu_so h
      have hq11 : Q 1 sio tt cc d 144 0 [some (.ref b5), some (.int x2), some (.int x3), none] [] s (.inl (some (.int r13)), s) := dt144 (by omega) hl hr6 hc12
      refine Q.callI (gC_vi zm162 (show zM162.2.2.2.2.2[18]? = some (35, 3, .invokevirtual 174, [0, 144, 2, 3]) from rfl) zm144 hr6.1 (hl.tr hr6).1 rfl (show aCr 2 b5 [.int x3, .int x2, .ref b5] 4 = some ([some (.ref b5), some (.int x2), some (.int x3), none], []) from rfl)) hq11 ?_
      cases h
      exact Q.ret (A.ri zm162 (show zM162.2.2.2.2.2[19]? = some (38, 1, .ireturn, []) from rfl) rfl rfl) hl
/-! 12 FormulaTreesLaw.letter(LFormulaTrees;III[J)I -/
set_option maxRecDepth 100000 in
theorem zm12 : zP[12]? = some zM12 := rfl
def dm12 (x1 : Int32) (x2 : Int32) (x3 : Int32) (s : aS) : Option (Int32 × aS) :=
  bv (dm162 x1 x2 x3 s) fun z4 s3 =>
  zN z4 (fun v5 =>
    vI v5 fun r7 =>
    if aB 0 1 then
      nx (wJ s3 148 (jN 0) r7.toInt64) fun s10 =>
      some (0, s10)
    else none
  ) fun e6 =>
    if e6 = 2 then
      some (1, s3)
    else
      none
set_option maxRecDepth 100000 in
theorem dt12 {sio : Bool} {tt : Nat} {cc : Nat → Nat → Int32} {d : Nat} (hd : 10 ≤ d) {x1 : Int32} {x2 : Int32} {x3 : Int32} {s : aS} (hl : Ly tt cc s) {o : Int32 × aS} (h : dm12  x1 x2 x3 s = some o) : Q 1 sio tt cc d 12 0 [some (.ref 78), some (.int x1), some (.int x2), some (.int x3), some (.ref 148), none] [] s (.inl (some (.int o.1)), o.2) := by
  unfold dm12 at h
  obtain ⟨d, rfl⟩ : ∃ e, d = e + 1 := ⟨d - 1, by omega⟩
  refine Q.run zm12 6 (i' := 6) (ls' := [some (.ref 78), some (.int x1), some (.int x2), some (.int x3), some (.ref 148), none]) (st' := [.int x3, .int x2, .int x1, .ref 78, .int 0, .ref 148]) rfl ?_
  obtain ⟨z4, s3, hc2, h⟩ := bv_so h
  have hq1 : Q 1 sio tt cc d 162 0 [some (.ref 78), some (.int x1), some (.int x2), some (.int x3), none] [] s (z4, s3) := dt162 (by omega) hl  hc2
  rcases zN_so h with ⟨v5, hz13, h8⟩ | ⟨e6, hz13, h8⟩
  · clear h
    subst hz13
    have h := h8
    obtain ⟨r7, hv8, h9⟩ := vI_so h
    clear h
    subst hv8
    have h := h9
    refine Q.callI (gC_vi zm12 (show zM12.2.2.2.2.2[6]? = some (7, 3, .invokevirtual 55, [0, 162, 3, 0]) from rfl) zm162 (hl.lt (a := 78) (by decide)) (hl.T (a := 78) (p := (0, 7)) 0 rfl rfl) rfl (show aCr 3 78 [.int x3, .int x2, .int x1, .ref 78, .int 0, .ref 148] 5 = some ([some (.ref 78), some (.int x1), some (.int x2), some (.int x3), none], [.int 0, .ref 148]) from rfl)) hq1 ?_
    refine Q.run zm12 1 (i' := 8) (ls' := [some (.ref 78), some (.int x1), some (.int x2), some (.int x3), some (.ref 148), none]) (st' := [.long r7.toInt64, .int 0, .ref 148]) rfl ?_
    obtain ⟨hc9, h⟩ := ite_so h
    obtain ⟨s10, hs11, h⟩ := nx_so h
    refine Q.lS hs11 rfl (gI_of zm12 (e := (11, 1, .lastore, [])) rfl) (hq1.1.lt (a := 148) (by decide)) (by decide) (hq1.1.T (a := 148) (p := (104, 1)) 70 rfl rfl) hc9 ?_
    have hl12 : Ly tt cc s10 := by rw [hs11]; exact hq1.1.wJd
    refine Q.run zm12 2 (i' := 14) (ls' := [some (.ref 78), some (.int x1), some (.int x2), some (.int x3), some (.ref 148), none]) (st' := [.int 0]) rfl ?_
    cases h
    exact Q.ret (A.ri zm12 (show zM12.2.2.2.2.2[14]? = some (20, 1, .ireturn, []) from rfl) rfl rfl) hl12
  · clear h
    subst hz13
    have h := h8
    by_cases hc14 : e6 = 2
    · rw [if_pos hc14] at h
      subst hc14
      refine Q.hc (gC_vi zm12 (show zM12.2.2.2.2.2[6]? = some (7, 3, .invokevirtual 55, [0, 162, 3, 0]) from rfl) zm162 (hl.lt (a := 78) (by decide)) (hl.T (a := 78) (p := (0, 7)) 0 rfl rfl) rfl (show aCr 3 78 [.int x3, .int x2, .int x1, .ref 78, .int 0, .ref 148] 5 = some ([some (.ref 78), some (.int x1), some (.int x2), some (.int x3), none], [.int 0, .ref 148]) from rfl)) hq1 (t := 10) rfl ?_
      refine Q.run zm12 2 (i' := 12) (ls' := [some (.ref 78), some (.int x1), some (.int x2), some (.int x3), some (.ref 148), some (.ref (sL s3 - 1))]) (st' := [.int 1]) rfl ?_
      cases h
      exact Q.ret (A.ri zm12 (show zM12.2.2.2.2.2[12]? = some (18, 1, .ireturn, []) from rfl) rfl rfl) hq1.1
    · rw [if_neg hc14] at h
      cases h
/-! 247 FormulaTreesModel.letterOf(III)I -/
set_option maxRecDepth 100000 in
theorem zm247 : zP[247]? = some zM247 := rfl
def dm247_83 (k51 : Int32 → Int32 → Int32 → Int32 → Int32 → aS → Option (Int32)) (x2 : Int32) (x3 : Int32) (x5 : Int32) (x6 : Int32) (y0 : Int32) (s : aS) : Option (Int32) :=
  k51 x2 x3 x5 x6 (y0 + 1) s
set_option maxRecDepth 100000 in
theorem dt247_83 {sio : Bool} {tt : Nat} {cc : Nat → Nat → Int32} {d : Nat} (hd : 0 ≤ d) {k51 : Int32 → Int32 → Int32 → Int32 → Int32 → aS → Option (Int32)} (hk51 : ∀ {x2 : Int32} {x3 : Int32} {x5 : Int32} {x6 : Int32} {x7 : Int32} {x1 : Int32} {x4 : Int32} {s : aS}, Ly tt cc s → ∀ {o : Int32}, k51 x2 x3 x5 x6 x7 s = some o → Q 2 sio tt cc d 247 51 [some (.ref 121), some (.int x1), some (.int x2), some (.int x3), some (.int x4), some (.int x5), some (.int x6), some (.int x7)] [] s (.inl (some (.int o)), s)) {x2 : Int32} {x3 : Int32} {x5 : Int32} {x6 : Int32} {y0 : Int32} {x1 : Int32} {x4 : Int32} {x7 : Int32} {s : aS} (hl : Ly tt cc s) {o : Int32} (h : dm247_83 k51 x2 x3 x5 x6 y0 s = some o) : Q 2 sio tt cc d 247 83 [some (.ref 121), some (.int x1), some (.int x2), some (.int x3), some (.int x4), some (.int x5), some (.int x6), some (.int x7)] [.int y0] s (.inl (some (.int o)), s) := by
  unfold dm247_83 at h
  refine Q.run zm247 3 (i' := 51) (ls' := [some (.ref 121), some (.int x1), some (.int x2), some (.int x3), some (.int x4), some (.int x5), some (.int x6), some (.int (y0 + 1))]) (st' := []) rfl ?_
  exact hk51 hl  h
def dm247_51 : Nat → Int32 → Int32 → Int32 → Int32 → Int32 → aS → Option (Int32)
  | 0, _, _, _, _, _, _ => none
  | n + 1, x2, x3, x5, x6, x7, s =>
    if aB x2 1152 then
      if ((sI s 138 (jN x2)) - 1) ≤ x7 then
        some (-1)
      else
        if x6 = x3 then
          if aB (x5 + x7) 2304 then
            some (sI s 139 (jN (x5 + x7)))
          else none
        else
          if aB (x5 + x7) 2304 then
            if (sI s 139 (jN (x5 + x7))) = 34 then
              dm247_83 (dm247_51 n) x2 x3 x5 (x6 + 1) (x7 + 1) s
            else
              dm247_83 (dm247_51 n) x2 x3 x5 (x6 + 1) x7 s
          else none
    else none
set_option maxRecDepth 100000 in
theorem dt247_51 {sio : Bool} {tt : Nat} {cc : Nat → Nat → Int32} {d : Nat} (hd : 0 ≤ d) : ∀ (n : Nat) {x2 : Int32} {x3 : Int32} {x5 : Int32} {x6 : Int32} {x7 : Int32} {x1 : Int32} {x4 : Int32} {s : aS} (_ : Ly tt cc s) {o : Int32} (_ : dm247_51  n x2 x3 x5 x6 x7 s = some o), Q 2 sio tt cc d 247 51 [some (.ref 121), some (.int x1), some (.int x2), some (.int x3), some (.int x4), some (.int x5), some (.int x6), some (.int x7)] [] s (.inl (some (.int o)), s) := by
  intro n
  induction n with
  | zero => intro x2 x3 x5 x6 x7 x1 x4 s hl o h; rw [dm247_51] at h; cases h
  | succ n ih =>
    intro x2 x3 x5 x6 x7 x1 x4 s hl o h
    rw [dm247_51] at h
    refine Q.run zm247 2 (i' := 53) (ls' := [some (.ref 121), some (.int x1), some (.int x2), some (.int x3), some (.int x4), some (.int x5), some (.int x6), some (.int x7)]) (st' := [.ref 121, .int x7]) rfl ?_
    refine Q.map (A.gf (gI_of zm247 (e := (92, 3, .getfield 59, [9, 19])) rfl) (hl.lt (a := 121) (by decide)) (hl.T (a := 121) (p := (9, 45)) 43 rfl rfl) (by decide) (hl.R 39 rfl)) ?_
    refine Q.run zm247 1 (i' := 55) (ls' := [some (.ref 121), some (.int x1), some (.int x2), some (.int x3), some (.int x4), some (.int x5), some (.int x6), some (.int x7)]) (st' := [.int x2, .ref 138, .int x7]) rfl ?_
    obtain ⟨hc1, h⟩ := ite_so h
    refine Q.map (A.ia (gI_of zm247 (e := (96, 1, .iaload, [])) rfl) (hl.lt (a := 138) (by decide)) (hl.T (a := 138) (p := (100, 1152)) 60 rfl rfl) hc1) ?_
    refine Q.run zm247 2 (i' := 58) (ls' := [some (.ref 121), some (.int x1), some (.int x2), some (.int x3), some (.int x4), some (.int x5), some (.int x6), some (.int x7)]) (st' := [.int ((sI s 138 (jN x2)) - 1), .int x7]) rfl ?_
    by_cases hc2 : ((sI s 138 (jN x2)) - 1) ≤ x7
    · rw [if_pos hc2] at h
      refine Q.map (A.bT (gI_of zm247 (e := (99, 3, .if_icmp .ge 55, [86])) rfl) (decide_eq_true hc2)) ?_
      refine Q.run zm247 1 (i' := 87) (ls' := [some (.ref 121), some (.int x1), some (.int x2), some (.int x3), some (.int x4), some (.int x5), some (.int x6), some (.int x7)]) (st' := [.int (-1)]) rfl ?_
      cases h
      exact Q.ret (A.ri zm247 (show zM247.2.2.2.2.2[87]? = some (155, 1, .ireturn, []) from rfl) rfl rfl) hl
    · rw [if_neg hc2] at h
      refine Q.map (A.bF (gI_of zm247 (e := (99, 3, .if_icmp .ge 55, [86])) rfl) (fun q => hc2 (of_decide_eq_true q))) ?_
      refine Q.run zm247 2 (i' := 61) (ls' := [some (.ref 121), some (.int x1), some (.int x2), some (.int x3), some (.int x4), some (.int x5), some (.int x6), some (.int x7)]) (st' := [.int x3, .int x6]) rfl ?_
      by_cases hc3 : x6 = x3
      · rw [if_pos hc3] at h
        refine Q.map (A.bF (gI_of zm247 (e := (105, 3, .if_icmp .ne 14, [69])) rfl) (fun q => of_decide_eq_true q hc3)) ?_
        refine Q.run zm247 1 (i' := 63) (ls' := [some (.ref 121), some (.int x1), some (.int x2), some (.int x3), some (.int x4), some (.int x5), some (.int x6), some (.int x7)]) (st' := [.ref 121]) rfl ?_
        refine Q.map (A.gf (gI_of zm247 (e := (109, 3, .getfield 62, [9, 20])) rfl) (hl.lt (a := 121) (by decide)) (hl.T (a := 121) (p := (9, 45)) 43 rfl rfl) (by decide) (hl.R 40 rfl)) ?_
        refine Q.run zm247 3 (i' := 67) (ls' := [some (.ref 121), some (.int x1), some (.int x2), some (.int x3), some (.int x4), some (.int x5), some (.int x6), some (.int x7)]) (st' := [.int (x5 + x7), .ref 139]) rfl ?_
        obtain ⟨hc4, h⟩ := ite_so h
        refine Q.map (A.ia (gI_of zm247 (e := (117, 1, .iaload, [])) rfl) (hl.lt (a := 139) (by decide)) (hl.T (a := 139) (p := (100, 2304)) 61 rfl rfl) hc4) ?_
        cases h
        exact Q.ret (A.ri zm247 (show zM247.2.2.2.2.2[68]? = some (118, 1, .ireturn, []) from rfl) rfl rfl) hl
      · rw [if_neg hc3] at h
        refine Q.map (A.bT (gI_of zm247 (e := (105, 3, .if_icmp .ne 14, [69])) rfl) (decide_eq_true hc3)) ?_
        refine Q.run zm247 2 (i' := 71) (ls' := [some (.ref 121), some (.int x1), some (.int x2), some (.int x3), some (.int x4), some (.int x5), some (.int (x6 + 1)), some (.int x7)]) (st' := [.ref 121]) rfl ?_
        refine Q.map (A.gf (gI_of zm247 (e := (123, 3, .getfield 62, [9, 20])) rfl) (hl.lt (a := 121) (by decide)) (hl.T (a := 121) (p := (9, 45)) 43 rfl rfl) (by decide) (hl.R 40 rfl)) ?_
        refine Q.run zm247 3 (i' := 75) (ls' := [some (.ref 121), some (.int x1), some (.int x2), some (.int x3), some (.int x4), some (.int x5), some (.int (x6 + 1)), some (.int x7)]) (st' := [.int (x5 + x7), .ref 139]) rfl ?_
        obtain ⟨hc5, h⟩ := ite_so h
        refine Q.map (A.ia (gI_of zm247 (e := (131, 1, .iaload, [])) rfl) (hl.lt (a := 139) (by decide)) (hl.T (a := 139) (p := (100, 2304)) 61 rfl rfl) hc5) ?_
        refine Q.run zm247 1 (i' := 77) (ls' := [some (.ref 121), some (.int x1), some (.int x2), some (.int x3), some (.int x4), some (.int x5), some (.int (x6 + 1)), some (.int x7)]) (st' := [.int 34, .int (sI s 139 (jN (x5 + x7)))]) rfl ?_
        by_cases hc6 : (sI s 139 (jN (x5 + x7))) = 34
        · rw [if_pos hc6] at h
          refine Q.map (A.bF (gI_of zm247 (e := (134, 3, .if_icmp .ne 10, [82])) rfl) (fun q => of_decide_eq_true q hc6)) ?_
          refine Q.run zm247 4 (i' := 83) (ls' := [some (.ref 121), some (.int x1), some (.int x2), some (.int x3), some (.int x4), some (.int x5), some (.int (x6 + 1)), some (.int x7)]) (st' := [.int (x7 + 1)]) rfl ?_
          exact dt247_83 hd ih hl  h
        · rw [if_neg hc6] at h
          refine Q.map (A.bT (gI_of zm247 (e := (134, 3, .if_icmp .ne 10, [82])) rfl) (decide_eq_true hc6)) ?_
          refine Q.run zm247 1 (i' := 83) (ls' := [some (.ref 121), some (.int x1), some (.int x2), some (.int x3), some (.int x4), some (.int x5), some (.int (x6 + 1)), some (.int x7)]) (st' := [.int x7]) rfl ?_
          exact dt247_83 hd ih hl  h
def dm247_20 (x1 : Int32) (x2 : Int32) (x3 : Int32) (x4 : Int32) (s : aS) : Option (Int32) :=
  if aB x2 1152 then
    if x4 = 1 then
      dm247_51 5000 x2 x3 ((256 * x1) + (sI s 137 (jN x2))) 0 1 s
    else
      if aB x2 1152 then
        if (sI s 138 (jN x2)) ≤ x3 then
          some (-1)
        else
          if aB (((256 * x1) + (sI s 137 (jN x2))) + x3) 2304 then
            some (sI s 139 (jN (((256 * x1) + (sI s 137 (jN x2))) + x3)))
          else none
      else none
  else none
set_option maxRecDepth 100000 in
theorem dt247_20 {sio : Bool} {tt : Nat} {cc : Nat → Nat → Int32} {d : Nat} (hd : 0 ≤ d) {x1 : Int32} {x2 : Int32} {x3 : Int32} {x4 : Int32} {s : aS} (hl : Ly tt cc s) {o : Int32} (h : dm247_20  x1 x2 x3 x4 s = some o) : Q 2 sio tt cc d 247 20 [some (.ref 121), some (.int x1), some (.int x2), some (.int x3), some (.int x4), none, none, none] [] s (.inl (some (.int o)), s) := by
  unfold dm247_20 at h
  refine Q.run zm247 4 (i' := 24) (ls' := [some (.ref 121), some (.int x1), some (.int x2), some (.int x3), some (.int x4), none, none, none]) (st' := [.ref 121, .int (256 * x1)]) rfl ?_
  refine Q.map (A.gf (gI_of zm247 (e := (45, 3, .getfield 56, [9, 18])) rfl) (hl.lt (a := 121) (by decide)) (hl.T (a := 121) (p := (9, 45)) 43 rfl rfl) (by decide) (hl.R 38 rfl)) ?_
  refine Q.run zm247 1 (i' := 26) (ls' := [some (.ref 121), some (.int x1), some (.int x2), some (.int x3), some (.int x4), none, none, none]) (st' := [.int x2, .ref 137, .int (256 * x1)]) rfl ?_
  obtain ⟨hc1, h⟩ := ite_so h
  refine Q.map (A.ia (gI_of zm247 (e := (49, 1, .iaload, [])) rfl) (hl.lt (a := 137) (by decide)) (hl.T (a := 137) (p := (100, 1152)) 59 rfl rfl) hc1) ?_
  refine Q.run zm247 4 (i' := 31) (ls' := [some (.ref 121), some (.int x1), some (.int x2), some (.int x3), some (.int x4), some (.int ((256 * x1) + (sI s 137 (jN x2)))), none, none]) (st' := [.int 1, .int x4]) rfl ?_
  by_cases hc2 : x4 = 1
  · rw [if_pos hc2] at h
    refine Q.map (A.bT (gI_of zm247 (e := (56, 3, .if_icmp .eq 27, [47])) rfl) (decide_eq_true hc2)) ?_
    refine Q.run zm247 4 (i' := 51) (ls' := [some (.ref 121), some (.int x1), some (.int x2), some (.int x3), some (.int x4), some (.int ((256 * x1) + (sI s 137 (jN x2)))), some (.int 0), some (.int 1)]) (st' := []) rfl ?_
    exact dt247_51 hd _ hl  h
  · rw [if_neg hc2] at h
    refine Q.map (A.bF (gI_of zm247 (e := (56, 3, .if_icmp .eq 27, [47])) rfl) (fun q => hc2 (of_decide_eq_true q))) ?_
    refine Q.run zm247 2 (i' := 34) (ls' := [some (.ref 121), some (.int x1), some (.int x2), some (.int x3), some (.int x4), some (.int ((256 * x1) + (sI s 137 (jN x2)))), none, none]) (st' := [.ref 121, .int x3]) rfl ?_
    refine Q.map (A.gf (gI_of zm247 (e := (61, 3, .getfield 59, [9, 19])) rfl) (hl.lt (a := 121) (by decide)) (hl.T (a := 121) (p := (9, 45)) 43 rfl rfl) (by decide) (hl.R 39 rfl)) ?_
    refine Q.run zm247 1 (i' := 36) (ls' := [some (.ref 121), some (.int x1), some (.int x2), some (.int x3), some (.int x4), some (.int ((256 * x1) + (sI s 137 (jN x2)))), none, none]) (st' := [.int x2, .ref 138, .int x3]) rfl ?_
    obtain ⟨hc3, h⟩ := ite_so h
    refine Q.map (A.ia (gI_of zm247 (e := (65, 1, .iaload, [])) rfl) (hl.lt (a := 138) (by decide)) (hl.T (a := 138) (p := (100, 1152)) 60 rfl rfl) hc3) ?_
    by_cases hc4 : (sI s 138 (jN x2)) ≤ x3
    · rw [if_pos hc4] at h
      refine Q.map (A.bT (gI_of zm247 (e := (66, 3, .if_icmp .ge 15, [45])) rfl) (decide_eq_true hc4)) ?_
      refine Q.run zm247 1 (i' := 46) (ls' := [some (.ref 121), some (.int x1), some (.int x2), some (.int x3), some (.int x4), some (.int ((256 * x1) + (sI s 137 (jN x2)))), none, none]) (st' := [.int (-1)]) rfl ?_
      cases h
      exact Q.ret (A.ri zm247 (show zM247.2.2.2.2.2[46]? = some (82, 1, .ireturn, []) from rfl) rfl rfl) hl
    · rw [if_neg hc4] at h
      refine Q.map (A.bF (gI_of zm247 (e := (66, 3, .if_icmp .ge 15, [45])) rfl) (fun q => hc4 (of_decide_eq_true q))) ?_
      refine Q.run zm247 1 (i' := 39) (ls' := [some (.ref 121), some (.int x1), some (.int x2), some (.int x3), some (.int x4), some (.int ((256 * x1) + (sI s 137 (jN x2)))), none, none]) (st' := [.ref 121]) rfl ?_
      refine Q.map (A.gf (gI_of zm247 (e := (70, 3, .getfield 62, [9, 20])) rfl) (hl.lt (a := 121) (by decide)) (hl.T (a := 121) (p := (9, 45)) 43 rfl rfl) (by decide) (hl.R 40 rfl)) ?_
      refine Q.run zm247 3 (i' := 43) (ls' := [some (.ref 121), some (.int x1), some (.int x2), some (.int x3), some (.int x4), some (.int ((256 * x1) + (sI s 137 (jN x2)))), none, none]) (st' := [.int (((256 * x1) + (sI s 137 (jN x2))) + x3), .ref 139]) rfl ?_
      obtain ⟨hc5, h⟩ := ite_so h
      refine Q.map (A.ia (gI_of zm247 (e := (77, 1, .iaload, [])) rfl) (hl.lt (a := 139) (by decide)) (hl.T (a := 139) (p := (100, 2304)) 61 rfl rfl) hc5) ?_
      refine Q.run zm247 1 (i' := 46) (ls' := [some (.ref 121), some (.int x1), some (.int x2), some (.int x3), some (.int x4), some (.int ((256 * x1) + (sI s 137 (jN x2)))), none, none]) (st' := [.int (sI s 139 (jN (((256 * x1) + (sI s 137 (jN x2))) + x3)))]) rfl ?_
      cases h
      exact Q.ret (A.ri zm247 (show zM247.2.2.2.2.2[46]? = some (82, 1, .ireturn, []) from rfl) rfl rfl) hl
def dm247 (x1 : Int32) (x2 : Int32) (x3 : Int32) (s : aS) : Option (Int32) :=
  if aB x2 1152 then
    if x3 < 0 then
      some (-1)
    else
      if (sI s 128 (jN x2)) = 0 then
        dm247_20 x1 x2 x3 (sI s 128 (jN x2)) s
      else
        if (sI s 128 (jN x2)) = 1 then
          dm247_20 x1 x2 x3 (sI s 128 (jN x2)) s
        else
          if (sI s 128 (jN x2)) = 6 then
            dm247_20 x1 x2 x3 (sI s 128 (jN x2)) s
          else
            if (sI s 128 (jN x2)) = 7 then
              dm247_20 x1 x2 x3 (sI s 128 (jN x2)) s
            else
              some (-1)
  else none
set_option maxRecDepth 100000 in
theorem dt247 {sio : Bool} {tt : Nat} {cc : Nat → Nat → Int32} {d : Nat} (hd : 0 ≤ d) {x1 : Int32} {x2 : Int32} {x3 : Int32} {s : aS} (hl : Ly tt cc s) {o : Int32} (h : dm247  x1 x2 x3 s = some o) : Q 2 sio tt cc d 247 0 [some (.ref 121), some (.int x1), some (.int x2), some (.int x3), none, none, none, none] [] s (.inl (some (.int o)), s) := by
  unfold dm247 at h
  refine Q.run zm247 1 (i' := 1) (ls' := [some (.ref 121), some (.int x1), some (.int x2), some (.int x3), none, none, none, none]) (st' := [.ref 121]) rfl ?_
  refine Q.map (A.gf (gI_of zm247 (e := (1, 3, .getfield 29, [9, 9])) rfl) (hl.lt (a := 121) (by decide)) (hl.T (a := 121) (p := (9, 45)) 43 rfl rfl) (by decide) (hl.R 29 rfl)) ?_
  refine Q.run zm247 1 (i' := 3) (ls' := [some (.ref 121), some (.int x1), some (.int x2), some (.int x3), none, none, none, none]) (st' := [.int x2, .ref 128]) rfl ?_
  obtain ⟨hc1, h⟩ := ite_so h
  refine Q.map (A.ia (gI_of zm247 (e := (5, 1, .iaload, [])) rfl) (hl.lt (a := 128) (by decide)) (hl.T (a := 128) (p := (100, 1152)) 50 rfl rfl) hc1) ?_
  refine Q.run zm247 2 (i' := 6) (ls' := [some (.ref 121), some (.int x1), some (.int x2), some (.int x3), some (.int (sI s 128 (jN x2))), none, none, none]) (st' := [.int x3]) rfl ?_
  by_cases hc2 : x3 < 0
  · rw [if_pos hc2] at h
    refine Q.map (A.zT (gI_of zm247 (e := (9, 3, .ifCond .lt 28, [18])) rfl) (decide_eq_true hc2)) ?_
    refine Q.run zm247 1 (i' := 19) (ls' := [some (.ref 121), some (.int x1), some (.int x2), some (.int x3), some (.int (sI s 128 (jN x2))), none, none, none]) (st' := [.int (-1)]) rfl ?_
    cases h
    exact Q.ret (A.ri zm247 (show zM247.2.2.2.2.2[19]? = some (38, 1, .ireturn, []) from rfl) rfl rfl) hl
  · rw [if_neg hc2] at h
    refine Q.map (A.zF (gI_of zm247 (e := (9, 3, .ifCond .lt 28, [18])) rfl) (fun q => hc2 (of_decide_eq_true q))) ?_
    refine Q.run zm247 1 (i' := 8) (ls' := [some (.ref 121), some (.int x1), some (.int x2), some (.int x3), some (.int (sI s 128 (jN x2))), none, none, none]) (st' := [.int (sI s 128 (jN x2))]) rfl ?_
    by_cases hc3 : (sI s 128 (jN x2)) = 0
    · rw [if_pos hc3] at h
      refine Q.map (A.zT (gI_of zm247 (e := (14, 3, .ifCond .eq 25, [20])) rfl) (decide_eq_true hc3)) ?_
      exact dt247_20 hd hl  h
    · rw [if_neg hc3] at h
      refine Q.map (A.zF (gI_of zm247 (e := (14, 3, .ifCond .eq 25, [20])) rfl) (fun q => hc3 (of_decide_eq_true q))) ?_
      refine Q.run zm247 2 (i' := 11) (ls' := [some (.ref 121), some (.int x1), some (.int x2), some (.int x3), some (.int (sI s 128 (jN x2))), none, none, none]) (st' := [.int 1, .int (sI s 128 (jN x2))]) rfl ?_
      by_cases hc4 : (sI s 128 (jN x2)) = 1
      · rw [if_pos hc4] at h
        refine Q.map (A.bT (gI_of zm247 (e := (20, 3, .if_icmp .eq 19, [20])) rfl) (decide_eq_true hc4)) ?_
        exact dt247_20 hd hl  h
      · rw [if_neg hc4] at h
        refine Q.map (A.bF (gI_of zm247 (e := (20, 3, .if_icmp .eq 19, [20])) rfl) (fun q => hc4 (of_decide_eq_true q))) ?_
        refine Q.run zm247 2 (i' := 14) (ls' := [some (.ref 121), some (.int x1), some (.int x2), some (.int x3), some (.int (sI s 128 (jN x2))), none, none, none]) (st' := [.int 6, .int (sI s 128 (jN x2))]) rfl ?_
        by_cases hc5 : (sI s 128 (jN x2)) = 6
        · rw [if_pos hc5] at h
          refine Q.map (A.bT (gI_of zm247 (e := (27, 3, .if_icmp .eq 12, [20])) rfl) (decide_eq_true hc5)) ?_
          exact dt247_20 hd hl  h
        · rw [if_neg hc5] at h
          refine Q.map (A.bF (gI_of zm247 (e := (27, 3, .if_icmp .eq 12, [20])) rfl) (fun q => hc5 (of_decide_eq_true q))) ?_
          refine Q.run zm247 2 (i' := 17) (ls' := [some (.ref 121), some (.int x1), some (.int x2), some (.int x3), some (.int (sI s 128 (jN x2))), none, none, none]) (st' := [.int 7, .int (sI s 128 (jN x2))]) rfl ?_
          by_cases hc6 : (sI s 128 (jN x2)) = 7
          · rw [if_pos hc6] at h
            refine Q.map (A.bT (gI_of zm247 (e := (34, 3, .if_icmp .eq 5, [20])) rfl) (decide_eq_true hc6)) ?_
            exact dt247_20 hd hl  h
          · rw [if_neg hc6] at h
            refine Q.map (A.bF (gI_of zm247 (e := (34, 3, .if_icmp .eq 5, [20])) rfl) (fun q => hc6 (of_decide_eq_true q))) ?_
            refine Q.run zm247 1 (i' := 19) (ls' := [some (.ref 121), some (.int x1), some (.int x2), some (.int x3), some (.int (sI s 128 (jN x2))), none, none, none]) (st' := [.int (-1)]) rfl ?_
            cases h
            exact Q.ret (A.ri zm247 (show zM247.2.2.2.2.2[19]? = some (38, 1, .ireturn, []) from rfl) rfl rfl) hl
end
section
/-! 246 FormulaTreesModel.letter(III)I -/
set_option maxRecDepth 100000 in
theorem zm246 : zP[246]? = some zM246 := rfl
def dm246_16 (x1 : Int32) (x2 : Int32) (x3 : Int32) (y1 : Int32) (s : aS) : Option (Int32 × aS) :=
  nx (wI s 121 0 y1) fun s1 =>
  if (sI s1 121 0) ≤ 0 then
    bu (dm247 x1 ((128 * x1) + x2) x3 s1) fun r7 =>
    some (r7, s1)
  else
    some (0, s1)
set_option maxRecDepth 100000 in
theorem dt246_16 {sio : Bool} {tt : Nat} {cc : Nat → Nat → Int32} {d : Nat} (hd : 1 ≤ d) {x1 : Int32} {x2 : Int32} {x3 : Int32} {y1 : Int32} {s : aS} (hl : Ly tt cc s) {o : Int32 × aS} (h : dm246_16  x1 x2 x3 y1 s = some o) : Q 2 sio tt cc d 246 16 [some (.ref 121), some (.int x1), some (.int x2), some (.int x3)] [.int y1, .ref 121] s (.inl (some (.int o.1)), o.2) := by
  unfold dm246_16 at h
  obtain ⟨d, rfl⟩ : ∃ e, d = e + 1 := ⟨d - 1, by omega⟩
  obtain ⟨s1, hs2, h⟩ := nx_so h
  refine Q.pf hs2 rfl (gI_of zm246 (e := (28, 3, .putfield 89, [9, 0, 0])) rfl) (hl.lt (a := 121) (by decide)) (by decide) (hl.T (a := 121) (p := (9, 45)) 43 rfl rfl) (by decide) rfl rfl ?_
  have hl3 : Ly tt cc s1 := by rw [hs2]; exact hl.wId (by decide)
  refine Q.run zm246 1 (i' := 18) (ls' := [some (.ref 121), some (.int x1), some (.int x2), some (.int x3)]) (st' := [.ref 121]) rfl ?_
  refine Q.map (A.gf (gI_of zm246 (e := (32, 3, .getfield 89, [9, 0])) rfl) (hl3.lt (a := 121) (by decide)) (hl3.T (a := 121) (p := (9, 45)) 43 rfl rfl) (by decide) rfl) ?_
  by_cases hc4 : (sI s1 121 0) ≤ 0
  · rw [if_pos hc4] at h
    refine Q.map (A.zT (gI_of zm246 (e := (35, 3, .ifCond .le 7, [22])) rfl) (decide_eq_true hc4)) ?_
    refine Q.run zm246 8 (i' := 30) (ls' := [some (.ref 121), some (.int x1), some (.int x2), some (.int x3)]) (st' := [.int x3, .int ((128 * x1) + x2), .int x1, .ref 121]) rfl ?_
    obtain ⟨r7, hc6, h⟩ := bu_so h
    have hq5 : Q 2 sio tt cc d 247 0 [some (.ref 121), some (.int x1), some (.int ((128 * x1) + x2)), some (.int x3), none, none, none, none] [] s1 (.inl (some (.int r7)), s1) := dt247 (by omega) hl3  hc6
    refine Q.callI (gC_vi zm246 (show zM246.2.2.2.2.2[30]? = some (52, 3, .invokevirtual 371, [0, 247, 3, 9]) from rfl) zm247 (hl3.lt (a := 121) (by decide)) (hl3.T (a := 121) (p := (9, 45)) 43 rfl rfl) rfl (show aCr 3 121 [.int x3, .int ((128 * x1) + x2), .int x1, .ref 121] 8 = some ([some (.ref 121), some (.int x1), some (.int ((128 * x1) + x2)), some (.int x3), none, none, none, none], []) from rfl)) hq5 ?_
    cases h
    exact Q.ret (A.ri zm246 (show zM246.2.2.2.2.2[31]? = some (55, 1, .ireturn, []) from rfl) rfl rfl) hl3
  · rw [if_neg hc4] at h
    refine Q.map (A.zF (gI_of zm246 (e := (35, 3, .ifCond .le 7, [22])) rfl) (fun q => hc4 (of_decide_eq_true q))) ?_
    refine Q.run zm246 2 (i' := 31) (ls' := [some (.ref 121), some (.int x1), some (.int x2), some (.int x3)]) (st' := [.int 0]) rfl ?_
    cases h
    exact Q.ret (A.ri zm246 (show zM246.2.2.2.2.2[31]? = some (55, 1, .ireturn, []) from rfl) rfl rfl) hl3
def dm246_13 (x1 : Int32) (x2 : Int32) (x3 : Int32) (s : aS) : Option (Int32 × aS) :=
  dm246_16 x1 x2 x3 1 s
set_option maxRecDepth 100000 in
theorem dt246_13 {sio : Bool} {tt : Nat} {cc : Nat → Nat → Int32} {d : Nat} (hd : 1 ≤ d) {x1 : Int32} {x2 : Int32} {x3 : Int32} {s : aS} (hl : Ly tt cc s) {o : Int32 × aS} (h : dm246_13  x1 x2 x3 s = some o) : Q 2 sio tt cc d 246 13 [some (.ref 121), some (.int x1), some (.int x2), some (.int x3)] [.ref 121] s (.inl (some (.int o.1)), o.2) := by
  unfold dm246_13 at h
  obtain ⟨d, rfl⟩ : ∃ e, d = e + 1 := ⟨d - 1, by omega⟩
  refine Q.run zm246 2 (i' := 16) (ls' := [some (.ref 121), some (.int x1), some (.int x2), some (.int x3)]) (st' := [.int 1, .ref 121]) rfl ?_
  exact dt246_16 hd hl  h
def dm246 (x1 : Int32) (x2 : Int32) (x3 : Int32) (s : aS) : Option (Int32 × aS) :=
  bu (dm225 x1 s) fun r3 =>
  if r3 = 0 then
    if x2 < 0 then
      dm246_13 x1 x2 x3 s
    else
      if aB x1 9 then
        if x2 < (sI s 127 (jN x1)) then
          dm246_16 x1 x2 x3 0 s
        else
          dm246_13 x1 x2 x3 s
      else none
  else
    dm246_13 x1 x2 x3 s
set_option maxRecDepth 100000 in
theorem dt246 {sio : Bool} {tt : Nat} {cc : Nat → Nat → Int32} {d : Nat} (hd : 1 ≤ d) {x1 : Int32} {x2 : Int32} {x3 : Int32} {s : aS} (hl : Ly tt cc s) {o : Int32 × aS} (h : dm246  x1 x2 x3 s = some o) : Q 2 sio tt cc d 246 0 [some (.ref 121), some (.int x1), some (.int x2), some (.int x3)] [] s (.inl (some (.int o.1)), o.2) := by
  unfold dm246 at h
  obtain ⟨d, rfl⟩ : ∃ e, d = e + 1 := ⟨d - 1, by omega⟩
  refine Q.run zm246 3 (i' := 3) (ls' := [some (.ref 121), some (.int x1), some (.int x2), some (.int x3)]) (st' := [.int x1, .ref 121, .ref 121]) rfl ?_
  obtain ⟨r3, hc2, h⟩ := bu_so h
  have hq1 : Q 2 sio tt cc d 225 0 [some (.ref 121), some (.int x1)] [] s (.inl (some (.int r3)), s) := dt225 (by omega) hl  hc2
  refine Q.callI (gC_vi zm246 (show zM246.2.2.2.2.2[3]? = some (3, 3, .invokevirtual 310, [0, 225, 1, 9]) from rfl) zm225 (hl.lt (a := 121) (by decide)) (hl.T (a := 121) (p := (9, 45)) 43 rfl rfl) rfl (show aCr 1 121 [.int x1, .ref 121, .ref 121] 2 = some ([some (.ref 121), some (.int x1)], [.ref 121]) from rfl)) hq1 ?_
  by_cases hc4 : r3 = 0
  · rw [if_pos hc4] at h
    refine Q.map (A.zF (gI_of zm246 (e := (6, 3, .ifCond .ne 17, [13])) rfl) (fun q => of_decide_eq_true q hc4)) ?_
    refine Q.run zm246 1 (i' := 6) (ls' := [some (.ref 121), some (.int x1), some (.int x2), some (.int x3)]) (st' := [.int x2, .ref 121]) rfl ?_
    by_cases hc5 : x2 < 0
    · rw [if_pos hc5] at h
      refine Q.map (A.zT (gI_of zm246 (e := (10, 3, .ifCond .lt 13, [13])) rfl) (decide_eq_true hc5)) ?_
      exact dt246_13 hd hl  h
    · rw [if_neg hc5] at h
      refine Q.map (A.zF (gI_of zm246 (e := (10, 3, .ifCond .lt 13, [13])) rfl) (fun q => hc5 (of_decide_eq_true q))) ?_
      refine Q.run zm246 2 (i' := 9) (ls' := [some (.ref 121), some (.int x1), some (.int x2), some (.int x3)]) (st' := [.ref 121, .int x2, .ref 121]) rfl ?_
      refine Q.map (A.gf (gI_of zm246 (e := (15, 3, .getfield 26, [9, 8])) rfl) (hl.lt (a := 121) (by decide)) (hl.T (a := 121) (p := (9, 45)) 43 rfl rfl) (by decide) (hl.R 28 rfl)) ?_
      refine Q.run zm246 1 (i' := 11) (ls' := [some (.ref 121), some (.int x1), some (.int x2), some (.int x3)]) (st' := [.int x1, .ref 127, .int x2, .ref 121]) rfl ?_
      obtain ⟨hc6, h⟩ := ite_so h
      refine Q.map (A.ia (gI_of zm246 (e := (19, 1, .iaload, [])) rfl) (hl.lt (a := 127) (by decide)) (hl.T (a := 127) (p := (100, 9)) 49 rfl rfl) hc6) ?_
      by_cases hc7 : x2 < (sI s 127 (jN x1))
      · rw [if_pos hc7] at h
        refine Q.map (A.bT (gI_of zm246 (e := (20, 3, .if_icmp .lt 7, [15])) rfl) (decide_eq_true hc7)) ?_
        refine Q.run zm246 1 (i' := 16) (ls' := [some (.ref 121), some (.int x1), some (.int x2), some (.int x3)]) (st' := [.int 0, .ref 121]) rfl ?_
        exact dt246_16 hd hl  h
      · rw [if_neg hc7] at h
        refine Q.map (A.bF (gI_of zm246 (e := (20, 3, .if_icmp .lt 7, [15])) rfl) (fun q => hc7 (of_decide_eq_true q))) ?_
        exact dt246_13 hd hl  h
  · rw [if_neg hc4] at h
    refine Q.map (A.zT (gI_of zm246 (e := (6, 3, .ifCond .ne 17, [13])) rfl) (decide_eq_true hc4)) ?_
    exact dt246_13 hd hl  h
/-! 165 FormulaTrees$Tree.hasLikeNode(LFormulaTrees$Tree;I)Z -/
set_option maxRecDepth 100000 in
theorem zm165 : zP[165]? = some zM165 := rfl
def dm165_57 (k37 : Nat → Nat → Int32 → Int32 → Int32 → aS → Option (Int32)) (b0 : Nat) (b1 : Nat) (x2 : Int32) (x4 : Int32) (y0 : Int32) (s : aS) : Option (Int32) :=
  k37 b0 b1 x2 y0 (x4 + 1) s
set_option maxRecDepth 100000 in
theorem dt165_57 {sio : Bool} {tt : Nat} {cc : Nat → Nat → Int32} {d : Nat} (hd : 2 ≤ d) {k37 : Nat → Nat → Int32 → Int32 → Int32 → aS → Option (Int32)} (hk37 : ∀ {b0 : Nat} {b1 : Nat} {x2 : Int32} {x3 : Int32} {x4 : Int32} {s : aS}, Ly tt cc s → aK s b0 3 → aK s b1 3 → ∀ {o : Int32}, k37 b0 b1 x2 x3 x4 s = some o → Q 1 sio tt cc d 165 37 [some (.ref b0), some (.ref b1), some (.int x2), some (.int x3), some (.int x4)] [] s (.inl (some (.int o)), s)) {b0 : Nat} {b1 : Nat} {x2 : Int32} {x4 : Int32} {y0 : Int32} {x3 : Int32} {s : aS} (hl : Ly tt cc s) (hk_b0 : aK s b0 3) (hk_b1 : aK s b1 3) {o : Int32} (h : dm165_57 k37 b0 b1 x2 x4 y0 s = some o) : Q 1 sio tt cc d 165 57 [some (.ref b0), some (.ref b1), some (.int x2), some (.int x3), some (.int x4)] [.int y0] s (.inl (some (.int o)), s) := by
  unfold dm165_57 at h
  obtain ⟨d, rfl⟩ : ∃ e, d = e + 1 := ⟨d - 1, by omega⟩
  refine Q.run zm165 3 (i' := 37) (ls' := [some (.ref b0), some (.ref b1), some (.int x2), some (.int y0), some (.int (x4 + 1))]) (st' := []) rfl ?_
  exact hk37 hl hk_b0 hk_b1 h
def dm165_32 (k15 : Nat → Nat → Int32 → Int32 → Int32 → aS → Option (Int32)) (b0 : Nat) (b1 : Nat) (x2 : Int32) (x4 : Int32) (y0 : Int32) (s : aS) : Option (Int32) :=
  k15 b0 b1 x2 y0 (x4 + 1) s
set_option maxRecDepth 100000 in
theorem dt165_32 {sio : Bool} {tt : Nat} {cc : Nat → Nat → Int32} {d : Nat} (hd : 2 ≤ d) {k15 : Nat → Nat → Int32 → Int32 → Int32 → aS → Option (Int32)} (hk15 : ∀ {b0 : Nat} {b1 : Nat} {x2 : Int32} {x3 : Int32} {x4 : Int32} {s : aS}, Ly tt cc s → aK s b0 3 → aK s b1 3 → ∀ {o : Int32}, k15 b0 b1 x2 x3 x4 s = some o → Q 1 sio tt cc d 165 15 [some (.ref b0), some (.ref b1), some (.int x2), some (.int x3), some (.int x4)] [] s (.inl (some (.int o)), s)) {b0 : Nat} {b1 : Nat} {x2 : Int32} {x4 : Int32} {y0 : Int32} {x3 : Int32} {s : aS} (hl : Ly tt cc s) (hk_b0 : aK s b0 3) (hk_b1 : aK s b1 3) {o : Int32} (h : dm165_32 k15 b0 b1 x2 x4 y0 s = some o) : Q 1 sio tt cc d 165 32 [some (.ref b0), some (.ref b1), some (.int x2), some (.int x3), some (.int x4)] [.int y0] s (.inl (some (.int o)), s) := by
  unfold dm165_32 at h
  obtain ⟨d, rfl⟩ : ∃ e, d = e + 1 := ⟨d - 1, by omega⟩
  refine Q.run zm165 3 (i' := 15) (ls' := [some (.ref b0), some (.ref b1), some (.int x2), some (.int y0), some (.int (x4 + 1))]) (st' := []) rfl ?_
  exact hk15 hl hk_b0 hk_b1 h
def dm165_37 : Nat → Nat → Nat → Int32 → Int32 → Int32 → aS → Option (Int32)
  | 0, _, _, _, _, _, _ => none
  | n + 1, b0, b1, x2, x3, x4, s =>
    bu (dm57 b0 x2 10 s) fun r3 =>
    if r3 ≤ x4 then
      if x3 = 0 ∨ x3 = 1 then
        some x3
      else none
    else
      if x3 = 0 then
        if x3 = 0 ∨ x3 = 1 then
          some x3
        else none
      else
        bu (dm144 b0 x2 x4 s) fun r10 =>
        bu (dm144 b1 x2 x4 s) fun r13 =>
        if r10 = r13 then
          dm165_57 (dm165_37 n) b0 b1 x2 x4 1 s
        else
          dm165_57 (dm165_37 n) b0 b1 x2 x4 0 s
set_option maxRecDepth 100000 in
theorem dt165_37 {sio : Bool} {tt : Nat} {cc : Nat → Nat → Int32} {d : Nat} (hd : 2 ≤ d) : ∀ (n : Nat) {b0 : Nat} {b1 : Nat} {x2 : Int32} {x3 : Int32} {x4 : Int32} {s : aS} (_ : Ly tt cc s) (_ : aK s b0 3) (_ : aK s b1 3) {o : Int32} (_ : dm165_37  n b0 b1 x2 x3 x4 s = some o), Q 1 sio tt cc d 165 37 [some (.ref b0), some (.ref b1), some (.int x2), some (.int x3), some (.int x4)] [] s (.inl (some (.int o)), s) := by
  obtain ⟨d, rfl⟩ : ∃ e, d = e + 1 := ⟨d - 1, by omega⟩
  intro n
  induction n with
  | zero => intro b0 b1 x2 x3 x4 s hl hk_b0 hk_b1 o h; rw [dm165_37] at h; cases h
  | succ n ih =>
    intro b0 b1 x2 x3 x4 s hl hk_b0 hk_b1 o h
    rw [dm165_37] at h
    refine Q.run zm165 4 (i' := 41) (ls' := [some (.ref b0), some (.ref b1), some (.int x2), some (.int x3), some (.int x4)]) (st' := [.int 10, .int x2, .ref b0, .int x4]) rfl ?_
    obtain ⟨r3, hc2, h⟩ := bu_so h
    have hq1 : Q 1 sio tt cc d 57 0 [some (.ref b0), some (.int x2), some (.int 10), none] [] s (.inl (some (.int r3)), s) := dt57 (by omega) hl hk_b0 hc2
    refine Q.callI (gC_vi zm165 (show zM165.2.2.2.2.2[41]? = some (75, 3, .invokevirtual 28, [0, 57, 2, 3]) from rfl) zm57 hk_b0.1 (hl.tr hk_b0).1 rfl (show aCr 2 b0 [.int 10, .int x2, .ref b0, .int x4] 4 = some ([some (.ref b0), some (.int x2), some (.int 10), none], [.int x4]) from rfl)) hq1 ?_
    by_cases hc4 : r3 ≤ x4
    · rw [if_pos hc4] at h
      refine Q.map (A.bT (gI_of zm165 (e := (78, 3, .if_icmp .ge 36, [60])) rfl) (decide_eq_true hc4)) ?_
      refine Q.run zm165 1 (i' := 61) (ls' := [some (.ref b0), some (.ref b1), some (.int x2), some (.int x3), some (.int x4)]) (st' := [.int x3]) rfl ?_
      obtain ⟨hc5, h⟩ := ite_so h
      cases h
      exact Q.ret (A.ri zm165 (show zM165.2.2.2.2.2[61]? = some (115, 1, .ireturn, []) from rfl) rfl (fit1 hc5)) hl
    · rw [if_neg hc4] at h
      refine Q.map (A.bF (gI_of zm165 (e := (78, 3, .if_icmp .ge 36, [60])) rfl) (fun q => hc4 (of_decide_eq_true q))) ?_
      refine Q.run zm165 1 (i' := 44) (ls' := [some (.ref b0), some (.ref b1), some (.int x2), some (.int x3), some (.int x4)]) (st' := [.int x3]) rfl ?_
      by_cases hc6 : x3 = 0
      · rw [if_pos hc6] at h
        refine Q.map (A.zT (gI_of zm165 (e := (82, 3, .ifCond .eq 32, [60])) rfl) (decide_eq_true hc6)) ?_
        refine Q.run zm165 1 (i' := 61) (ls' := [some (.ref b0), some (.ref b1), some (.int x2), some (.int x3), some (.int x4)]) (st' := [.int x3]) rfl ?_
        obtain ⟨hc7, h⟩ := ite_so h
        cases h
        exact Q.ret (A.ri zm165 (show zM165.2.2.2.2.2[61]? = some (115, 1, .ireturn, []) from rfl) rfl (fit1 hc7)) hl
      · rw [if_neg hc6] at h
        refine Q.map (A.zF (gI_of zm165 (e := (82, 3, .ifCond .eq 32, [60])) rfl) (fun q => hc6 (of_decide_eq_true q))) ?_
        refine Q.run zm165 3 (i' := 48) (ls' := [some (.ref b0), some (.ref b1), some (.int x2), some (.int x3), some (.int x4)]) (st' := [.int x4, .int x2, .ref b0]) rfl ?_
        obtain ⟨r10, hc9, h⟩ := bu_so h
        have hq8 : Q 1 sio tt cc d 144 0 [some (.ref b0), some (.int x2), some (.int x4), none] [] s (.inl (some (.int r10)), s) := dt144 (by omega) hl hk_b0 hc9
        refine Q.callI (gC_vi zm165 (show zM165.2.2.2.2.2[48]? = some (89, 3, .invokevirtual 71, [0, 144, 2, 3]) from rfl) zm144 hk_b0.1 (hl.tr hk_b0).1 rfl (show aCr 2 b0 [.int x4, .int x2, .ref b0] 4 = some ([some (.ref b0), some (.int x2), some (.int x4), none], []) from rfl)) hq8 ?_
        refine Q.run zm165 3 (i' := 52) (ls' := [some (.ref b0), some (.ref b1), some (.int x2), some (.int x3), some (.int x4)]) (st' := [.int x4, .int x2, .ref b1, .int r10]) rfl ?_
        obtain ⟨r13, hc12, h⟩ := bu_so h
        have hq11 : Q 1 sio tt cc d 144 0 [some (.ref b1), some (.int x2), some (.int x4), none] [] s (.inl (some (.int r13)), s) := dt144 (by omega) hl hk_b1 hc12
        refine Q.callI (gC_vi zm165 (show zM165.2.2.2.2.2[52]? = some (96, 3, .invokevirtual 71, [0, 144, 2, 3]) from rfl) zm144 hk_b1.1 (hl.tr hk_b1).1 rfl (show aCr 2 b1 [.int x4, .int x2, .ref b1, .int r10] 4 = some ([some (.ref b1), some (.int x2), some (.int x4), none], [.int r10]) from rfl)) hq11 ?_
        by_cases hc14 : r10 = r13
        · rw [if_pos hc14] at h
          refine Q.map (A.bF (gI_of zm165 (e := (99, 3, .if_icmp .ne 7, [56])) rfl) (fun q => of_decide_eq_true q hc14)) ?_
          refine Q.run zm165 2 (i' := 57) (ls' := [some (.ref b0), some (.ref b1), some (.int x2), some (.int x3), some (.int x4)]) (st' := [.int 1]) rfl ?_
          exact dt165_57 hd ih hl hk_b0 hk_b1 h
        · rw [if_neg hc14] at h
          refine Q.map (A.bT (gI_of zm165 (e := (99, 3, .if_icmp .ne 7, [56])) rfl) (decide_eq_true hc14)) ?_
          refine Q.run zm165 1 (i' := 57) (ls' := [some (.ref b0), some (.ref b1), some (.int x2), some (.int x3), some (.int x4)]) (st' := [.int 0]) rfl ?_
          exact dt165_57 hd ih hl hk_b0 hk_b1 h
def dm165_35 (b0 : Nat) (b1 : Nat) (x2 : Int32) (x3 : Int32) (s : aS) : Option (Int32) :=
  dm165_37 5000 b0 b1 x2 x3 0 s
set_option maxRecDepth 100000 in
theorem dt165_35 {sio : Bool} {tt : Nat} {cc : Nat → Nat → Int32} {d : Nat} (hd : 2 ≤ d) {b0 : Nat} {b1 : Nat} {x2 : Int32} {x3 : Int32} {x4 : Int32} {s : aS} (hl : Ly tt cc s) (hk_b0 : aK s b0 3) (hk_b1 : aK s b1 3) {o : Int32} (h : dm165_35  b0 b1 x2 x3 s = some o) : Q 1 sio tt cc d 165 35 [some (.ref b0), some (.ref b1), some (.int x2), some (.int x3), some (.int x4)] [] s (.inl (some (.int o)), s) := by
  unfold dm165_35 at h
  obtain ⟨d, rfl⟩ : ∃ e, d = e + 1 := ⟨d - 1, by omega⟩
  refine Q.run zm165 2 (i' := 37) (ls' := [some (.ref b0), some (.ref b1), some (.int x2), some (.int x3), some (.int 0)]) (st' := []) rfl ?_
  exact dt165_37 hd _ hl hk_b0 hk_b1 h
def dm165_15 : Nat → Nat → Nat → Int32 → Int32 → Int32 → aS → Option (Int32)
  | 0, _, _, _, _, _, _ => none
  | n + 1, b0, b1, x2, x3, x4, s =>
    if 9 ≤ x4 then
      dm165_35 b0 b1 x2 x3 s
    else
      if x3 = 0 then
        dm165_35 b0 b1 x2 x3 s
      else
        bu (dm57 b0 x2 x4 s) fun r5 =>
        bu (dm57 b1 x2 x4 s) fun r8 =>
        if r5 = r8 then
          dm165_32 (dm165_15 n) b0 b1 x2 x4 1 s
        else
          dm165_32 (dm165_15 n) b0 b1 x2 x4 0 s
set_option maxRecDepth 100000 in
theorem dt165_15 {sio : Bool} {tt : Nat} {cc : Nat → Nat → Int32} {d : Nat} (hd : 2 ≤ d) : ∀ (n : Nat) {b0 : Nat} {b1 : Nat} {x2 : Int32} {x3 : Int32} {x4 : Int32} {s : aS} (_ : Ly tt cc s) (_ : aK s b0 3) (_ : aK s b1 3) {o : Int32} (_ : dm165_15  n b0 b1 x2 x3 x4 s = some o), Q 1 sio tt cc d 165 15 [some (.ref b0), some (.ref b1), some (.int x2), some (.int x3), some (.int x4)] [] s (.inl (some (.int o)), s) := by
  obtain ⟨d, rfl⟩ : ∃ e, d = e + 1 := ⟨d - 1, by omega⟩
  intro n
  induction n with
  | zero => intro b0 b1 x2 x3 x4 s hl hk_b0 hk_b1 o h; rw [dm165_15] at h; cases h
  | succ n ih =>
    intro b0 b1 x2 x3 x4 s hl hk_b0 hk_b1 o h
    rw [dm165_15] at h
    refine Q.run zm165 2 (i' := 17) (ls' := [some (.ref b0), some (.ref b1), some (.int x2), some (.int x3), some (.int x4)]) (st' := [.int 9, .int x4]) rfl ?_
    by_cases hc1 : 9 ≤ x4
    · rw [if_pos hc1] at h
      refine Q.map (A.bT (gI_of zm165 (e := (30, 3, .if_icmp .ge 36, [35])) rfl) (decide_eq_true hc1)) ?_
      exact dt165_35 hd hl hk_b0 hk_b1 h
    · rw [if_neg hc1] at h
      refine Q.map (A.bF (gI_of zm165 (e := (30, 3, .if_icmp .ge 36, [35])) rfl) (fun q => hc1 (of_decide_eq_true q))) ?_
      refine Q.run zm165 1 (i' := 19) (ls' := [some (.ref b0), some (.ref b1), some (.int x2), some (.int x3), some (.int x4)]) (st' := [.int x3]) rfl ?_
      by_cases hc2 : x3 = 0
      · rw [if_pos hc2] at h
        refine Q.map (A.zT (gI_of zm165 (e := (34, 3, .ifCond .eq 32, [35])) rfl) (decide_eq_true hc2)) ?_
        exact dt165_35 hd hl hk_b0 hk_b1 h
      · rw [if_neg hc2] at h
        refine Q.map (A.zF (gI_of zm165 (e := (34, 3, .ifCond .eq 32, [35])) rfl) (fun q => hc2 (of_decide_eq_true q))) ?_
        refine Q.run zm165 3 (i' := 23) (ls' := [some (.ref b0), some (.ref b1), some (.int x2), some (.int x3), some (.int x4)]) (st' := [.int x4, .int x2, .ref b0]) rfl ?_
        obtain ⟨r5, hc4, h⟩ := bu_so h
        have hq3 : Q 1 sio tt cc d 57 0 [some (.ref b0), some (.int x2), some (.int x4), none] [] s (.inl (some (.int r5)), s) := dt57 (by omega) hl hk_b0 hc4
        refine Q.callI (gC_vi zm165 (show zM165.2.2.2.2.2[23]? = some (41, 3, .invokevirtual 28, [0, 57, 2, 3]) from rfl) zm57 hk_b0.1 (hl.tr hk_b0).1 rfl (show aCr 2 b0 [.int x4, .int x2, .ref b0] 4 = some ([some (.ref b0), some (.int x2), some (.int x4), none], []) from rfl)) hq3 ?_
        refine Q.run zm165 3 (i' := 27) (ls' := [some (.ref b0), some (.ref b1), some (.int x2), some (.int x3), some (.int x4)]) (st' := [.int x4, .int x2, .ref b1, .int r5]) rfl ?_
        obtain ⟨r8, hc7, h⟩ := bu_so h
        have hq6 : Q 1 sio tt cc d 57 0 [some (.ref b1), some (.int x2), some (.int x4), none] [] s (.inl (some (.int r8)), s) := dt57 (by omega) hl hk_b1 hc7
        refine Q.callI (gC_vi zm165 (show zM165.2.2.2.2.2[27]? = some (48, 3, .invokevirtual 28, [0, 57, 2, 3]) from rfl) zm57 hk_b1.1 (hl.tr hk_b1).1 rfl (show aCr 2 b1 [.int x4, .int x2, .ref b1, .int r5] 4 = some ([some (.ref b1), some (.int x2), some (.int x4), none], [.int r5]) from rfl)) hq6 ?_
        by_cases hc9 : r5 = r8
        · rw [if_pos hc9] at h
          refine Q.map (A.bF (gI_of zm165 (e := (51, 3, .if_icmp .ne 7, [31])) rfl) (fun q => of_decide_eq_true q hc9)) ?_
          refine Q.run zm165 2 (i' := 32) (ls' := [some (.ref b0), some (.ref b1), some (.int x2), some (.int x3), some (.int x4)]) (st' := [.int 1]) rfl ?_
          exact dt165_32 hd ih hl hk_b0 hk_b1 h
        · rw [if_neg hc9] at h
          refine Q.map (A.bT (gI_of zm165 (e := (51, 3, .if_icmp .ne 7, [31])) rfl) (decide_eq_true hc9)) ?_
          refine Q.run zm165 1 (i' := 32) (ls' := [some (.ref b0), some (.ref b1), some (.int x2), some (.int x3), some (.int x4)]) (st' := [.int 0]) rfl ?_
          exact dt165_32 hd ih hl hk_b0 hk_b1 h
def dm165_12 (b0 : Nat) (b1 : Nat) (x2 : Int32) (y0 : Int32) (s : aS) : Option (Int32) :=
  dm165_15 5000 b0 b1 x2 y0 0 s
set_option maxRecDepth 100000 in
theorem dt165_12 {sio : Bool} {tt : Nat} {cc : Nat → Nat → Int32} {d : Nat} (hd : 2 ≤ d) {b0 : Nat} {b1 : Nat} {x2 : Int32} {y0 : Int32} {s : aS} (hl : Ly tt cc s) (hk_b0 : aK s b0 3) (hk_b1 : aK s b1 3) {o : Int32} (h : dm165_12  b0 b1 x2 y0 s = some o) : Q 1 sio tt cc d 165 12 [some (.ref b0), some (.ref b1), some (.int x2), none, none] [.int y0] s (.inl (some (.int o)), s) := by
  unfold dm165_12 at h
  obtain ⟨d, rfl⟩ : ∃ e, d = e + 1 := ⟨d - 1, by omega⟩
  refine Q.run zm165 3 (i' := 15) (ls' := [some (.ref b0), some (.ref b1), some (.int x2), some (.int y0), some (.int 0)]) (st' := []) rfl ?_
  exact dt165_15 hd _ hl hk_b0 hk_b1 h
def dm165 (b0 : Nat) (b1 : Nat) (x2 : Int32) (s : aS) : Option (Int32) :=
  bu (dm57 b0 x2 10 s) fun r3 =>
  bu (dm57 b1 x2 10 s) fun r6 =>
  if r3 = r6 then
    dm165_12 b0 b1 x2 1 s
  else
    dm165_12 b0 b1 x2 0 s
set_option maxRecDepth 100000 in
theorem dt165 {sio : Bool} {tt : Nat} {cc : Nat → Nat → Int32} {d : Nat} (hd : 2 ≤ d) {b0 : Nat} {b1 : Nat} {x2 : Int32} {s : aS} (hl : Ly tt cc s) (hk_b0 : aK s b0 3) (hk_b1 : aK s b1 3) {o : Int32} (h : dm165  b0 b1 x2 s = some o) : Q 1 sio tt cc d 165 0 [some (.ref b0), some (.ref b1), some (.int x2), none, none] [] s (.inl (some (.int o)), s) := by
  unfold dm165 at h
  obtain ⟨d, rfl⟩ : ∃ e, d = e + 1 := ⟨d - 1, by omega⟩
  refine Q.run zm165 3 (i' := 3) (ls' := [some (.ref b0), some (.ref b1), some (.int x2), none, none]) (st' := [.int 10, .int x2, .ref b0]) rfl ?_
  obtain ⟨r3, hc2, h⟩ := bu_so h
  have hq1 : Q 1 sio tt cc d 57 0 [some (.ref b0), some (.int x2), some (.int 10), none] [] s (.inl (some (.int r3)), s) := dt57 (by omega) hl hk_b0 hc2
  refine Q.callI (gC_vi zm165 (show zM165.2.2.2.2.2[3]? = some (4, 3, .invokevirtual 28, [0, 57, 2, 3]) from rfl) zm57 hk_b0.1 (hl.tr hk_b0).1 rfl (show aCr 2 b0 [.int 10, .int x2, .ref b0] 4 = some ([some (.ref b0), some (.int x2), some (.int 10), none], []) from rfl)) hq1 ?_
  refine Q.run zm165 3 (i' := 7) (ls' := [some (.ref b0), some (.ref b1), some (.int x2), none, none]) (st' := [.int 10, .int x2, .ref b1, .int r3]) rfl ?_
  obtain ⟨r6, hc5, h⟩ := bu_so h
  have hq4 : Q 1 sio tt cc d 57 0 [some (.ref b1), some (.int x2), some (.int 10), none] [] s (.inl (some (.int r6)), s) := dt57 (by omega) hl hk_b1 hc5
  refine Q.callI (gC_vi zm165 (show zM165.2.2.2.2.2[7]? = some (11, 3, .invokevirtual 28, [0, 57, 2, 3]) from rfl) zm57 hk_b1.1 (hl.tr hk_b1).1 rfl (show aCr 2 b1 [.int 10, .int x2, .ref b1, .int r3] 4 = some ([some (.ref b1), some (.int x2), some (.int 10), none], [.int r3]) from rfl)) hq4 ?_
  by_cases hc7 : r3 = r6
  · rw [if_pos hc7] at h
    refine Q.map (A.bF (gI_of zm165 (e := (14, 3, .if_icmp .ne 7, [11])) rfl) (fun q => of_decide_eq_true q hc7)) ?_
    refine Q.run zm165 2 (i' := 12) (ls' := [some (.ref b0), some (.ref b1), some (.int x2), none, none]) (st' := [.int 1]) rfl ?_
    exact dt165_12 hd hl hk_b0 hk_b1 h
  · rw [if_neg hc7] at h
    refine Q.map (A.bT (gI_of zm165 (e := (14, 3, .if_icmp .ne 7, [11])) rfl) (decide_eq_true hc7)) ?_
    refine Q.run zm165 1 (i' := 12) (ls' := [some (.ref b0), some (.ref b1), some (.int x2), none, none]) (st' := [.int 0]) rfl ?_
    exact dt165_12 hd hl hk_b0 hk_b1 h
/-! 164 FormulaTrees$Tree.isLike(LFormulaTrees$Tree;)Z -/
set_option maxRecDepth 100000 in
theorem zm164 : zP[164]? = some zM164 := rfl
def dm164_11 : Nat → Nat → Nat → Int32 → Int32 → aS → Option (Int32)
  | 0, _, _, _, _, _ => none
  | n + 1, b0, b1, x2, x3, s =>
    if (sI s b0 2) ≤ x3 then
      if x2 = 0 ∨ x2 = 1 then
        some x2
      else none
    else
      if x2 = 0 then
        if x2 = 0 ∨ x2 = 1 then
          some x2
        else none
      else
        bu (dm165 b0 b1 x3 s) fun r7 =>
        dm164_11 n b0 b1 r7 (x3 + 1) s
set_option maxRecDepth 100000 in
theorem dt164_11 {sio : Bool} {tt : Nat} {cc : Nat → Nat → Int32} {d : Nat} (hd : 3 ≤ d) : ∀ (n : Nat) {b0 : Nat} {b1 : Nat} {x2 : Int32} {x3 : Int32} {s : aS} (_ : Ly tt cc s) (_ : aK s b0 3) (_ : aK s b1 3) {o : Int32} (_ : dm164_11  n b0 b1 x2 x3 s = some o), Q 1 sio tt cc d 164 11 [some (.ref b0), some (.ref b1), some (.int x2), some (.int x3)] [] s (.inl (some (.int o)), s) := by
  obtain ⟨d, rfl⟩ : ∃ e, d = e + 1 := ⟨d - 1, by omega⟩
  intro n
  induction n with
  | zero => intro b0 b1 x2 x3 s hl hk_b0 hk_b1 o h; rw [dm164_11] at h; cases h
  | succ n ih =>
    intro b0 b1 x2 x3 s hl hk_b0 hk_b1 o h
    rw [dm164_11] at h
    refine Q.run zm164 2 (i' := 13) (ls' := [some (.ref b0), some (.ref b1), some (.int x2), some (.int x3)]) (st' := [.ref b0, .int x3]) rfl ?_
    refine Q.map (A.gf (gI_of zm164 (e := (21, 3, .getfield 24, [3, 2])) rfl) hk_b0.1 (hl.tr hk_b0).1 (by decide) rfl) ?_
    by_cases hc1 : (sI s b0 2) ≤ x3
    · rw [if_pos hc1] at h
      refine Q.map (A.bT (gI_of zm164 (e := (24, 3, .if_icmp .ge 20, [24])) rfl) (decide_eq_true hc1)) ?_
      refine Q.run zm164 1 (i' := 25) (ls' := [some (.ref b0), some (.ref b1), some (.int x2), some (.int x3)]) (st' := [.int x2]) rfl ?_
      obtain ⟨hc2, h⟩ := ite_so h
      cases h
      exact Q.ret (A.ri zm164 (show zM164.2.2.2.2.2[25]? = some (45, 1, .ireturn, []) from rfl) rfl (fit1 hc2)) hl
    · rw [if_neg hc1] at h
      refine Q.map (A.bF (gI_of zm164 (e := (24, 3, .if_icmp .ge 20, [24])) rfl) (fun q => hc1 (of_decide_eq_true q))) ?_
      refine Q.run zm164 1 (i' := 16) (ls' := [some (.ref b0), some (.ref b1), some (.int x2), some (.int x3)]) (st' := [.int x2]) rfl ?_
      by_cases hc3 : x2 = 0
      · rw [if_pos hc3] at h
        refine Q.map (A.zT (gI_of zm164 (e := (28, 3, .ifCond .eq 16, [24])) rfl) (decide_eq_true hc3)) ?_
        refine Q.run zm164 1 (i' := 25) (ls' := [some (.ref b0), some (.ref b1), some (.int x2), some (.int x3)]) (st' := [.int x2]) rfl ?_
        obtain ⟨hc4, h⟩ := ite_so h
        cases h
        exact Q.ret (A.ri zm164 (show zM164.2.2.2.2.2[25]? = some (45, 1, .ireturn, []) from rfl) rfl (fit1 hc4)) hl
      · rw [if_neg hc3] at h
        refine Q.map (A.zF (gI_of zm164 (e := (28, 3, .ifCond .eq 16, [24])) rfl) (fun q => hc3 (of_decide_eq_true q))) ?_
        refine Q.run zm164 3 (i' := 20) (ls' := [some (.ref b0), some (.ref b1), some (.int x2), some (.int x3)]) (st' := [.int x3, .ref b1, .ref b0]) rfl ?_
        obtain ⟨r7, hc6, h⟩ := bu_so h
        have hq5 : Q 1 sio tt cc d 165 0 [some (.ref b0), some (.ref b1), some (.int x3), none, none] [] s (.inl (some (.int r7)), s) := dt165 (by omega) hl hk_b0 hk_b1 hc6
        refine Q.callI (gC_vi zm164 (show zM164.2.2.2.2.2[20]? = some (34, 3, .invokevirtual 67, [0, 165, 2, 3]) from rfl) zm165 hk_b0.1 (hl.tr hk_b0).1 rfl (show aCr 2 b0 [.int x3, .ref b1, .ref b0] 5 = some ([some (.ref b0), some (.ref b1), some (.int x3), none, none], []) from rfl)) hq5 ?_
        refine Q.run zm164 3 (i' := 11) (ls' := [some (.ref b0), some (.ref b1), some (.int r7), some (.int (x3 + 1))]) (st' := []) rfl ?_
        exact ih hl hk_b0 hk_b1 h
def dm164_8 (b0 : Nat) (b1 : Nat) (y0 : Int32) (s : aS) : Option (Int32) :=
  dm164_11 5000 b0 b1 y0 0 s
set_option maxRecDepth 100000 in
theorem dt164_8 {sio : Bool} {tt : Nat} {cc : Nat → Nat → Int32} {d : Nat} (hd : 3 ≤ d) {b0 : Nat} {b1 : Nat} {y0 : Int32} {s : aS} (hl : Ly tt cc s) (hk_b0 : aK s b0 3) (hk_b1 : aK s b1 3) {o : Int32} (h : dm164_8  b0 b1 y0 s = some o) : Q 1 sio tt cc d 164 8 [some (.ref b0), some (.ref b1), none, none] [.int y0] s (.inl (some (.int o)), s) := by
  unfold dm164_8 at h
  obtain ⟨d, rfl⟩ : ∃ e, d = e + 1 := ⟨d - 1, by omega⟩
  refine Q.run zm164 3 (i' := 11) (ls' := [some (.ref b0), some (.ref b1), some (.int y0), some (.int 0)]) (st' := []) rfl ?_
  exact dt164_11 hd _ hl hk_b0 hk_b1 h
def dm164 (b0 : Nat) (b1 : Nat) (s : aS) : Option (Int32) :=
  if (sI s b0 2) = (sI s b1 2) then
    dm164_8 b0 b1 1 s
  else
    dm164_8 b0 b1 0 s
set_option maxRecDepth 100000 in
theorem dt164 {sio : Bool} {tt : Nat} {cc : Nat → Nat → Int32} {d : Nat} (hd : 3 ≤ d) {b0 : Nat} {b1 : Nat} {s : aS} (hl : Ly tt cc s) (hk_b0 : aK s b0 3) (hk_b1 : aK s b1 3) {o : Int32} (h : dm164  b0 b1 s = some o) : Q 1 sio tt cc d 164 0 [some (.ref b0), some (.ref b1), none, none] [] s (.inl (some (.int o)), s) := by
  unfold dm164 at h
  obtain ⟨d, rfl⟩ : ∃ e, d = e + 1 := ⟨d - 1, by omega⟩
  refine Q.run zm164 1 (i' := 1) (ls' := [some (.ref b0), some (.ref b1), none, none]) (st' := [.ref b0]) rfl ?_
  refine Q.map (A.gf (gI_of zm164 (e := (1, 3, .getfield 24, [3, 2])) rfl) hk_b0.1 (hl.tr hk_b0).1 (by decide) rfl) ?_
  refine Q.run zm164 1 (i' := 3) (ls' := [some (.ref b0), some (.ref b1), none, none]) (st' := [.ref b1, .int (sI s b0 2)]) rfl ?_
  refine Q.map (A.gf (gI_of zm164 (e := (5, 3, .getfield 24, [3, 2])) rfl) hk_b1.1 (hl.tr hk_b1).1 (by decide) rfl) ?_
  by_cases hc1 : (sI s b0 2) = (sI s b1 2)
  · rw [if_pos hc1] at h
    refine Q.map (A.bF (gI_of zm164 (e := (8, 3, .if_icmp .ne 7, [7])) rfl) (fun q => of_decide_eq_true q hc1)) ?_
    refine Q.run zm164 2 (i' := 8) (ls' := [some (.ref b0), some (.ref b1), none, none]) (st' := [.int 1]) rfl ?_
    exact dt164_8 hd hl hk_b0 hk_b1 h
  · rw [if_neg hc1] at h
    refine Q.map (A.bT (gI_of zm164 (e := (8, 3, .if_icmp .ne 7, [7])) rfl) (decide_eq_true hc1)) ?_
    refine Q.run zm164 1 (i' := 8) (ls' := [some (.ref b0), some (.ref b1), none, none]) (st' := [.int 0]) rfl ?_
    exact dt164_8 hd hl hk_b0 hk_b1 h
/-! 163 FormulaTrees.same(II)Z -/
set_option maxRecDepth 100000 in
theorem zm163 : zP[163]? = some zM163 := rfl
def dm163_12 (s : aS) : Option (xZ × aS) :=
  some (.inr 2, nw s 82 0)
set_option maxRecDepth 100000 in
theorem dt163_12 {sio : Bool} {tt : Nat} {cc : Nat → Nat → Int32} {d : Nat} (hd : 9 ≤ d) {x1 : Int32} {x2 : Int32} {g3 : Option Value} {g4 : Option Value} {s : aS} (hl : Ly tt cc s) {o : xZ × aS} (h : dm163_12  s = some o) : Q 1 sio tt cc d 163 12 [some (.ref 78), some (.int x1), some (.int x2), g3, g4] [] s o := by
  unfold dm163_12 at h
  obtain ⟨d, rfl⟩ : ∃ e, d = e + 1 := ⟨d - 1, by omega⟩
  cases h
  exact Q.t zm163 (show zM163.2.2.2.2.2[12]? = some (22, 3, .new 100, [202]) from rfl) rfl rfl hl.gL (by omega) hl
def dm163 (x1 : Int32) (x2 : Int32) (s : aS) : Option (xZ × aS) :=
  bu (dm54 x1 s) fun r3 =>
  vN r3 (
    bu (dm54 x2 s) fun r9 =>
    vN r9 (
      dm163_12 s
    ) fun b11 =>
      if aK s b11 3 then
        dm163_12 s
      else none
  ) fun b5 =>
    if aK s b5 3 then
      bu (dm54 x2 s) fun r15 =>
      vN r15 (
        dm163_12 s
      ) fun b17 =>
        if aK s b17 3 then
          bu (dm164 b5 b17 s) fun r21 =>
          if r21 = 0 ∨ r21 = 1 then
            some (.inl (some (.int r21)), s)
          else none
        else none
    else none
set_option maxRecDepth 100000 in
theorem dt163 {sio : Bool} {tt : Nat} {cc : Nat → Nat → Int32} {d : Nat} (hd : 9 ≤ d) {x1 : Int32} {x2 : Int32} {s : aS} (hl : Ly tt cc s) {o : xZ × aS} (h : dm163  x1 x2 s = some o) : Q 1 sio tt cc d 163 0 [some (.ref 78), some (.int x1), some (.int x2), none, none] [] s o := by
  unfold dm163 at h
  obtain ⟨d, rfl⟩ : ∃ e, d = e + 1 := ⟨d - 1, by omega⟩
  refine Q.run zm163 2 (i' := 2) (ls' := [some (.ref 78), some (.int x1), some (.int x2), none, none]) (st' := [.int x1, .ref 78]) rfl ?_
  obtain ⟨r3, hc2, h⟩ := bu_so h
  have hq1 : Q 1 sio tt cc d 54 0 [some (.ref 78), some (.int x1)] [] s (.inl (some r3), s) := dt54 (by omega) hl  hc2
  rcases vN_so h with ⟨hv4, h9⟩ | ⟨b5, hv4, h9⟩
  · clear h
    subst hv4
    have h := h9
    refine Q.callR (gC_vi zm163 (show zM163.2.2.2.2.2[2]? = some (2, 3, .invokevirtual 114, [0, 54, 1, 0]) from rfl) zm54 (hl.lt (a := 78) (by decide)) (hl.T (a := 78) (p := (0, 7)) 0 rfl rfl) rfl (show aCr 1 78 [.int x1, .ref 78] 2 = some ([some (.ref 78), some (.int x1)], []) from rfl)) hq1 ?_
    refine Q.run zm163 3 (i' := 6) (ls' := [some (.ref 78), some (.int x1), some (.int x2), some (.null), none]) (st' := [.int x2, .ref 78]) rfl ?_
    obtain ⟨r9, hc8, h⟩ := bu_so h
    have hq7 : Q 1 sio tt cc d 54 0 [some (.ref 78), some (.int x2)] [] s (.inl (some r9), s) := dt54 (by omega) hl  hc8
    rcases vN_so h with ⟨hv10, h9⟩ | ⟨b11, hv10, h9⟩
    · clear h
      subst hv10
      have h := h9
      refine Q.callR (gC_vi zm163 (show zM163.2.2.2.2.2[6]? = some (8, 3, .invokevirtual 114, [0, 54, 1, 0]) from rfl) zm54 (hl.lt (a := 78) (by decide)) (hl.T (a := 78) (p := (0, 7)) 0 rfl rfl) rfl (show aCr 1 78 [.int x2, .ref 78] 2 = some ([some (.ref 78), some (.int x2)], []) from rfl)) hq7 ?_
      refine Q.run zm163 3 (i' := 12) (ls' := [some (.ref 78), some (.int x1), some (.int x2), some (.null), some (.null)]) (st' := []) rfl ?_
      exact dt163_12 hd hl  h
    · clear h
      subst hv10
      have h := h9
      obtain ⟨hr12, h⟩ := ite_so h
      refine Q.callR (gC_vi zm163 (show zM163.2.2.2.2.2[6]? = some (8, 3, .invokevirtual 114, [0, 54, 1, 0]) from rfl) zm54 (hl.lt (a := 78) (by decide)) (hl.T (a := 78) (p := (0, 7)) 0 rfl rfl) rfl (show aCr 1 78 [.int x2, .ref 78] 2 = some ([some (.ref 78), some (.int x2)], []) from rfl)) hq7 ?_
      refine Q.run zm163 3 (i' := 12) (ls' := [some (.ref 78), some (.int x1), some (.int x2), some (.null), some (.ref b11)]) (st' := []) rfl ?_
      exact dt163_12 hd hl  h
  · clear h
    subst hv4
    have h := h9
    obtain ⟨hr6, h⟩ := ite_so h
    refine Q.callR (gC_vi zm163 (show zM163.2.2.2.2.2[2]? = some (2, 3, .invokevirtual 114, [0, 54, 1, 0]) from rfl) zm54 (hl.lt (a := 78) (by decide)) (hl.T (a := 78) (p := (0, 7)) 0 rfl rfl) rfl (show aCr 1 78 [.int x1, .ref 78] 2 = some ([some (.ref 78), some (.int x1)], []) from rfl)) hq1 ?_
    refine Q.run zm163 3 (i' := 6) (ls' := [some (.ref 78), some (.int x1), some (.int x2), some (.ref b5), none]) (st' := [.int x2, .ref 78]) rfl ?_
    obtain ⟨r15, hc14, h⟩ := bu_so h
    have hq13 : Q 1 sio tt cc d 54 0 [some (.ref 78), some (.int x2)] [] s (.inl (some r15), s) := dt54 (by omega) hl  hc14
    rcases vN_so h with ⟨hv16, h9⟩ | ⟨b17, hv16, h9⟩
    · clear h
      subst hv16
      have h := h9
      refine Q.callR (gC_vi zm163 (show zM163.2.2.2.2.2[6]? = some (8, 3, .invokevirtual 114, [0, 54, 1, 0]) from rfl) zm54 (hl.lt (a := 78) (by decide)) (hl.T (a := 78) (p := (0, 7)) 0 rfl rfl) rfl (show aCr 1 78 [.int x2, .ref 78] 2 = some ([some (.ref 78), some (.int x2)], []) from rfl)) hq13 ?_
      refine Q.run zm163 5 (i' := 12) (ls' := [some (.ref 78), some (.int x1), some (.int x2), some (.ref b5), some (.null)]) (st' := []) rfl ?_
      exact dt163_12 hd hl  h
    · clear h
      subst hv16
      have h := h9
      obtain ⟨hr18, h⟩ := ite_so h
      refine Q.callR (gC_vi zm163 (show zM163.2.2.2.2.2[6]? = some (8, 3, .invokevirtual 114, [0, 54, 1, 0]) from rfl) zm54 (hl.lt (a := 78) (by decide)) (hl.T (a := 78) (p := (0, 7)) 0 rfl rfl) rfl (show aCr 1 78 [.int x2, .ref 78] 2 = some ([some (.ref 78), some (.int x2)], []) from rfl)) hq13 ?_
      refine Q.run zm163 7 (i' := 19) (ls' := [some (.ref 78), some (.int x1), some (.int x2), some (.ref b5), some (.ref b17)]) (st' := [.ref b17, .ref b5]) rfl ?_
      obtain ⟨r21, hc20, h⟩ := bu_so h
      have hq19 : Q 1 sio tt cc d 164 0 [some (.ref b5), some (.ref b17), none, none] [] s (.inl (some (.int r21)), s) := dt164 (by omega) hl hr6 hr18 hc20
      refine Q.callI (gC_vi zm163 (show zM163.2.2.2.2.2[19]? = some (35, 3, .invokevirtual 177, [0, 164, 1, 3]) from rfl) zm164 hr6.1 (hl.tr hr6).1 rfl (show aCr 1 b5 [.ref b17, .ref b5] 4 = some ([some (.ref b5), some (.ref b17), none, none], []) from rfl)) hq19 ?_
      obtain ⟨hc22, h⟩ := ite_so h
      cases h
      exact Q.ret (A.ri zm163 (show zM163.2.2.2.2.2[20]? = some (38, 1, .ireturn, []) from rfl) rfl (fit1 hc22)) hl
/-! 13 FormulaTreesLaw.same(LFormulaTrees;II[J)I -/
set_option maxRecDepth 100000 in
theorem zm13 : zP[13]? = some zM13 := rfl
def dm13_10 (y1 : Int32) (y2 : Int64) (s : aS) : Option (Int32 × aS) :=
  if aB y1 1 then
    nx (wJ s 148 (jN y1) y2) fun s2 =>
    some (0, s2)
  else none
set_option maxRecDepth 100000 in
theorem dt13_10 {sio : Bool} {tt : Nat} {cc : Nat → Nat → Int32} {d : Nat} (hd : 10 ≤ d) {y1 : Int32} {y2 : Int64} {x1 : Int32} {x2 : Int32} {s : aS} (hl : Ly tt cc s) {o : Int32 × aS} (h : dm13_10  y1 y2 s = some o) : Q 1 sio tt cc d 13 10 [some (.ref 78), some (.int x1), some (.int x2), some (.ref 148), none] [.long y2, .int y1, .ref 148] s (.inl (some (.int o.1)), o.2) := by
  unfold dm13_10 at h
  obtain ⟨d, rfl⟩ : ∃ e, d = e + 1 := ⟨d - 1, by omega⟩
  obtain ⟨hc1, h⟩ := ite_so h
  obtain ⟨s2, hs3, h⟩ := nx_so h
  refine Q.lS hs3 rfl (gI_of zm13 (e := (16, 1, .lastore, [])) rfl) (hl.lt (a := 148) (by decide)) (by decide) (hl.T (a := 148) (p := (104, 1)) 70 rfl rfl) hc1 ?_
  have hl4 : Ly tt cc s2 := by rw [hs3]; exact hl.wJd
  refine Q.run zm13 2 (i' := 16) (ls' := [some (.ref 78), some (.int x1), some (.int x2), some (.ref 148), none]) (st' := [.int 0]) rfl ?_
  cases h
  exact Q.ret (A.ri zm13 (show zM13.2.2.2.2.2[16]? = some (25, 1, .ireturn, []) from rfl) rfl rfl) hl4
def dm13 (x1 : Int32) (x2 : Int32) (s : aS) : Option (Int32 × aS) :=
  bv (dm163 x1 x2 s) fun z4 s3 =>
  zN z4 (fun v5 =>
    vI v5 fun r7 =>
    if r7 = 0 then
      dm13_10 0 0 s3
    else
      dm13_10 0 1 s3
  ) fun e6 =>
    if e6 = 2 then
      some (1, s3)
    else
      none
set_option maxRecDepth 100000 in
theorem dt13 {sio : Bool} {tt : Nat} {cc : Nat → Nat → Int32} {d : Nat} (hd : 10 ≤ d) {x1 : Int32} {x2 : Int32} {s : aS} (hl : Ly tt cc s) {o : Int32 × aS} (h : dm13  x1 x2 s = some o) : Q 1 sio tt cc d 13 0 [some (.ref 78), some (.int x1), some (.int x2), some (.ref 148), none] [] s (.inl (some (.int o.1)), o.2) := by
  unfold dm13 at h
  obtain ⟨d, rfl⟩ : ∃ e, d = e + 1 := ⟨d - 1, by omega⟩
  refine Q.run zm13 5 (i' := 5) (ls' := [some (.ref 78), some (.int x1), some (.int x2), some (.ref 148), none]) (st' := [.int x2, .int x1, .ref 78, .int 0, .ref 148]) rfl ?_
  obtain ⟨z4, s3, hc2, h⟩ := bv_so h
  have hq1 : Q 1 sio tt cc d 163 0 [some (.ref 78), some (.int x1), some (.int x2), none, none] [] s (z4, s3) := dt163 (by omega) hl  hc2
  rcases zN_so h with ⟨v5, hz10, h8⟩ | ⟨e6, hz10, h8⟩
  · clear h
    subst hz10
    have h := h8
    obtain ⟨r7, hv8, h9⟩ := vI_so h
    clear h
    subst hv8
    have h := h9
    refine Q.callI (gC_vi zm13 (show zM13.2.2.2.2.2[5]? = some (5, 3, .invokevirtual 58, [0, 163, 2, 0]) from rfl) zm163 (hl.lt (a := 78) (by decide)) (hl.T (a := 78) (p := (0, 7)) 0 rfl rfl) rfl (show aCr 2 78 [.int x2, .int x1, .ref 78, .int 0, .ref 148] 5 = some ([some (.ref 78), some (.int x1), some (.int x2), none, none], [.int 0, .ref 148]) from rfl)) hq1 ?_
    by_cases hc9 : r7 = 0
    · rw [if_pos hc9] at h
      refine Q.map (A.zT (gI_of zm13 (e := (8, 3, .ifCond .eq 7, [9])) rfl) (decide_eq_true hc9)) ?_
      refine Q.run zm13 1 (i' := 10) (ls' := [some (.ref 78), some (.int x1), some (.int x2), some (.ref 148), none]) (st' := [.long 0, .int 0, .ref 148]) rfl ?_
      exact dt13_10 hd hq1.1  h
    · rw [if_neg hc9] at h
      refine Q.map (A.zF (gI_of zm13 (e := (8, 3, .ifCond .eq 7, [9])) rfl) (fun q => hc9 (of_decide_eq_true q))) ?_
      refine Q.run zm13 2 (i' := 10) (ls' := [some (.ref 78), some (.int x1), some (.int x2), some (.ref 148), none]) (st' := [.long 1, .int 0, .ref 148]) rfl ?_
      exact dt13_10 hd hq1.1  h
  · clear h
    subst hz10
    have h := h8
    by_cases hc11 : e6 = 2
    · rw [if_pos hc11] at h
      subst hc11
      refine Q.hc (gC_vi zm13 (show zM13.2.2.2.2.2[5]? = some (5, 3, .invokevirtual 58, [0, 163, 2, 0]) from rfl) zm163 (hl.lt (a := 78) (by decide)) (hl.T (a := 78) (p := (0, 7)) 0 rfl rfl) rfl (show aCr 2 78 [.int x2, .int x1, .ref 78, .int 0, .ref 148] 5 = some ([some (.ref 78), some (.int x1), some (.int x2), none, none], [.int 0, .ref 148]) from rfl)) hq1 (t := 12) rfl ?_
      refine Q.run zm13 2 (i' := 14) (ls' := [some (.ref 78), some (.int x1), some (.int x2), some (.ref 148), some (.ref (sL s3 - 1))]) (st' := [.int 1]) rfl ?_
      cases h
      exact Q.ret (A.ri zm13 (show zM13.2.2.2.2.2[14]? = some (23, 1, .ireturn, []) from rfl) rfl rfl) hq1.1
    · rw [if_neg hc11] at h
      cases h
/-! 248 FormulaTreesModel.same(II)Z -/
set_option maxRecDepth 100000 in
theorem zm248 : zP[248]? = some zM248 := rfl
def dm248_104 (k31 : Int32 → Int32 → Int32 → Int32 → aS → Option (Int32 × aS)) (x1 : Int32) (x2 : Int32) (x3 : Int32) (x4 : Int32) (s : aS) : Option (Int32 × aS) :=
  k31 x1 x2 x3 (x4 + 1) s
set_option maxRecDepth 100000 in
theorem dt248_104 {sio : Bool} {tt : Nat} {cc : Nat → Nat → Int32} {d : Nat} (hd : 1 ≤ d) {k31 : Int32 → Int32 → Int32 → Int32 → aS → Option (Int32 × aS)} (hk31 : ∀ {x1 : Int32} {x2 : Int32} {x3 : Int32} {x4 : Int32} {g5 : Option Value} {g6 : Option Value} {g7 : Option Value} {s : aS}, Ly tt cc s → ∀ {o : Int32 × aS}, k31 x1 x2 x3 x4 s = some o → Q 2 sio tt cc d 248 31 [some (.ref 121), some (.int x1), some (.int x2), some (.int x3), some (.int x4), g5, g6, g7] [] s (.inl (some (.int o.1)), o.2)) {x1 : Int32} {x2 : Int32} {x3 : Int32} {x4 : Int32} {x5 : Int32} {x6 : Int32} {x7 : Int32} {s : aS} (hl : Ly tt cc s) {o : Int32 × aS} (h : dm248_104 k31 x1 x2 x3 x4 s = some o) : Q 2 sio tt cc d 248 104 [some (.ref 121), some (.int x1), some (.int x2), some (.int x3), some (.int x4), some (.int x5), some (.int x6), some (.int x7)] [] s (.inl (some (.int o.1)), o.2) := by
  unfold dm248_104 at h
  obtain ⟨d, rfl⟩ : ∃ e, d = e + 1 := ⟨d - 1, by omega⟩
  refine Q.run zm248 2 (i' := 31) (ls' := [some (.ref 121), some (.int x1), some (.int x2), some (.int x3), some (.int (x4 + 1)), some (.int x5), some (.int x6), some (.int x7)]) (st' := []) rfl ?_
  exact hk31 hl  h
def dm248_101 (k31 : Int32 → Int32 → Int32 → Int32 → aS → Option (Int32 × aS)) (k73 : Int32 → Int32 → Int32 → Int32 → Int32 → Int32 → Int32 → aS → Option (Int32 × aS)) (x1 : Int32) (x2 : Int32) (x4 : Int32) (x5 : Int32) (x6 : Int32) (x7 : Int32) (y0 : Int32) (s : aS) : Option (Int32 × aS) :=
  k73 x1 x2 y0 x4 x5 x6 (x7 + 1) s
set_option maxRecDepth 100000 in
theorem dt248_101 {sio : Bool} {tt : Nat} {cc : Nat → Nat → Int32} {d : Nat} (hd : 1 ≤ d) {k31 : Int32 → Int32 → Int32 → Int32 → aS → Option (Int32 × aS)} (hk31 : ∀ {x1 : Int32} {x2 : Int32} {x3 : Int32} {x4 : Int32} {g5 : Option Value} {g6 : Option Value} {g7 : Option Value} {s : aS}, Ly tt cc s → ∀ {o : Int32 × aS}, k31 x1 x2 x3 x4 s = some o → Q 2 sio tt cc d 248 31 [some (.ref 121), some (.int x1), some (.int x2), some (.int x3), some (.int x4), g5, g6, g7] [] s (.inl (some (.int o.1)), o.2)) {k73 : Int32 → Int32 → Int32 → Int32 → Int32 → Int32 → Int32 → aS → Option (Int32 × aS)} (hk73 : ∀ {x1 : Int32} {x2 : Int32} {x3 : Int32} {x4 : Int32} {x5 : Int32} {x6 : Int32} {x7 : Int32} {s : aS}, Ly tt cc s → ∀ {o : Int32 × aS}, k73 x1 x2 x3 x4 x5 x6 x7 s = some o → Q 2 sio tt cc d 248 73 [some (.ref 121), some (.int x1), some (.int x2), some (.int x3), some (.int x4), some (.int x5), some (.int x6), some (.int x7)] [] s (.inl (some (.int o.1)), o.2)) {x1 : Int32} {x2 : Int32} {x4 : Int32} {x5 : Int32} {x6 : Int32} {x7 : Int32} {y0 : Int32} {x3 : Int32} {s : aS} (hl : Ly tt cc s) {o : Int32 × aS} (h : dm248_101 k31 k73 x1 x2 x4 x5 x6 x7 y0 s = some o) : Q 2 sio tt cc d 248 101 [some (.ref 121), some (.int x1), some (.int x2), some (.int x3), some (.int x4), some (.int x5), some (.int x6), some (.int x7)] [.int y0] s (.inl (some (.int o.1)), o.2) := by
  unfold dm248_101 at h
  obtain ⟨d, rfl⟩ : ∃ e, d = e + 1 := ⟨d - 1, by omega⟩
  refine Q.run zm248 3 (i' := 73) (ls' := [some (.ref 121), some (.int x1), some (.int x2), some (.int y0), some (.int x4), some (.int x5), some (.int x6), some (.int (x7 + 1))]) (st' := []) rfl ?_
  exact hk73 hl  h
def dm248_68 (k31 : Int32 → Int32 → Int32 → Int32 → aS → Option (Int32 × aS)) (k51 : Int32 → Int32 → Int32 → Int32 → Int32 → Int32 → Int32 → aS → Option (Int32 × aS)) (x1 : Int32) (x2 : Int32) (x4 : Int32) (x5 : Int32) (x6 : Int32) (x7 : Int32) (y0 : Int32) (s : aS) : Option (Int32 × aS) :=
  k51 x1 x2 y0 x4 x5 x6 (x7 + 1) s
set_option maxRecDepth 100000 in
theorem dt248_68 {sio : Bool} {tt : Nat} {cc : Nat → Nat → Int32} {d : Nat} (hd : 1 ≤ d) {k31 : Int32 → Int32 → Int32 → Int32 → aS → Option (Int32 × aS)} (hk31 : ∀ {x1 : Int32} {x2 : Int32} {x3 : Int32} {x4 : Int32} {g5 : Option Value} {g6 : Option Value} {g7 : Option Value} {s : aS}, Ly tt cc s → ∀ {o : Int32 × aS}, k31 x1 x2 x3 x4 s = some o → Q 2 sio tt cc d 248 31 [some (.ref 121), some (.int x1), some (.int x2), some (.int x3), some (.int x4), g5, g6, g7] [] s (.inl (some (.int o.1)), o.2)) {k51 : Int32 → Int32 → Int32 → Int32 → Int32 → Int32 → Int32 → aS → Option (Int32 × aS)} (hk51 : ∀ {x1 : Int32} {x2 : Int32} {x3 : Int32} {x4 : Int32} {x5 : Int32} {x6 : Int32} {x7 : Int32} {s : aS}, Ly tt cc s → ∀ {o : Int32 × aS}, k51 x1 x2 x3 x4 x5 x6 x7 s = some o → Q 2 sio tt cc d 248 51 [some (.ref 121), some (.int x1), some (.int x2), some (.int x3), some (.int x4), some (.int x5), some (.int x6), some (.int x7)] [] s (.inl (some (.int o.1)), o.2)) {x1 : Int32} {x2 : Int32} {x4 : Int32} {x5 : Int32} {x6 : Int32} {x7 : Int32} {y0 : Int32} {x3 : Int32} {s : aS} (hl : Ly tt cc s) {o : Int32 × aS} (h : dm248_68 k31 k51 x1 x2 x4 x5 x6 x7 y0 s = some o) : Q 2 sio tt cc d 248 68 [some (.ref 121), some (.int x1), some (.int x2), some (.int x3), some (.int x4), some (.int x5), some (.int x6), some (.int x7)] [.int y0] s (.inl (some (.int o.1)), o.2) := by
  unfold dm248_68 at h
  obtain ⟨d, rfl⟩ : ∃ e, d = e + 1 := ⟨d - 1, by omega⟩
  refine Q.run zm248 3 (i' := 51) (ls' := [some (.ref 121), some (.int x1), some (.int x2), some (.int y0), some (.int x4), some (.int x5), some (.int x6), some (.int (x7 + 1))]) (st' := []) rfl ?_
  exact hk51 hl  h
def dm248_87 (k31 : Int32 → Int32 → Int32 → Int32 → aS → Option (Int32 × aS)) (k73 : Int32 → Int32 → Int32 → Int32 → Int32 → Int32 → Int32 → aS → Option (Int32 × aS)) (x1 : Int32) (x2 : Int32) (x4 : Int32) (x5 : Int32) (x6 : Int32) (x7 : Int32) (s : aS) : Option (Int32 × aS) :=
  bu (dm247 x1 x5 x7 s) fun r3 =>
  bu (dm247 x2 x6 x7 s) fun r6 =>
  if r3 = r6 then
    dm248_101 k31 k73 x1 x2 x4 x5 x6 x7 1 s
  else
    dm248_101 k31 k73 x1 x2 x4 x5 x6 x7 0 s
set_option maxRecDepth 100000 in
theorem dt248_87 {sio : Bool} {tt : Nat} {cc : Nat → Nat → Int32} {d : Nat} (hd : 1 ≤ d) {k31 : Int32 → Int32 → Int32 → Int32 → aS → Option (Int32 × aS)} (hk31 : ∀ {x1 : Int32} {x2 : Int32} {x3 : Int32} {x4 : Int32} {g5 : Option Value} {g6 : Option Value} {g7 : Option Value} {s : aS}, Ly tt cc s → ∀ {o : Int32 × aS}, k31 x1 x2 x3 x4 s = some o → Q 2 sio tt cc d 248 31 [some (.ref 121), some (.int x1), some (.int x2), some (.int x3), some (.int x4), g5, g6, g7] [] s (.inl (some (.int o.1)), o.2)) {k73 : Int32 → Int32 → Int32 → Int32 → Int32 → Int32 → Int32 → aS → Option (Int32 × aS)} (hk73 : ∀ {x1 : Int32} {x2 : Int32} {x3 : Int32} {x4 : Int32} {x5 : Int32} {x6 : Int32} {x7 : Int32} {s : aS}, Ly tt cc s → ∀ {o : Int32 × aS}, k73 x1 x2 x3 x4 x5 x6 x7 s = some o → Q 2 sio tt cc d 248 73 [some (.ref 121), some (.int x1), some (.int x2), some (.int x3), some (.int x4), some (.int x5), some (.int x6), some (.int x7)] [] s (.inl (some (.int o.1)), o.2)) {x1 : Int32} {x2 : Int32} {x4 : Int32} {x5 : Int32} {x6 : Int32} {x7 : Int32} {x3 : Int32} {s : aS} (hl : Ly tt cc s) {o : Int32 × aS} (h : dm248_87 k31 k73 x1 x2 x4 x5 x6 x7 s = some o) : Q 2 sio tt cc d 248 87 [some (.ref 121), some (.int x1), some (.int x2), some (.int x3), some (.int x4), some (.int x5), some (.int x6), some (.int x7)] [] s (.inl (some (.int o.1)), o.2) := by
  unfold dm248_87 at h
  obtain ⟨d, rfl⟩ : ∃ e, d = e + 1 := ⟨d - 1, by omega⟩
  refine Q.run zm248 4 (i' := 91) (ls' := [some (.ref 121), some (.int x1), some (.int x2), some (.int x3), some (.int x4), some (.int x5), some (.int x6), some (.int x7)]) (st' := [.int x7, .int x5, .int x1, .ref 121]) rfl ?_
  obtain ⟨r3, hc2, h⟩ := bu_so h
  have hq1 : Q 2 sio tt cc d 247 0 [some (.ref 121), some (.int x1), some (.int x5), some (.int x7), none, none, none, none] [] s (.inl (some (.int r3)), s) := dt247 (by omega) hl  hc2
  refine Q.callI (gC_vi zm248 (show zM248.2.2.2.2.2[91]? = some (167, 3, .invokevirtual 371, [0, 247, 3, 9]) from rfl) zm247 (hl.lt (a := 121) (by decide)) (hl.T (a := 121) (p := (9, 45)) 43 rfl rfl) rfl (show aCr 3 121 [.int x7, .int x5, .int x1, .ref 121] 8 = some ([some (.ref 121), some (.int x1), some (.int x5), some (.int x7), none, none, none, none], []) from rfl)) hq1 ?_
  refine Q.run zm248 4 (i' := 96) (ls' := [some (.ref 121), some (.int x1), some (.int x2), some (.int x3), some (.int x4), some (.int x5), some (.int x6), some (.int x7)]) (st' := [.int x7, .int x6, .int x2, .ref 121, .int r3]) rfl ?_
  obtain ⟨r6, hc5, h⟩ := bu_so h
  have hq4 : Q 2 sio tt cc d 247 0 [some (.ref 121), some (.int x2), some (.int x6), some (.int x7), none, none, none, none] [] s (.inl (some (.int r6)), s) := dt247 (by omega) hl  hc5
  refine Q.callI (gC_vi zm248 (show zM248.2.2.2.2.2[96]? = some (176, 3, .invokevirtual 371, [0, 247, 3, 9]) from rfl) zm247 (hl.lt (a := 121) (by decide)) (hl.T (a := 121) (p := (9, 45)) 43 rfl rfl) rfl (show aCr 3 121 [.int x7, .int x6, .int x2, .ref 121, .int r3] 8 = some ([some (.ref 121), some (.int x2), some (.int x6), some (.int x7), none, none, none, none], [.int r3]) from rfl)) hq4 ?_
  by_cases hc7 : r3 = r6
  · rw [if_pos hc7] at h
    refine Q.map (A.bF (gI_of zm248 (e := (179, 3, .if_icmp .ne 7, [100])) rfl) (fun q => of_decide_eq_true q hc7)) ?_
    refine Q.run zm248 2 (i' := 101) (ls' := [some (.ref 121), some (.int x1), some (.int x2), some (.int x3), some (.int x4), some (.int x5), some (.int x6), some (.int x7)]) (st' := [.int 1]) rfl ?_
    exact dt248_101 hd hk31 hk73 hl  h
  · rw [if_neg hc7] at h
    refine Q.map (A.bT (gI_of zm248 (e := (179, 3, .if_icmp .ne 7, [100])) rfl) (decide_eq_true hc7)) ?_
    refine Q.run zm248 1 (i' := 101) (ls' := [some (.ref 121), some (.int x1), some (.int x2), some (.int x3), some (.int x4), some (.int x5), some (.int x6), some (.int x7)]) (st' := [.int 0]) rfl ?_
    exact dt248_101 hd hk31 hk73 hl  h
def dm248_67 (k31 : Int32 → Int32 → Int32 → Int32 → aS → Option (Int32 × aS)) (k51 : Int32 → Int32 → Int32 → Int32 → Int32 → Int32 → Int32 → aS → Option (Int32 × aS)) (x1 : Int32) (x2 : Int32) (x4 : Int32) (x5 : Int32) (x6 : Int32) (x7 : Int32) (s : aS) : Option (Int32 × aS) :=
  dm248_68 k31 k51 x1 x2 x4 x5 x6 x7 0 s
set_option maxRecDepth 100000 in
theorem dt248_67 {sio : Bool} {tt : Nat} {cc : Nat → Nat → Int32} {d : Nat} (hd : 1 ≤ d) {k31 : Int32 → Int32 → Int32 → Int32 → aS → Option (Int32 × aS)} (hk31 : ∀ {x1 : Int32} {x2 : Int32} {x3 : Int32} {x4 : Int32} {g5 : Option Value} {g6 : Option Value} {g7 : Option Value} {s : aS}, Ly tt cc s → ∀ {o : Int32 × aS}, k31 x1 x2 x3 x4 s = some o → Q 2 sio tt cc d 248 31 [some (.ref 121), some (.int x1), some (.int x2), some (.int x3), some (.int x4), g5, g6, g7] [] s (.inl (some (.int o.1)), o.2)) {k51 : Int32 → Int32 → Int32 → Int32 → Int32 → Int32 → Int32 → aS → Option (Int32 × aS)} (hk51 : ∀ {x1 : Int32} {x2 : Int32} {x3 : Int32} {x4 : Int32} {x5 : Int32} {x6 : Int32} {x7 : Int32} {s : aS}, Ly tt cc s → ∀ {o : Int32 × aS}, k51 x1 x2 x3 x4 x5 x6 x7 s = some o → Q 2 sio tt cc d 248 51 [some (.ref 121), some (.int x1), some (.int x2), some (.int x3), some (.int x4), some (.int x5), some (.int x6), some (.int x7)] [] s (.inl (some (.int o.1)), o.2)) {x1 : Int32} {x2 : Int32} {x4 : Int32} {x5 : Int32} {x6 : Int32} {x7 : Int32} {x3 : Int32} {s : aS} (hl : Ly tt cc s) {o : Int32 × aS} (h : dm248_67 k31 k51 x1 x2 x4 x5 x6 x7 s = some o) : Q 2 sio tt cc d 248 67 [some (.ref 121), some (.int x1), some (.int x2), some (.int x3), some (.int x4), some (.int x5), some (.int x6), some (.int x7)] [] s (.inl (some (.int o.1)), o.2) := by
  unfold dm248_67 at h
  obtain ⟨d, rfl⟩ : ∃ e, d = e + 1 := ⟨d - 1, by omega⟩
  refine Q.run zm248 1 (i' := 68) (ls' := [some (.ref 121), some (.int x1), some (.int x2), some (.int x3), some (.int x4), some (.int x5), some (.int x6), some (.int x7)]) (st' := [.int 0]) rfl ?_
  exact dt248_68 hd hk31 hk51 hl  h
def dm248_73 (k31 : Int32 → Int32 → Int32 → Int32 → aS → Option (Int32 × aS)) : Nat → Int32 → Int32 → Int32 → Int32 → Int32 → Int32 → Int32 → aS → Option (Int32 × aS)
  | 0, _, _, _, _, _, _, _, _ => none
  | n + 1, x1, x2, x3, x4, x5, x6, x7, s =>
    if x3 = 0 then
      dm248_104 k31 x1 x2 x3 x4 s
    else
      bu (dm247 x1 x5 x7 s) fun r4 =>
      if 0 ≤ r4 then
        dm248_87 k31 (dm248_73 k31 n) x1 x2 x4 x5 x6 x7 s
      else
        bu (dm247 x2 x6 x7 s) fun r8 =>
        if r8 < 0 then
          dm248_104 k31 x1 x2 x3 x4 s
        else
          dm248_87 k31 (dm248_73 k31 n) x1 x2 x4 x5 x6 x7 s
set_option maxRecDepth 100000 in
theorem dt248_73 {sio : Bool} {tt : Nat} {cc : Nat → Nat → Int32} {d : Nat} (hd : 1 ≤ d) {k31 : Int32 → Int32 → Int32 → Int32 → aS → Option (Int32 × aS)} (hk31 : ∀ {x1 : Int32} {x2 : Int32} {x3 : Int32} {x4 : Int32} {g5 : Option Value} {g6 : Option Value} {g7 : Option Value} {s : aS}, Ly tt cc s → ∀ {o : Int32 × aS}, k31 x1 x2 x3 x4 s = some o → Q 2 sio tt cc d 248 31 [some (.ref 121), some (.int x1), some (.int x2), some (.int x3), some (.int x4), g5, g6, g7] [] s (.inl (some (.int o.1)), o.2)) : ∀ (n : Nat) {x1 : Int32} {x2 : Int32} {x3 : Int32} {x4 : Int32} {x5 : Int32} {x6 : Int32} {x7 : Int32} {s : aS} (_ : Ly tt cc s) {o : Int32 × aS} (_ : dm248_73 k31 n x1 x2 x3 x4 x5 x6 x7 s = some o), Q 2 sio tt cc d 248 73 [some (.ref 121), some (.int x1), some (.int x2), some (.int x3), some (.int x4), some (.int x5), some (.int x6), some (.int x7)] [] s (.inl (some (.int o.1)), o.2) := by
  obtain ⟨d, rfl⟩ : ∃ e, d = e + 1 := ⟨d - 1, by omega⟩
  intro n
  induction n with
  | zero => intro x1 x2 x3 x4 x5 x6 x7 s hl o h; rw [dm248_73] at h; cases h
  | succ n ih =>
    intro x1 x2 x3 x4 x5 x6 x7 s hl o h
    rw [dm248_73] at h
    refine Q.run zm248 1 (i' := 74) (ls' := [some (.ref 121), some (.int x1), some (.int x2), some (.int x3), some (.int x4), some (.int x5), some (.int x6), some (.int x7)]) (st' := [.int x3]) rfl ?_
    by_cases hc1 : x3 = 0
    · rw [if_pos hc1] at h
      refine Q.map (A.zT (gI_of zm248 (e := (134, 3, .ifCond .eq 60, [104])) rfl) (decide_eq_true hc1)) ?_
      exact dt248_104 hd hk31 hl  h
    · rw [if_neg hc1] at h
      refine Q.map (A.zF (gI_of zm248 (e := (134, 3, .ifCond .eq 60, [104])) rfl) (fun q => hc1 (of_decide_eq_true q))) ?_
      refine Q.run zm248 4 (i' := 79) (ls' := [some (.ref 121), some (.int x1), some (.int x2), some (.int x3), some (.int x4), some (.int x5), some (.int x6), some (.int x7)]) (st' := [.int x7, .int x5, .int x1, .ref 121]) rfl ?_
      obtain ⟨r4, hc3, h⟩ := bu_so h
      have hq2 : Q 2 sio tt cc d 247 0 [some (.ref 121), some (.int x1), some (.int x5), some (.int x7), none, none, none, none] [] s (.inl (some (.int r4)), s) := dt247 (by omega) hl  hc3
      refine Q.callI (gC_vi zm248 (show zM248.2.2.2.2.2[79]? = some (143, 3, .invokevirtual 371, [0, 247, 3, 9]) from rfl) zm247 (hl.lt (a := 121) (by decide)) (hl.T (a := 121) (p := (9, 45)) 43 rfl rfl) rfl (show aCr 3 121 [.int x7, .int x5, .int x1, .ref 121] 8 = some ([some (.ref 121), some (.int x1), some (.int x5), some (.int x7), none, none, none, none], []) from rfl)) hq2 ?_
      by_cases hc5 : 0 ≤ r4
      · rw [if_pos hc5] at h
        refine Q.map (A.zT (gI_of zm248 (e := (146, 3, .ifCond .ge 15, [87])) rfl) (decide_eq_true hc5)) ?_
        exact dt248_87 hd hk31 ih hl  h
      · rw [if_neg hc5] at h
        refine Q.map (A.zF (gI_of zm248 (e := (146, 3, .ifCond .ge 15, [87])) rfl) (fun q => hc5 (of_decide_eq_true q))) ?_
        refine Q.run zm248 4 (i' := 85) (ls' := [some (.ref 121), some (.int x1), some (.int x2), some (.int x3), some (.int x4), some (.int x5), some (.int x6), some (.int x7)]) (st' := [.int x7, .int x6, .int x2, .ref 121]) rfl ?_
        obtain ⟨r8, hc7, h⟩ := bu_so h
        have hq6 : Q 2 sio tt cc d 247 0 [some (.ref 121), some (.int x2), some (.int x6), some (.int x7), none, none, none, none] [] s (.inl (some (.int r8)), s) := dt247 (by omega) hl  hc7
        refine Q.callI (gC_vi zm248 (show zM248.2.2.2.2.2[85]? = some (155, 3, .invokevirtual 371, [0, 247, 3, 9]) from rfl) zm247 (hl.lt (a := 121) (by decide)) (hl.T (a := 121) (p := (9, 45)) 43 rfl rfl) rfl (show aCr 3 121 [.int x7, .int x6, .int x2, .ref 121] 8 = some ([some (.ref 121), some (.int x2), some (.int x6), some (.int x7), none, none, none, none], []) from rfl)) hq6 ?_
        by_cases hc9 : r8 < 0
        · rw [if_pos hc9] at h
          refine Q.map (A.zT (gI_of zm248 (e := (158, 3, .ifCond .lt 36, [104])) rfl) (decide_eq_true hc9)) ?_
          exact dt248_104 hd hk31 hl  h
        · rw [if_neg hc9] at h
          refine Q.map (A.zF (gI_of zm248 (e := (158, 3, .ifCond .lt 36, [104])) rfl) (fun q => hc9 (of_decide_eq_true q))) ?_
          exact dt248_87 hd hk31 ih hl  h
def dm248_51 (k31 : Int32 → Int32 → Int32 → Int32 → aS → Option (Int32 × aS)) : Nat → Int32 → Int32 → Int32 → Int32 → Int32 → Int32 → Int32 → aS → Option (Int32 × aS)
  | 0, _, _, _, _, _, _, _, _ => none
  | n + 1, x1, x2, x3, x4, x5, x6, x7, s =>
    if 9 ≤ x7 then
      dm248_73 k31 5000 x1 x2 x3 x4 x5 x6 0 s
    else
      if x3 = 0 then
        dm248_67 k31 (dm248_51 k31 n) x1 x2 x4 x5 x6 x7 s
      else
        bu (dm245 x5 x7 s) fun r5 =>
        bu (dm245 x6 x7 s) fun r8 =>
        if r5 = r8 then
          dm248_68 k31 (dm248_51 k31 n) x1 x2 x4 x5 x6 x7 1 s
        else
          dm248_67 k31 (dm248_51 k31 n) x1 x2 x4 x5 x6 x7 s
set_option maxRecDepth 100000 in
theorem dt248_51 {sio : Bool} {tt : Nat} {cc : Nat → Nat → Int32} {d : Nat} (hd : 1 ≤ d) {k31 : Int32 → Int32 → Int32 → Int32 → aS → Option (Int32 × aS)} (hk31 : ∀ {x1 : Int32} {x2 : Int32} {x3 : Int32} {x4 : Int32} {g5 : Option Value} {g6 : Option Value} {g7 : Option Value} {s : aS}, Ly tt cc s → ∀ {o : Int32 × aS}, k31 x1 x2 x3 x4 s = some o → Q 2 sio tt cc d 248 31 [some (.ref 121), some (.int x1), some (.int x2), some (.int x3), some (.int x4), g5, g6, g7] [] s (.inl (some (.int o.1)), o.2)) : ∀ (n : Nat) {x1 : Int32} {x2 : Int32} {x3 : Int32} {x4 : Int32} {x5 : Int32} {x6 : Int32} {x7 : Int32} {s : aS} (_ : Ly tt cc s) {o : Int32 × aS} (_ : dm248_51 k31 n x1 x2 x3 x4 x5 x6 x7 s = some o), Q 2 sio tt cc d 248 51 [some (.ref 121), some (.int x1), some (.int x2), some (.int x3), some (.int x4), some (.int x5), some (.int x6), some (.int x7)] [] s (.inl (some (.int o.1)), o.2) := by
  obtain ⟨d, rfl⟩ : ∃ e, d = e + 1 := ⟨d - 1, by omega⟩
  intro n
  induction n with
  | zero => intro x1 x2 x3 x4 x5 x6 x7 s hl o h; rw [dm248_51] at h; cases h
  | succ n ih =>
    intro x1 x2 x3 x4 x5 x6 x7 s hl o h
    rw [dm248_51] at h
    refine Q.run zm248 2 (i' := 53) (ls' := [some (.ref 121), some (.int x1), some (.int x2), some (.int x3), some (.int x4), some (.int x5), some (.int x6), some (.int x7)]) (st' := [.int 9, .int x7]) rfl ?_
    by_cases hc1 : 9 ≤ x7
    · rw [if_pos hc1] at h
      refine Q.map (A.bT (gI_of zm248 (e := (92, 3, .if_icmp .ge 38, [71])) rfl) (decide_eq_true hc1)) ?_
      refine Q.run zm248 2 (i' := 73) (ls' := [some (.ref 121), some (.int x1), some (.int x2), some (.int x3), some (.int x4), some (.int x5), some (.int x6), some (.int 0)]) (st' := []) rfl ?_
      exact dt248_73 hd hk31 _ hl  h
    · rw [if_neg hc1] at h
      refine Q.map (A.bF (gI_of zm248 (e := (92, 3, .if_icmp .ge 38, [71])) rfl) (fun q => hc1 (of_decide_eq_true q))) ?_
      refine Q.run zm248 1 (i' := 55) (ls' := [some (.ref 121), some (.int x1), some (.int x2), some (.int x3), some (.int x4), some (.int x5), some (.int x6), some (.int x7)]) (st' := [.int x3]) rfl ?_
      by_cases hc2 : x3 = 0
      · rw [if_pos hc2] at h
        refine Q.map (A.zT (gI_of zm248 (e := (96, 3, .ifCond .eq 26, [67])) rfl) (decide_eq_true hc2)) ?_
        exact dt248_67 hd hk31 ih hl  h
      · rw [if_neg hc2] at h
        refine Q.map (A.zF (gI_of zm248 (e := (96, 3, .ifCond .eq 26, [67])) rfl) (fun q => hc2 (of_decide_eq_true q))) ?_
        refine Q.run zm248 3 (i' := 59) (ls' := [some (.ref 121), some (.int x1), some (.int x2), some (.int x3), some (.int x4), some (.int x5), some (.int x6), some (.int x7)]) (st' := [.int x7, .int x5, .ref 121]) rfl ?_
        obtain ⟨r5, hc4, h⟩ := bu_so h
        have hq3 : Q 2 sio tt cc d 245 0 [some (.ref 121), some (.int x5), some (.int x7)] [] s (.inl (some (.int r5)), s) := dt245 (by omega) hl  hc4
        refine Q.callI (gC_vi zm248 (show zM248.2.2.2.2.2[59]? = some (104, 3, .invokevirtual 368, [0, 245, 2, 9]) from rfl) zm245 (hl.lt (a := 121) (by decide)) (hl.T (a := 121) (p := (9, 45)) 43 rfl rfl) rfl (show aCr 2 121 [.int x7, .int x5, .ref 121] 3 = some ([some (.ref 121), some (.int x5), some (.int x7)], []) from rfl)) hq3 ?_
        refine Q.run zm248 3 (i' := 63) (ls' := [some (.ref 121), some (.int x1), some (.int x2), some (.int x3), some (.int x4), some (.int x5), some (.int x6), some (.int x7)]) (st' := [.int x7, .int x6, .ref 121, .int r5]) rfl ?_
        obtain ⟨r8, hc7, h⟩ := bu_so h
        have hq6 : Q 2 sio tt cc d 245 0 [some (.ref 121), some (.int x6), some (.int x7)] [] s (.inl (some (.int r8)), s) := dt245 (by omega) hl  hc7
        refine Q.callI (gC_vi zm248 (show zM248.2.2.2.2.2[63]? = some (112, 3, .invokevirtual 368, [0, 245, 2, 9]) from rfl) zm245 (hl.lt (a := 121) (by decide)) (hl.T (a := 121) (p := (9, 45)) 43 rfl rfl) rfl (show aCr 2 121 [.int x7, .int x6, .ref 121, .int r5] 3 = some ([some (.ref 121), some (.int x6), some (.int x7)], [.int r5]) from rfl)) hq6 ?_
        by_cases hc9 : r5 = r8
        · rw [if_pos hc9] at h
          refine Q.map (A.bF (gI_of zm248 (e := (115, 3, .if_icmp .ne 7, [67])) rfl) (fun q => of_decide_eq_true q hc9)) ?_
          refine Q.run zm248 2 (i' := 68) (ls' := [some (.ref 121), some (.int x1), some (.int x2), some (.int x3), some (.int x4), some (.int x5), some (.int x6), some (.int x7)]) (st' := [.int 1]) rfl ?_
          exact dt248_68 hd hk31 ih hl  h
        · rw [if_neg hc9] at h
          refine Q.map (A.bT (gI_of zm248 (e := (115, 3, .if_icmp .ne 7, [67])) rfl) (decide_eq_true hc9)) ?_
          exact dt248_67 hd hk31 ih hl  h
def dm248_31 : Nat → Int32 → Int32 → Int32 → Int32 → aS → Option (Int32 × aS)
  | 0, _, _, _, _, _ => none
  | n + 1, x1, x2, x3, x4, s =>
    if aB x1 9 then
      if (sI s 127 (jN x1)) ≤ x4 then
        if x3 = 0 ∨ x3 = 1 then
          some (x3, s)
        else none
      else
        dm248_51 (dm248_31 n) 5000 x1 x2 x3 x4 ((128 * x1) + x4) ((128 * x2) + x4) 0 s
    else none
set_option maxRecDepth 100000 in
theorem dt248_31 {sio : Bool} {tt : Nat} {cc : Nat → Nat → Int32} {d : Nat} (hd : 1 ≤ d) : ∀ (n : Nat) {x1 : Int32} {x2 : Int32} {x3 : Int32} {x4 : Int32} {g5 : Option Value} {g6 : Option Value} {g7 : Option Value} {s : aS} (_ : Ly tt cc s) {o : Int32 × aS} (_ : dm248_31  n x1 x2 x3 x4 s = some o), Q 2 sio tt cc d 248 31 [some (.ref 121), some (.int x1), some (.int x2), some (.int x3), some (.int x4), g5, g6, g7] [] s (.inl (some (.int o.1)), o.2) := by
  obtain ⟨d, rfl⟩ : ∃ e, d = e + 1 := ⟨d - 1, by omega⟩
  intro n
  induction n with
  | zero => intro x1 x2 x3 x4 g5 g6 g7 s hl o h; rw [dm248_31] at h; cases h
  | succ n ih =>
    intro x1 x2 x3 x4 g5 g6 g7 s hl o h
    rw [dm248_31] at h
    refine Q.run zm248 2 (i' := 33) (ls' := [some (.ref 121), some (.int x1), some (.int x2), some (.int x3), some (.int x4), g5, g6, g7]) (st' := [.ref 121, .int x4]) rfl ?_
    refine Q.map (A.gf (gI_of zm248 (e := (57, 3, .getfield 26, [9, 8])) rfl) (hl.lt (a := 121) (by decide)) (hl.T (a := 121) (p := (9, 45)) 43 rfl rfl) (by decide) (hl.R 28 rfl)) ?_
    refine Q.run zm248 1 (i' := 35) (ls' := [some (.ref 121), some (.int x1), some (.int x2), some (.int x3), some (.int x4), g5, g6, g7]) (st' := [.int x1, .ref 127, .int x4]) rfl ?_
    obtain ⟨hc1, h⟩ := ite_so h
    refine Q.map (A.ia (gI_of zm248 (e := (61, 1, .iaload, [])) rfl) (hl.lt (a := 127) (by decide)) (hl.T (a := 127) (p := (100, 9)) 49 rfl rfl) hc1) ?_
    by_cases hc2 : (sI s 127 (jN x1)) ≤ x4
    · rw [if_pos hc2] at h
      refine Q.map (A.bT (gI_of zm248 (e := (62, 3, .if_icmp .ge 138, [106])) rfl) (decide_eq_true hc2)) ?_
      refine Q.run zm248 1 (i' := 107) (ls' := [some (.ref 121), some (.int x1), some (.int x2), some (.int x3), some (.int x4), g5, g6, g7]) (st' := [.int x3]) rfl ?_
      obtain ⟨hc3, h⟩ := ite_so h
      cases h
      exact Q.ret (A.ri zm248 (show zM248.2.2.2.2.2[107]? = some (201, 1, .ireturn, []) from rfl) rfl (fit1 hc3)) hl
    · rw [if_neg hc2] at h
      refine Q.map (A.bF (gI_of zm248 (e := (62, 3, .if_icmp .ge 138, [106])) rfl) (fun q => hc2 (of_decide_eq_true q))) ?_
      refine Q.run zm248 14 (i' := 51) (ls' := [some (.ref 121), some (.int x1), some (.int x2), some (.int x3), some (.int x4), some (.int ((128 * x1) + x4)), some (.int ((128 * x2) + x4)), some (.int 0)]) (st' := []) rfl ?_
      exact dt248_51 hd ih _ hl  h
def dm248_12 (x1 : Int32) (x2 : Int32) (y1 : Int32) (s : aS) : Option (Int32 × aS) :=
  nx (wI s 121 0 y1) fun s1 =>
  if 0 < (sI s1 121 0) then
    some (0, s1)
  else
    if aB x1 9 then
      if aB x2 9 then
        if (sI s1 127 (jN x1)) = (sI s1 127 (jN x2)) then
          dm248_31 5000 x1 x2 1 0 s1
        else
          some (0, s1)
      else none
    else none
set_option maxRecDepth 100000 in
theorem dt248_12 {sio : Bool} {tt : Nat} {cc : Nat → Nat → Int32} {d : Nat} (hd : 1 ≤ d) {x1 : Int32} {x2 : Int32} {y1 : Int32} {s : aS} (hl : Ly tt cc s) {o : Int32 × aS} (h : dm248_12  x1 x2 y1 s = some o) : Q 2 sio tt cc d 248 12 [some (.ref 121), some (.int x1), some (.int x2), none, none, none, none, none] [.int y1, .ref 121] s (.inl (some (.int o.1)), o.2) := by
  unfold dm248_12 at h
  obtain ⟨d, rfl⟩ : ∃ e, d = e + 1 := ⟨d - 1, by omega⟩
  obtain ⟨s1, hs2, h⟩ := nx_so h
  refine Q.pf hs2 rfl (gI_of zm248 (e := (22, 3, .putfield 89, [9, 0, 0])) rfl) (hl.lt (a := 121) (by decide)) (by decide) (hl.T (a := 121) (p := (9, 45)) 43 rfl rfl) (by decide) rfl rfl ?_
  have hl3 : Ly tt cc s1 := by rw [hs2]; exact hl.wId (by decide)
  refine Q.run zm248 1 (i' := 14) (ls' := [some (.ref 121), some (.int x1), some (.int x2), none, none, none, none, none]) (st' := [.ref 121]) rfl ?_
  refine Q.map (A.gf (gI_of zm248 (e := (26, 3, .getfield 89, [9, 0])) rfl) (hl3.lt (a := 121) (by decide)) (hl3.T (a := 121) (p := (9, 45)) 43 rfl rfl) (by decide) rfl) ?_
  by_cases hc4 : 0 < (sI s1 121 0)
  · rw [if_pos hc4] at h
    refine Q.map (A.zT (gI_of zm248 (e := (29, 3, .ifCond .gt 18, [25])) rfl) (decide_eq_true hc4)) ?_
    refine Q.run zm248 1 (i' := 26) (ls' := [some (.ref 121), some (.int x1), some (.int x2), none, none, none, none, none]) (st' := [.int 0]) rfl ?_
    cases h
    exact Q.ret (A.ri zm248 (show zM248.2.2.2.2.2[26]? = some (48, 1, .ireturn, []) from rfl) rfl rfl) hl3
  · rw [if_neg hc4] at h
    refine Q.map (A.zF (gI_of zm248 (e := (29, 3, .ifCond .gt 18, [25])) rfl) (fun q => hc4 (of_decide_eq_true q))) ?_
    refine Q.run zm248 1 (i' := 17) (ls' := [some (.ref 121), some (.int x1), some (.int x2), none, none, none, none, none]) (st' := [.ref 121]) rfl ?_
    refine Q.map (A.gf (gI_of zm248 (e := (33, 3, .getfield 26, [9, 8])) rfl) (hl3.lt (a := 121) (by decide)) (hl3.T (a := 121) (p := (9, 45)) 43 rfl rfl) (by decide) (hl3.R 28 rfl)) ?_
    refine Q.run zm248 1 (i' := 19) (ls' := [some (.ref 121), some (.int x1), some (.int x2), none, none, none, none, none]) (st' := [.int x1, .ref 127]) rfl ?_
    obtain ⟨hc5, h⟩ := ite_so h
    refine Q.map (A.ia (gI_of zm248 (e := (37, 1, .iaload, [])) rfl) (hl3.lt (a := 127) (by decide)) (hl3.T (a := 127) (p := (100, 9)) 49 rfl rfl) hc5) ?_
    refine Q.run zm248 1 (i' := 21) (ls' := [some (.ref 121), some (.int x1), some (.int x2), none, none, none, none, none]) (st' := [.ref 121, .int (sI s1 127 (jN x1))]) rfl ?_
    refine Q.map (A.gf (gI_of zm248 (e := (39, 3, .getfield 26, [9, 8])) rfl) (hl3.lt (a := 121) (by decide)) (hl3.T (a := 121) (p := (9, 45)) 43 rfl rfl) (by decide) (hl3.R 28 rfl)) ?_
    refine Q.run zm248 1 (i' := 23) (ls' := [some (.ref 121), some (.int x1), some (.int x2), none, none, none, none, none]) (st' := [.int x2, .ref 127, .int (sI s1 127 (jN x1))]) rfl ?_
    obtain ⟨hc6, h⟩ := ite_so h
    refine Q.map (A.ia (gI_of zm248 (e := (43, 1, .iaload, [])) rfl) (hl3.lt (a := 127) (by decide)) (hl3.T (a := 127) (p := (100, 9)) 49 rfl rfl) hc6) ?_
    by_cases hc7 : (sI s1 127 (jN x1)) = (sI s1 127 (jN x2))
    · rw [if_pos hc7] at h
      refine Q.map (A.bT (gI_of zm248 (e := (44, 3, .if_icmp .eq 5, [27])) rfl) (decide_eq_true hc7)) ?_
      refine Q.run zm248 4 (i' := 31) (ls' := [some (.ref 121), some (.int x1), some (.int x2), some (.int 1), some (.int 0), none, none, none]) (st' := []) rfl ?_
      exact dt248_31 hd _ hl3  h
    · rw [if_neg hc7] at h
      refine Q.map (A.bF (gI_of zm248 (e := (44, 3, .if_icmp .eq 5, [27])) rfl) (fun q => hc7 (of_decide_eq_true q))) ?_
      refine Q.run zm248 1 (i' := 26) (ls' := [some (.ref 121), some (.int x1), some (.int x2), none, none, none, none, none]) (st' := [.int 0]) rfl ?_
      cases h
      exact Q.ret (A.ri zm248 (show zM248.2.2.2.2.2[26]? = some (48, 1, .ireturn, []) from rfl) rfl rfl) hl3
def dm248_9 (x1 : Int32) (x2 : Int32) (s : aS) : Option (Int32 × aS) :=
  dm248_12 x1 x2 1 s
set_option maxRecDepth 100000 in
theorem dt248_9 {sio : Bool} {tt : Nat} {cc : Nat → Nat → Int32} {d : Nat} (hd : 1 ≤ d) {x1 : Int32} {x2 : Int32} {s : aS} (hl : Ly tt cc s) {o : Int32 × aS} (h : dm248_9  x1 x2 s = some o) : Q 2 sio tt cc d 248 9 [some (.ref 121), some (.int x1), some (.int x2), none, none, none, none, none] [.ref 121] s (.inl (some (.int o.1)), o.2) := by
  unfold dm248_9 at h
  obtain ⟨d, rfl⟩ : ∃ e, d = e + 1 := ⟨d - 1, by omega⟩
  refine Q.run zm248 2 (i' := 12) (ls' := [some (.ref 121), some (.int x1), some (.int x2), none, none, none, none, none]) (st' := [.int 1, .ref 121]) rfl ?_
  exact dt248_12 hd hl  h
def dm248 (x1 : Int32) (x2 : Int32) (s : aS) : Option (Int32 × aS) :=
  bu (dm225 x1 s) fun r3 =>
  if r3 = 0 then
    bu (dm225 x2 s) fun r7 =>
    if r7 = 0 then
      dm248_12 x1 x2 0 s
    else
      dm248_9 x1 x2 s
  else
    dm248_9 x1 x2 s
set_option maxRecDepth 100000 in
theorem dt248 {sio : Bool} {tt : Nat} {cc : Nat → Nat → Int32} {d : Nat} (hd : 1 ≤ d) {x1 : Int32} {x2 : Int32} {s : aS} (hl : Ly tt cc s) {o : Int32 × aS} (h : dm248  x1 x2 s = some o) : Q 2 sio tt cc d 248 0 [some (.ref 121), some (.int x1), some (.int x2), none, none, none, none, none] [] s (.inl (some (.int o.1)), o.2) := by
  unfold dm248 at h
  obtain ⟨d, rfl⟩ : ∃ e, d = e + 1 := ⟨d - 1, by omega⟩
  refine Q.run zm248 3 (i' := 3) (ls' := [some (.ref 121), some (.int x1), some (.int x2), none, none, none, none, none]) (st' := [.int x1, .ref 121, .ref 121]) rfl ?_
  obtain ⟨r3, hc2, h⟩ := bu_so h
  have hq1 : Q 2 sio tt cc d 225 0 [some (.ref 121), some (.int x1)] [] s (.inl (some (.int r3)), s) := dt225 (by omega) hl  hc2
  refine Q.callI (gC_vi zm248 (show zM248.2.2.2.2.2[3]? = some (3, 3, .invokevirtual 310, [0, 225, 1, 9]) from rfl) zm225 (hl.lt (a := 121) (by decide)) (hl.T (a := 121) (p := (9, 45)) 43 rfl rfl) rfl (show aCr 1 121 [.int x1, .ref 121, .ref 121] 2 = some ([some (.ref 121), some (.int x1)], [.ref 121]) from rfl)) hq1 ?_
  by_cases hc4 : r3 = 0
  · rw [if_pos hc4] at h
    refine Q.map (A.zF (gI_of zm248 (e := (6, 3, .ifCond .ne 11, [9])) rfl) (fun q => of_decide_eq_true q hc4)) ?_
    refine Q.run zm248 2 (i' := 7) (ls' := [some (.ref 121), some (.int x1), some (.int x2), none, none, none, none, none]) (st' := [.int x2, .ref 121, .ref 121]) rfl ?_
    obtain ⟨r7, hc6, h⟩ := bu_so h
    have hq5 : Q 2 sio tt cc d 225 0 [some (.ref 121), some (.int x2)] [] s (.inl (some (.int r7)), s) := dt225 (by omega) hl  hc6
    refine Q.callI (gC_vi zm248 (show zM248.2.2.2.2.2[7]? = some (11, 3, .invokevirtual 310, [0, 225, 1, 9]) from rfl) zm225 (hl.lt (a := 121) (by decide)) (hl.T (a := 121) (p := (9, 45)) 43 rfl rfl) rfl (show aCr 1 121 [.int x2, .ref 121, .ref 121] 2 = some ([some (.ref 121), some (.int x2)], [.ref 121]) from rfl)) hq5 ?_
    by_cases hc8 : r7 = 0
    · rw [if_pos hc8] at h
      refine Q.map (A.zT (gI_of zm248 (e := (14, 3, .ifCond .eq 7, [11])) rfl) (decide_eq_true hc8)) ?_
      refine Q.run zm248 1 (i' := 12) (ls' := [some (.ref 121), some (.int x1), some (.int x2), none, none, none, none, none]) (st' := [.int 0, .ref 121]) rfl ?_
      exact dt248_12 hd hl  h
    · rw [if_neg hc8] at h
      refine Q.map (A.zF (gI_of zm248 (e := (14, 3, .ifCond .eq 7, [11])) rfl) (fun q => hc8 (of_decide_eq_true q))) ?_
      exact dt248_9 hd hl  h
  · rw [if_neg hc4] at h
    refine Q.map (A.zT (gI_of zm248 (e := (6, 3, .ifCond .ne 11, [9])) rfl) (decide_eq_true hc4)) ?_
    exact dt248_9 hd hl  h
/-! 167 FormulaTrees$Sheets.howMany()I -/
set_option maxRecDepth 100000 in
theorem zm167 : zP[167]? = some zM167 := rfl
def dm167 (s : aS) : Option (Int32) :=
  some (sI s 81 2)
set_option maxRecDepth 100000 in
theorem dt167 {sio : Bool} {tt : Nat} {cc : Nat → Nat → Int32} {d : Nat} (hd : 0 ≤ d) {s : aS} (hl : Ly tt cc s) {o : Int32} (h : dm167  s = some o) : Q 1 sio tt cc d 167 0 [some (.ref 81)] [] s (.inl (some (.int o)), s) := by
  unfold dm167 at h
  refine Q.run zm167 1 (i' := 1) (ls' := [some (.ref 81)]) (st' := [.ref 81]) rfl ?_
  refine Q.map (A.gf (gI_of zm167 (e := (1, 3, .getfield 24, [2, 2])) rfl) (hl.lt (a := 81) (by decide)) (hl.T (a := 81) (p := (2, 3)) 3 rfl rfl) (by decide) rfl) ?_
  cases h
  exact Q.ret (A.ri zm167 (show zM167.2.2.2.2.2[2]? = some (4, 1, .ireturn, []) from rfl) rfl rfl) hl
/-! 168 FormulaTrees.formulasThere()I -/
set_option maxRecDepth 100000 in
theorem zm168 : zP[168]? = some zM168 := rfl
def dm168_19 (k4 : Int32 → Int32 → aS → Option (Int32)) (x2 : Int32) (y0 : Int32) (y1 : Int32) (s : aS) : Option (Int32) :=
  k4 (y0 + y1) (x2 + 1) s
set_option maxRecDepth 100000 in
theorem dt168_19 {sio : Bool} {tt : Nat} {cc : Nat → Nat → Int32} {d : Nat} (hd : 0 ≤ d) {k4 : Int32 → Int32 → aS → Option (Int32)} (hk4 : ∀ {x1 : Int32} {x2 : Int32} {s : aS}, Ly tt cc s → ∀ {o : Int32}, k4 x1 x2 s = some o → Q 1 sio tt cc d 168 4 [some (.ref 78), some (.int x1), some (.int x2)] [] s (.inl (some (.int o)), s)) {x2 : Int32} {y0 : Int32} {y1 : Int32} {x1 : Int32} {s : aS} (hl : Ly tt cc s) {o : Int32} (h : dm168_19 k4 x2 y0 y1 s = some o) : Q 1 sio tt cc d 168 19 [some (.ref 78), some (.int x1), some (.int x2)] [.int y1, .int y0] s (.inl (some (.int o)), s) := by
  unfold dm168_19 at h
  refine Q.run zm168 4 (i' := 4) (ls' := [some (.ref 78), some (.int (y0 + y1)), some (.int (x2 + 1))]) (st' := []) rfl ?_
  exact hk4 hl  h
def dm168_4 : Nat → Int32 → Int32 → aS → Option (Int32)
  | 0, _, _, _ => none
  | n + 1, x1, x2, s =>
    if 8 ≤ x2 then
      some x1
    else
      if aB x2 8 then
        if (sI s 101 (jN x2)) = (-1) then
          dm168_19 (dm168_4 n) x2 x1 0 s
        else
          dm168_19 (dm168_4 n) x2 x1 1 s
      else none
set_option maxRecDepth 100000 in
theorem dt168_4 {sio : Bool} {tt : Nat} {cc : Nat → Nat → Int32} {d : Nat} (hd : 0 ≤ d) : ∀ (n : Nat) {x1 : Int32} {x2 : Int32} {s : aS} (_ : Ly tt cc s) {o : Int32} (_ : dm168_4  n x1 x2 s = some o), Q 1 sio tt cc d 168 4 [some (.ref 78), some (.int x1), some (.int x2)] [] s (.inl (some (.int o)), s) := by
  intro n
  induction n with
  | zero => intro x1 x2 s hl o h; rw [dm168_4] at h; cases h
  | succ n ih =>
    intro x1 x2 s hl o h
    rw [dm168_4] at h
    refine Q.run zm168 2 (i' := 6) (ls' := [some (.ref 78), some (.int x1), some (.int x2)]) (st' := [.ref 78, .int x2]) rfl ?_
    refine Q.map (A.gf (gI_of zm168 (e := (6, 3, .getfield 31, [0, 3])) rfl) (hl.lt (a := 78) (by decide)) (hl.T (a := 78) (p := (0, 7)) 0 rfl rfl) (by decide) (hl.R 3 rfl)) ?_
    refine Q.map (A.al (gI_of zm168 (e := (9, 1, .arraylength, [])) rfl) (hl.lt (a := 101) (by decide)) (hl.T (a := 101) (p := (100, 8)) 23 rfl rfl) (by decide)) ?_
    by_cases hc1 : 8 ≤ x2
    · rw [if_pos hc1] at h
      refine Q.map (A.bT (gI_of zm168 (e := (10, 3, .if_icmp .ge 27, [23])) rfl) (decide_eq_true hc1)) ?_
      refine Q.run zm168 1 (i' := 24) (ls' := [some (.ref 78), some (.int x1), some (.int x2)]) (st' := [.int x1]) rfl ?_
      cases h
      exact Q.ret (A.ri zm168 (show zM168.2.2.2.2.2[24]? = some (38, 1, .ireturn, []) from rfl) rfl rfl) hl
    · rw [if_neg hc1] at h
      refine Q.map (A.bF (gI_of zm168 (e := (10, 3, .if_icmp .ge 27, [23])) rfl) (fun q => hc1 (of_decide_eq_true q))) ?_
      refine Q.run zm168 2 (i' := 11) (ls' := [some (.ref 78), some (.int x1), some (.int x2)]) (st' := [.ref 78, .int x1]) rfl ?_
      refine Q.map (A.gf (gI_of zm168 (e := (15, 3, .getfield 31, [0, 3])) rfl) (hl.lt (a := 78) (by decide)) (hl.T (a := 78) (p := (0, 7)) 0 rfl rfl) (by decide) (hl.R 3 rfl)) ?_
      refine Q.run zm168 1 (i' := 13) (ls' := [some (.ref 78), some (.int x1), some (.int x2)]) (st' := [.int x2, .ref 101, .int x1]) rfl ?_
      obtain ⟨hc2, h⟩ := ite_so h
      refine Q.map (A.ia (gI_of zm168 (e := (19, 1, .iaload, [])) rfl) (hl.lt (a := 101) (by decide)) (hl.T (a := 101) (p := (100, 8)) 23 rfl rfl) hc2) ?_
      refine Q.run zm168 1 (i' := 15) (ls' := [some (.ref 78), some (.int x1), some (.int x2)]) (st' := [.int (-1), .int (sI s 101 (jN x2)), .int x1]) rfl ?_
      by_cases hc3 : (sI s 101 (jN x2)) = (-1)
      · rw [if_pos hc3] at h
        refine Q.map (A.bT (gI_of zm168 (e := (21, 3, .if_icmp .eq 7, [18])) rfl) (decide_eq_true hc3)) ?_
        refine Q.run zm168 1 (i' := 19) (ls' := [some (.ref 78), some (.int x1), some (.int x2)]) (st' := [.int 0, .int x1]) rfl ?_
        exact dt168_19 hd ih hl  h
      · rw [if_neg hc3] at h
        refine Q.map (A.bF (gI_of zm168 (e := (21, 3, .if_icmp .eq 7, [18])) rfl) (fun q => hc3 (of_decide_eq_true q))) ?_
        refine Q.run zm168 2 (i' := 19) (ls' := [some (.ref 78), some (.int x1), some (.int x2)]) (st' := [.int 1, .int x1]) rfl ?_
        exact dt168_19 hd ih hl  h
def dm168 (s : aS) : Option (Int32) :=
  dm168_4 5000 0 0 s
set_option maxRecDepth 100000 in
theorem dt168 {sio : Bool} {tt : Nat} {cc : Nat → Nat → Int32} {d : Nat} (hd : 0 ≤ d) {s : aS} (hl : Ly tt cc s) {o : Int32} (h : dm168  s = some o) : Q 1 sio tt cc d 168 0 [some (.ref 78), none, none] [] s (.inl (some (.int o)), s) := by
  unfold dm168 at h
  refine Q.run zm168 4 (i' := 4) (ls' := [some (.ref 78), some (.int 0), some (.int 0)]) (st' := []) rfl ?_
  exact dt168_4 hd _ hl  h
/-! 166 FormulaTrees.count(I)I -/
set_option maxRecDepth 100000 in
theorem zm166 : zP[166]? = some zM166 := rfl
def dm166_5 (s : aS) : Option (xZ × aS) :=
  some (.inr 0, nw s 80 0)
set_option maxRecDepth 100000 in
theorem dt166_5 {sio : Bool} {tt : Nat} {cc : Nat → Nat → Int32} {d : Nat} (hd : 9 ≤ d) {x1 : Int32} {s : aS} (hl : Ly tt cc s) {o : xZ × aS} (h : dm166_5  s = some o) : Q 1 sio tt cc d 166 5 [some (.ref 78), some (.int x1)] [] s o := by
  unfold dm166_5 at h
  obtain ⟨d, rfl⟩ : ∃ e, d = e + 1 := ⟨d - 1, by omega⟩
  cases h
  exact Q.t zm166 (show zM166.2.2.2.2.2[5]? = some (10, 3, .new 58, [200]) from rfl) rfl rfl hl.gL (by omega) hl
def dm166 (x1 : Int32) (s : aS) : Option (xZ × aS) :=
  if x1 < 0 then
    dm166_5 s
  else
    if x1 ≤ 9 then
      if x1 = 0 then
        bu (dm167 s) fun r6 =>
        some (.inl (some (.int r6)), s)
      else
        if x1 = 1 then
          bu (dm168 s) fun r10 =>
          some (.inl (some (.int r10)), s)
        else
          if aB (x1 - 2) 8 then
            some (.inl (some (.int (sI s 101 (jN (x1 - 2))))), s)
          else none
    else
      dm166_5 s
set_option maxRecDepth 100000 in
theorem dt166 {sio : Bool} {tt : Nat} {cc : Nat → Nat → Int32} {d : Nat} (hd : 9 ≤ d) {x1 : Int32} {s : aS} (hl : Ly tt cc s) {o : xZ × aS} (h : dm166  x1 s = some o) : Q 1 sio tt cc d 166 0 [some (.ref 78), some (.int x1)] [] s o := by
  unfold dm166 at h
  obtain ⟨d, rfl⟩ : ∃ e, d = e + 1 := ⟨d - 1, by omega⟩
  refine Q.run zm166 1 (i' := 1) (ls' := [some (.ref 78), some (.int x1)]) (st' := [.int x1]) rfl ?_
  by_cases hc1 : x1 < 0
  · rw [if_pos hc1] at h
    refine Q.map (A.zT (gI_of zm166 (e := (1, 3, .ifCond .lt 9, [5])) rfl) (decide_eq_true hc1)) ?_
    exact dt166_5 hd hl  h
  · rw [if_neg hc1] at h
    refine Q.map (A.zF (gI_of zm166 (e := (1, 3, .ifCond .lt 9, [5])) rfl) (fun q => hc1 (of_decide_eq_true q))) ?_
    refine Q.run zm166 2 (i' := 4) (ls' := [some (.ref 78), some (.int x1)]) (st' := [.int 9, .int x1]) rfl ?_
    by_cases hc2 : x1 ≤ 9
    · rw [if_pos hc2] at h
      refine Q.map (A.bT (gI_of zm166 (e := (7, 3, .if_icmp .le 13, [10])) rfl) (decide_eq_true hc2)) ?_
      refine Q.run zm166 1 (i' := 11) (ls' := [some (.ref 78), some (.int x1)]) (st' := [.int x1]) rfl ?_
      by_cases hc3 : x1 = 0
      · rw [if_pos hc3] at h
        refine Q.map (A.zF (gI_of zm166 (e := (21, 3, .ifCond .ne 11, [16])) rfl) (fun q => of_decide_eq_true q hc3)) ?_
        refine Q.run zm166 1 (i' := 13) (ls' := [some (.ref 78), some (.int x1)]) (st' := [.ref 78]) rfl ?_
        refine Q.map (A.gf (gI_of zm166 (e := (25, 3, .getfield 21, [0, 1])) rfl) (hl.lt (a := 78) (by decide)) (hl.T (a := 78) (p := (0, 7)) 0 rfl rfl) (by decide) (hl.R 1 rfl)) ?_
        obtain ⟨r6, hc5, h⟩ := bu_so h
        have hq4 : Q 1 sio tt cc d 167 0 [some (.ref 81)] [] s (.inl (some (.int r6)), s) := dt167 (by omega) hl  hc5
        refine Q.callI (gC_vi zm166 (show zM166.2.2.2.2.2[14]? = some (28, 3, .invokevirtual 183, [0, 167, 0, 2]) from rfl) zm167 (hl.lt (a := 81) (by decide)) (hl.T (a := 81) (p := (2, 3)) 3 rfl rfl) rfl (show aCr 0 81 [.ref 81] 1 = some ([some (.ref 81)], []) from rfl)) hq4 ?_
        cases h
        exact Q.ret (A.ri zm166 (show zM166.2.2.2.2.2[15]? = some (31, 1, .ireturn, []) from rfl) rfl rfl) hl
      · rw [if_neg hc3] at h
        refine Q.map (A.zT (gI_of zm166 (e := (21, 3, .ifCond .ne 11, [16])) rfl) (decide_eq_true hc3)) ?_
        refine Q.run zm166 2 (i' := 18) (ls' := [some (.ref 78), some (.int x1)]) (st' := [.int 1, .int x1]) rfl ?_
        by_cases hc7 : x1 = 1
        · rw [if_pos hc7] at h
          refine Q.map (A.bF (gI_of zm166 (e := (34, 3, .if_icmp .ne 10, [22])) rfl) (fun q => of_decide_eq_true q hc7)) ?_
          refine Q.run zm166 1 (i' := 20) (ls' := [some (.ref 78), some (.int x1)]) (st' := [.ref 78]) rfl ?_
          obtain ⟨r10, hc9, h⟩ := bu_so h
          have hq8 : Q 1 sio tt cc d 168 0 [some (.ref 78), none, none] [] s (.inl (some (.int r10)), s) := dt168 (by omega) hl  hc9
          refine Q.callI (gC_vi zm166 (show zM166.2.2.2.2.2[20]? = some (38, 3, .invokevirtual 186, [0, 168, 0, 0]) from rfl) zm168 (hl.lt (a := 78) (by decide)) (hl.T (a := 78) (p := (0, 7)) 0 rfl rfl) rfl (show aCr 0 78 [.ref 78] 3 = some ([some (.ref 78), none, none], []) from rfl)) hq8 ?_
          refine Q.run zm166 1 (i' := 28) (ls' := [some (.ref 78), some (.int x1)]) (st' := [.int r10]) rfl ?_
          cases h
          exact Q.ret (A.ri zm166 (show zM166.2.2.2.2.2[28]? = some (52, 1, .ireturn, []) from rfl) rfl rfl) hl
        · rw [if_neg hc7] at h
          refine Q.map (A.bT (gI_of zm166 (e := (34, 3, .if_icmp .ne 10, [22])) rfl) (decide_eq_true hc7)) ?_
          refine Q.run zm166 1 (i' := 23) (ls' := [some (.ref 78), some (.int x1)]) (st' := [.ref 78]) rfl ?_
          refine Q.map (A.gf (gI_of zm166 (e := (45, 3, .getfield 31, [0, 3])) rfl) (hl.lt (a := 78) (by decide)) (hl.T (a := 78) (p := (0, 7)) 0 rfl rfl) (by decide) (hl.R 3 rfl)) ?_
          refine Q.run zm166 3 (i' := 27) (ls' := [some (.ref 78), some (.int x1)]) (st' := [.int (x1 - 2), .ref 101]) rfl ?_
          obtain ⟨hc11, h⟩ := ite_so h
          refine Q.map (A.ia (gI_of zm166 (e := (51, 1, .iaload, [])) rfl) (hl.lt (a := 101) (by decide)) (hl.T (a := 101) (p := (100, 8)) 23 rfl rfl) hc11) ?_
          cases h
          exact Q.ret (A.ri zm166 (show zM166.2.2.2.2.2[28]? = some (52, 1, .ireturn, []) from rfl) rfl rfl) hl
    · rw [if_neg hc2] at h
      refine Q.map (A.bF (gI_of zm166 (e := (7, 3, .if_icmp .le 13, [10])) rfl) (fun q => hc2 (of_decide_eq_true q))) ?_
      exact dt166_5 hd hl  h
/-! 14 FormulaTreesLaw.count(LFormulaTrees;I[J)I -/
set_option maxRecDepth 100000 in
theorem zm14 : zP[14]? = some zM14 := rfl
def dm14 (x1 : Int32) (s : aS) : Option (Int32 × aS) :=
  bv (dm166 x1 s) fun z4 s3 =>
  zN z4 (fun v5 =>
    vI v5 fun r7 =>
    if aB 0 1 then
      nx (wJ s3 148 (jN 0) r7.toInt64) fun s10 =>
      some (0, s10)
    else none
  ) fun e6 =>
    if e6 = 0 then
      some (1, s3)
    else
      none
set_option maxRecDepth 100000 in
theorem dt14 {sio : Bool} {tt : Nat} {cc : Nat → Nat → Int32} {d : Nat} (hd : 10 ≤ d) {x1 : Int32} {s : aS} (hl : Ly tt cc s) {o : Int32 × aS} (h : dm14  x1 s = some o) : Q 1 sio tt cc d 14 0 [some (.ref 78), some (.int x1), some (.ref 148), none] [] s (.inl (some (.int o.1)), o.2) := by
  unfold dm14 at h
  obtain ⟨d, rfl⟩ : ∃ e, d = e + 1 := ⟨d - 1, by omega⟩
  refine Q.run zm14 4 (i' := 4) (ls' := [some (.ref 78), some (.int x1), some (.ref 148), none]) (st' := [.int x1, .ref 78, .int 0, .ref 148]) rfl ?_
  obtain ⟨z4, s3, hc2, h⟩ := bv_so h
  have hq1 : Q 1 sio tt cc d 166 0 [some (.ref 78), some (.int x1)] [] s (z4, s3) := dt166 (by omega) hl  hc2
  rcases zN_so h with ⟨v5, hz13, h8⟩ | ⟨e6, hz13, h8⟩
  · clear h
    subst hz13
    have h := h8
    obtain ⟨r7, hv8, h9⟩ := vI_so h
    clear h
    subst hv8
    have h := h9
    refine Q.callI (gC_vi zm14 (show zM14.2.2.2.2.2[4]? = some (4, 3, .invokevirtual 62, [0, 166, 1, 0]) from rfl) zm166 (hl.lt (a := 78) (by decide)) (hl.T (a := 78) (p := (0, 7)) 0 rfl rfl) rfl (show aCr 1 78 [.int x1, .ref 78, .int 0, .ref 148] 2 = some ([some (.ref 78), some (.int x1)], [.int 0, .ref 148]) from rfl)) hq1 ?_
    refine Q.run zm14 1 (i' := 6) (ls' := [some (.ref 78), some (.int x1), some (.ref 148), none]) (st' := [.long r7.toInt64, .int 0, .ref 148]) rfl ?_
    obtain ⟨hc9, h⟩ := ite_so h
    obtain ⟨s10, hs11, h⟩ := nx_so h
    refine Q.lS hs11 rfl (gI_of zm14 (e := (8, 1, .lastore, [])) rfl) (hq1.1.lt (a := 148) (by decide)) (by decide) (hq1.1.T (a := 148) (p := (104, 1)) 70 rfl rfl) hc9 ?_
    have hl12 : Ly tt cc s10 := by rw [hs11]; exact hq1.1.wJd
    refine Q.run zm14 2 (i' := 12) (ls' := [some (.ref 78), some (.int x1), some (.ref 148), none]) (st' := [.int 0]) rfl ?_
    cases h
    exact Q.ret (A.ri zm14 (show zM14.2.2.2.2.2[12]? = some (16, 1, .ireturn, []) from rfl) rfl rfl) hl12
  · clear h
    subst hz13
    have h := h8
    by_cases hc14 : e6 = 0
    · rw [if_pos hc14] at h
      subst hc14
      refine Q.hc (gC_vi zm14 (show zM14.2.2.2.2.2[4]? = some (4, 3, .invokevirtual 62, [0, 166, 1, 0]) from rfl) zm166 (hl.lt (a := 78) (by decide)) (hl.T (a := 78) (p := (0, 7)) 0 rfl rfl) rfl (show aCr 1 78 [.int x1, .ref 78, .int 0, .ref 148] 2 = some ([some (.ref 78), some (.int x1)], [.int 0, .ref 148]) from rfl)) hq1 (t := 8) rfl ?_
      refine Q.run zm14 2 (i' := 10) (ls' := [some (.ref 78), some (.int x1), some (.ref 148), some (.ref (sL s3 - 1))]) (st' := [.int 1]) rfl ?_
      cases h
      exact Q.ret (A.ri zm14 (show zM14.2.2.2.2.2[10]? = some (14, 1, .ireturn, []) from rfl) rfl rfl) hq1.1
    · rw [if_neg hc14] at h
      cases h
end
