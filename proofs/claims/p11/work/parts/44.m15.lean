/-! 185 FormulaTreesModel.readOperand()V -/
set_option maxRecDepth 100000 in
theorem zm185 : zP[185]? = some zM185 := rfl
def dm185_118 (s : aS) : Option (aS) :=
  bu (dm195 s) fun s3 =>
  some s3
set_option maxRecDepth 100000 in
theorem dt185_118 {sio : Bool} {tt : Nat} {cc : Nat → Nat → Int32} {d : Nat} (hd : 6 ≤ d) {x1 : Int32} {s : aS} (hl : Ly tt cc s) {o : aS} (h : dm185_118  s = some o) : Q 2 sio tt cc d 185 118 [some (.ref 121), some (.int x1)] [] s (.inl none, o) := by
  unfold dm185_118 at h
  obtain ⟨d, rfl⟩ : ∃ e, d = e + 1 := ⟨d - 1, by omega⟩
  refine Q.run zm185 1 (i' := 119) (ls' := [some (.ref 121), some (.int x1)]) (st' := [.ref 121]) rfl ?_
  obtain ⟨s3, hc2, h⟩ := bu_so h
  have hq1 : Q 2 sio tt cc d 195 0 [some (.ref 121), none, none] [] s (.inl none, s3) := dt195 (by omega) hl  hc2
  refine Q.callV (gC_vi zm185 (show zM185.2.2.2.2.2[119]? = some (230, 3, .invokevirtual 279, [0, 195, 0, 9]) from rfl) zm195 (hl.lt (a := 121) (by decide)) (hl.T (a := 121) (p := (9, 45)) 43 rfl rfl) rfl (show aCr 0 121 [.ref 121] 3 = some ([some (.ref 121), none, none], []) from rfl)) hq1 ?_
  cases h
  exact Q.ret (A.rv zm185 (show zM185.2.2.2.2.2[120]? = some (233, 1, .return_, []) from rfl) rfl) hq1.1
def dm185_94 (s : aS) : Option (aS) :=
  if (sI s 121 35) ≤ 0 then
    dm185_118 s
  else
    if (sI s 121 21) = 128 then
      bu (dm186 (sI s 121 26) s) fun s5 =>
      some s5
    else
      bv (dm187 8 s) fun r9 s8 =>
      bu (dm194 r9 s8) fun s12 =>
      nx (wI s12 121 35 0) fun s13 =>
      nx (wI s13 121 36 0) fun s16 =>
      some s16
set_option maxRecDepth 100000 in
theorem dt185_94 {sio : Bool} {tt : Nat} {cc : Nat → Nat → Int32} {d : Nat} (hd : 6 ≤ d) {x1 : Int32} {s : aS} (hl : Ly tt cc s) {o : aS} (h : dm185_94  s = some o) : Q 2 sio tt cc d 185 94 [some (.ref 121), some (.int x1)] [] s (.inl none, o) := by
  unfold dm185_94 at h
  obtain ⟨d, rfl⟩ : ∃ e, d = e + 1 := ⟨d - 1, by omega⟩
  refine Q.run zm185 1 (i' := 95) (ls' := [some (.ref 121), some (.int x1)]) (st' := [.ref 121]) rfl ?_
  refine Q.map (A.gf (gI_of zm185 (e := (181, 3, .getfield 243, [9, 35])) rfl) (hl.lt (a := 121) (by decide)) (hl.T (a := 121) (p := (9, 45)) 43 rfl rfl) (by decide) rfl) ?_
  by_cases hc1 : (sI s 121 35) ≤ 0
  · rw [if_pos hc1] at h
    refine Q.map (A.zT (gI_of zm185 (e := (184, 3, .ifCond .le 45, [118])) rfl) (decide_eq_true hc1)) ?_
    exact dt185_118 hd hl  h
  · rw [if_neg hc1] at h
    refine Q.map (A.zF (gI_of zm185 (e := (184, 3, .ifCond .le 45, [118])) rfl) (fun q => hc1 (of_decide_eq_true q))) ?_
    refine Q.run zm185 1 (i' := 98) (ls' := [some (.ref 121), some (.int x1)]) (st' := [.ref 121]) rfl ?_
    refine Q.map (A.gf (gI_of zm185 (e := (188, 3, .getfield 141, [9, 21])) rfl) (hl.lt (a := 121) (by decide)) (hl.T (a := 121) (p := (9, 45)) 43 rfl rfl) (by decide) rfl) ?_
    refine Q.run zm185 1 (i' := 100) (ls' := [some (.ref 121), some (.int x1)]) (st' := [.int 128, .int (sI s 121 21)]) rfl ?_
    by_cases hc2 : (sI s 121 21) = 128
    · rw [if_pos hc2] at h
      refine Q.map (A.bF (gI_of zm185 (e := (194, 3, .if_icmp .ne 12, [106])) rfl) (fun q => of_decide_eq_true q hc2)) ?_
      refine Q.run zm185 2 (i' := 103) (ls' := [some (.ref 121), some (.int x1)]) (st' := [.ref 121, .ref 121]) rfl ?_
      refine Q.map (A.gf (gI_of zm185 (e := (199, 3, .getfield 138, [9, 26])) rfl) (hl.lt (a := 121) (by decide)) (hl.T (a := 121) (p := (9, 45)) 43 rfl rfl) (by decide) rfl) ?_
      obtain ⟨s5, hc4, h⟩ := bu_so h
      have hq3 : Q 2 sio tt cc d 186 0 [some (.ref 121), some (.int (sI s 121 26))] [] s (.inl none, s5) := dt186 (by omega) hl  hc4
      refine Q.callV (gC_vi zm185 (show zM185.2.2.2.2.2[104]? = some (202, 3, .invokevirtual 164, [0, 186, 1, 9]) from rfl) zm186 (hl.lt (a := 121) (by decide)) (hl.T (a := 121) (p := (9, 45)) 43 rfl rfl) rfl (show aCr 1 121 [.int (sI s 121 26), .ref 121] 2 = some ([some (.ref 121), some (.int (sI s 121 26))], []) from rfl)) hq3 ?_
      cases h
      exact Q.ret (A.rv zm185 (show zM185.2.2.2.2.2[105]? = some (205, 1, .return_, []) from rfl) rfl) hq3.1
    · rw [if_neg hc2] at h
      refine Q.map (A.bT (gI_of zm185 (e := (194, 3, .if_icmp .ne 12, [106])) rfl) (decide_eq_true hc2)) ?_
      refine Q.run zm185 3 (i' := 109) (ls' := [some (.ref 121), some (.int x1)]) (st' := [.int 8, .ref 121, .ref 121]) rfl ?_
      obtain ⟨r9, s8, hc7, h⟩ := bv_so h
      have hq6 : Q 2 sio tt cc d 187 0 [some (.ref 121), some (.int 8), none, none] [] s (.inl (some (.int r9)), s8) := dt187 (by omega) hl  hc7
      refine Q.callI (gC_vi zm185 (show zM185.2.2.2.2.2[109]? = some (210, 3, .invokevirtual 167, [0, 187, 1, 9]) from rfl) zm187 (hl.lt (a := 121) (by decide)) (hl.T (a := 121) (p := (9, 45)) 43 rfl rfl) rfl (show aCr 1 121 [.int 8, .ref 121, .ref 121] 4 = some ([some (.ref 121), some (.int 8), none, none], [.ref 121]) from rfl)) hq6 ?_
      obtain ⟨s12, hc11, h⟩ := bu_so h
      have hq10 : Q 2 sio tt cc d 194 0 [some (.ref 121), some (.int r9)] [] s8 (.inl none, s12) := dt194 (by omega) hq6.1  hc11
      refine Q.callV (gC_vi zm185 (show zM185.2.2.2.2.2[110]? = some (213, 3, .invokevirtual 161, [0, 194, 1, 9]) from rfl) zm194 (hq6.1.lt (a := 121) (by decide)) (hq6.1.T (a := 121) (p := (9, 45)) 43 rfl rfl) rfl (show aCr 1 121 [.int r9, .ref 121] 2 = some ([some (.ref 121), some (.int r9)], []) from rfl)) hq10 ?_
      refine Q.run zm185 2 (i' := 113) (ls' := [some (.ref 121), some (.int x1)]) (st' := [.int 0, .ref 121]) rfl ?_
      obtain ⟨s13, hs14, h⟩ := nx_so h
      refine Q.pf hs14 rfl (gI_of zm185 (e := (218, 3, .putfield 243, [9, 35, 0])) rfl) (hq10.1.lt (a := 121) (by decide)) (by decide) (hq10.1.T (a := 121) (p := (9, 45)) 43 rfl rfl) (by decide) rfl rfl ?_
      have hl15 : Ly tt cc s13 := by rw [hs14]; exact hq10.1.wId (by decide)
      refine Q.run zm185 2 (i' := 116) (ls' := [some (.ref 121), some (.int x1)]) (st' := [.int 0, .ref 121]) rfl ?_
      obtain ⟨s16, hs17, h⟩ := nx_so h
      refine Q.pf hs17 rfl (gI_of zm185 (e := (223, 3, .putfield 246, [9, 36, 1])) rfl) (hl15.lt (a := 121) (by decide)) (by decide) (hl15.T (a := 121) (p := (9, 45)) 43 rfl rfl) (by decide) rfl rfl ?_
      have hl18 : Ly tt cc s16 := by rw [hs17]; exact hl15.wId (by decide)
      refine Q.run zm185 1 (i' := 120) (ls' := [some (.ref 121), some (.int x1)]) (st' := []) rfl ?_
      cases h
      exact Q.ret (A.rv zm185 (show zM185.2.2.2.2.2[120]? = some (233, 1, .return_, []) from rfl) rfl) hl18
def dm185_88 (x1 : Int32) (s : aS) : Option (aS) :=
  if x1 = 41 then
    dm185_94 s
  else
    if x1 = 44 then
      dm185_94 s
    else
      dm185_118 s
set_option maxRecDepth 100000 in
theorem dt185_88 {sio : Bool} {tt : Nat} {cc : Nat → Nat → Int32} {d : Nat} (hd : 6 ≤ d) {x1 : Int32} {s : aS} (hl : Ly tt cc s) {o : aS} (h : dm185_88  x1 s = some o) : Q 2 sio tt cc d 185 88 [some (.ref 121), some (.int x1)] [] s (.inl none, o) := by
  unfold dm185_88 at h
  obtain ⟨d, rfl⟩ : ∃ e, d = e + 1 := ⟨d - 1, by omega⟩
  refine Q.run zm185 2 (i' := 90) (ls' := [some (.ref 121), some (.int x1)]) (st' := [.int 41, .int x1]) rfl ?_
  by_cases hc1 : x1 = 41
  · rw [if_pos hc1] at h
    refine Q.map (A.bT (gI_of zm185 (e := (171, 3, .if_icmp .eq 9, [94])) rfl) (decide_eq_true hc1)) ?_
    exact dt185_94 hd hl  h
  · rw [if_neg hc1] at h
    refine Q.map (A.bF (gI_of zm185 (e := (171, 3, .if_icmp .eq 9, [94])) rfl) (fun q => hc1 (of_decide_eq_true q))) ?_
    refine Q.run zm185 2 (i' := 93) (ls' := [some (.ref 121), some (.int x1)]) (st' := [.int 44, .int x1]) rfl ?_
    by_cases hc2 : x1 = 44
    · rw [if_pos hc2] at h
      refine Q.map (A.bF (gI_of zm185 (e := (177, 3, .if_icmp .ne 52, [118])) rfl) (fun q => of_decide_eq_true q hc2)) ?_
      exact dt185_94 hd hl  h
    · rw [if_neg hc2] at h
      refine Q.map (A.bT (gI_of zm185 (e := (177, 3, .if_icmp .ne 52, [118])) rfl) (decide_eq_true hc2)) ?_
      exact dt185_118 hd hl  h
def dm185 (s : aS) : Option (aS) :=
  bu (dm176 (sI s 121 26) s) fun r3 =>
  if r3 = 43 then
    nx (wI s 121 35 0) fun s5 =>
    nx (wI s5 121 26 ((sI s5 121 26) + 1)) fun s8 =>
    some s8
  else
    if r3 = 45 then
      if (sI s 121 21) = 128 then
        bu (dm186 (sI s 121 26) s) fun s15 =>
        some s15
      else
        bv (dm187 10 s) fun r19 s18 =>
        bu (dm188 10 r19 s18) fun s22 =>
        nx (wI s22 121 35 0) fun s23 =>
        nx (wI s23 121 26 ((sI s23 121 26) + 1)) fun s26 =>
        some s26
    else
      if r3 = 40 then
        if (sI s 121 33) = 32 then
          bu (dm186 (sI s 121 26) s) fun s33 =>
          some s33
        else
          bu (dm188 100 (-1) s) fun s36 =>
          nx (wI s36 121 33 ((sI s36 121 33) + 1)) fun s37 =>
          nx (wI s37 121 35 0) fun s40 =>
          nx (wI s40 121 26 ((sI s40 121 26) + 1)) fun s43 =>
          some s43
      else
        if r3 = 41 then
          if (sI s 121 35) = 1 then
            bu (dm189 s) fun s50 =>
            some s50
          else
            dm185_88 r3 s
        else
          dm185_88 r3 s
set_option maxRecDepth 100000 in
theorem dt185 {sio : Bool} {tt : Nat} {cc : Nat → Nat → Int32} {d : Nat} (hd : 6 ≤ d) {s : aS} (hl : Ly tt cc s) {o : aS} (h : dm185  s = some o) : Q 2 sio tt cc d 185 0 [some (.ref 121), none] [] s (.inl none, o) := by
  unfold dm185 at h
  obtain ⟨d, rfl⟩ : ∃ e, d = e + 1 := ⟨d - 1, by omega⟩
  refine Q.run zm185 2 (i' := 2) (ls' := [some (.ref 121), none]) (st' := [.ref 121, .ref 121]) rfl ?_
  refine Q.map (A.gf (gI_of zm185 (e := (2, 3, .getfield 138, [9, 26])) rfl) (hl.lt (a := 121) (by decide)) (hl.T (a := 121) (p := (9, 45)) 43 rfl rfl) (by decide) rfl) ?_
  obtain ⟨r3, hc2, h⟩ := bu_so h
  have hq1 : Q 2 sio tt cc d 176 0 [some (.ref 121), some (.int (sI s 121 26))] [] s (.inl (some (.int r3)), s) := dt176 (by omega) hl  hc2
  refine Q.callI (gC_vi zm185 (show zM185.2.2.2.2.2[3]? = some (5, 3, .invokevirtual 113, [0, 176, 1, 9]) from rfl) zm176 (hl.lt (a := 121) (by decide)) (hl.T (a := 121) (p := (9, 45)) 43 rfl rfl) rfl (show aCr 1 121 [.int (sI s 121 26), .ref 121] 2 = some ([some (.ref 121), some (.int (sI s 121 26))], []) from rfl)) hq1 ?_
  refine Q.run zm185 3 (i' := 7) (ls' := [some (.ref 121), some (.int r3)]) (st' := [.int 43, .int r3]) rfl ?_
  by_cases hc4 : r3 = 43
  · rw [if_pos hc4] at h
    refine Q.map (A.bF (gI_of zm185 (e := (12, 3, .if_icmp .ne 21, [18])) rfl) (fun q => of_decide_eq_true q hc4)) ?_
    refine Q.run zm185 2 (i' := 10) (ls' := [some (.ref 121), some (.int r3)]) (st' := [.int 0, .ref 121]) rfl ?_
    obtain ⟨s5, hs6, h⟩ := nx_so h
    refine Q.pf hs6 rfl (gI_of zm185 (e := (17, 3, .putfield 243, [9, 35, 0])) rfl) (hl.lt (a := 121) (by decide)) (by decide) (hl.T (a := 121) (p := (9, 45)) 43 rfl rfl) (by decide) rfl rfl ?_
    have hl7 : Ly tt cc s5 := by rw [hs6]; exact hl.wId (by decide)
    refine Q.run zm185 2 (i' := 13) (ls' := [some (.ref 121), some (.int r3)]) (st' := [.ref 121, .ref 121]) rfl ?_
    refine Q.map (A.gf (gI_of zm185 (e := (22, 3, .getfield 138, [9, 26])) rfl) (hl7.lt (a := 121) (by decide)) (hl7.T (a := 121) (p := (9, 45)) 43 rfl rfl) (by decide) rfl) ?_
    refine Q.run zm185 2 (i' := 16) (ls' := [some (.ref 121), some (.int r3)]) (st' := [.int ((sI s5 121 26) + 1), .ref 121]) rfl ?_
    obtain ⟨s8, hs9, h⟩ := nx_so h
    refine Q.pf hs9 rfl (gI_of zm185 (e := (27, 3, .putfield 138, [9, 26, 0])) rfl) (hl7.lt (a := 121) (by decide)) (by decide) (hl7.T (a := 121) (p := (9, 45)) 43 rfl rfl) (by decide) rfl rfl ?_
    have hl10 : Ly tt cc s8 := by rw [hs9]; exact hl7.wId (by decide)
    refine Q.run zm185 1 (i' := 120) (ls' := [some (.ref 121), some (.int r3)]) (st' := []) rfl ?_
    cases h
    exact Q.ret (A.rv zm185 (show zM185.2.2.2.2.2[120]? = some (233, 1, .return_, []) from rfl) rfl) hl10
  · rw [if_neg hc4] at h
    refine Q.map (A.bT (gI_of zm185 (e := (12, 3, .if_icmp .ne 21, [18])) rfl) (decide_eq_true hc4)) ?_
    refine Q.run zm185 2 (i' := 20) (ls' := [some (.ref 121), some (.int r3)]) (st' := [.int 45, .int r3]) rfl ?_
    by_cases hc11 : r3 = 45
    · rw [if_pos hc11] at h
      refine Q.map (A.bF (gI_of zm185 (e := (36, 3, .if_icmp .ne 52, [46])) rfl) (fun q => of_decide_eq_true q hc11)) ?_
      refine Q.run zm185 1 (i' := 22) (ls' := [some (.ref 121), some (.int r3)]) (st' := [.ref 121]) rfl ?_
      refine Q.map (A.gf (gI_of zm185 (e := (40, 3, .getfield 141, [9, 21])) rfl) (hl.lt (a := 121) (by decide)) (hl.T (a := 121) (p := (9, 45)) 43 rfl rfl) (by decide) rfl) ?_
      refine Q.run zm185 1 (i' := 24) (ls' := [some (.ref 121), some (.int r3)]) (st' := [.int 128, .int (sI s 121 21)]) rfl ?_
      by_cases hc12 : (sI s 121 21) = 128
      · rw [if_pos hc12] at h
        refine Q.map (A.bF (gI_of zm185 (e := (46, 3, .if_icmp .ne 12, [30])) rfl) (fun q => of_decide_eq_true q hc12)) ?_
        refine Q.run zm185 2 (i' := 27) (ls' := [some (.ref 121), some (.int r3)]) (st' := [.ref 121, .ref 121]) rfl ?_
        refine Q.map (A.gf (gI_of zm185 (e := (51, 3, .getfield 138, [9, 26])) rfl) (hl.lt (a := 121) (by decide)) (hl.T (a := 121) (p := (9, 45)) 43 rfl rfl) (by decide) rfl) ?_
        obtain ⟨s15, hc14, h⟩ := bu_so h
        have hq13 : Q 2 sio tt cc d 186 0 [some (.ref 121), some (.int (sI s 121 26))] [] s (.inl none, s15) := dt186 (by omega) hl  hc14
        refine Q.callV (gC_vi zm185 (show zM185.2.2.2.2.2[28]? = some (54, 3, .invokevirtual 164, [0, 186, 1, 9]) from rfl) zm186 (hl.lt (a := 121) (by decide)) (hl.T (a := 121) (p := (9, 45)) 43 rfl rfl) rfl (show aCr 1 121 [.int (sI s 121 26), .ref 121] 2 = some ([some (.ref 121), some (.int (sI s 121 26))], []) from rfl)) hq13 ?_
        cases h
        exact Q.ret (A.rv zm185 (show zM185.2.2.2.2.2[29]? = some (57, 1, .return_, []) from rfl) rfl) hq13.1
      · rw [if_neg hc12] at h
        refine Q.map (A.bT (gI_of zm185 (e := (46, 3, .if_icmp .ne 12, [30])) rfl) (decide_eq_true hc12)) ?_
        refine Q.run zm185 4 (i' := 34) (ls' := [some (.ref 121), some (.int r3)]) (st' := [.int 10, .ref 121, .int 10, .ref 121]) rfl ?_
        obtain ⟨r19, s18, hc17, h⟩ := bv_so h
        have hq16 : Q 2 sio tt cc d 187 0 [some (.ref 121), some (.int 10), none, none] [] s (.inl (some (.int r19)), s18) := dt187 (by omega) hl  hc17
        refine Q.callI (gC_vi zm185 (show zM185.2.2.2.2.2[34]? = some (64, 3, .invokevirtual 167, [0, 187, 1, 9]) from rfl) zm187 (hl.lt (a := 121) (by decide)) (hl.T (a := 121) (p := (9, 45)) 43 rfl rfl) rfl (show aCr 1 121 [.int 10, .ref 121, .int 10, .ref 121] 4 = some ([some (.ref 121), some (.int 10), none, none], [.int 10, .ref 121]) from rfl)) hq16 ?_
        obtain ⟨s22, hc21, h⟩ := bu_so h
        have hq20 : Q 2 sio tt cc d 188 0 [some (.ref 121), some (.int 10), some (.int r19)] [] s18 (.inl none, s22) := dt188 (by omega) hq16.1  hc21
        refine Q.callV (gC_vi zm185 (show zM185.2.2.2.2.2[35]? = some (67, 3, .invokevirtual 240, [0, 188, 2, 9]) from rfl) zm188 (hq16.1.lt (a := 121) (by decide)) (hq16.1.T (a := 121) (p := (9, 45)) 43 rfl rfl) rfl (show aCr 2 121 [.int r19, .int 10, .ref 121] 3 = some ([some (.ref 121), some (.int 10), some (.int r19)], []) from rfl)) hq20 ?_
        refine Q.run zm185 2 (i' := 38) (ls' := [some (.ref 121), some (.int r3)]) (st' := [.int 0, .ref 121]) rfl ?_
        obtain ⟨s23, hs24, h⟩ := nx_so h
        refine Q.pf hs24 rfl (gI_of zm185 (e := (72, 3, .putfield 243, [9, 35, 0])) rfl) (hq20.1.lt (a := 121) (by decide)) (by decide) (hq20.1.T (a := 121) (p := (9, 45)) 43 rfl rfl) (by decide) rfl rfl ?_
        have hl25 : Ly tt cc s23 := by rw [hs24]; exact hq20.1.wId (by decide)
        refine Q.run zm185 2 (i' := 41) (ls' := [some (.ref 121), some (.int r3)]) (st' := [.ref 121, .ref 121]) rfl ?_
        refine Q.map (A.gf (gI_of zm185 (e := (77, 3, .getfield 138, [9, 26])) rfl) (hl25.lt (a := 121) (by decide)) (hl25.T (a := 121) (p := (9, 45)) 43 rfl rfl) (by decide) rfl) ?_
        refine Q.run zm185 2 (i' := 44) (ls' := [some (.ref 121), some (.int r3)]) (st' := [.int ((sI s23 121 26) + 1), .ref 121]) rfl ?_
        obtain ⟨s26, hs27, h⟩ := nx_so h
        refine Q.pf hs27 rfl (gI_of zm185 (e := (82, 3, .putfield 138, [9, 26, 0])) rfl) (hl25.lt (a := 121) (by decide)) (by decide) (hl25.T (a := 121) (p := (9, 45)) 43 rfl rfl) (by decide) rfl rfl ?_
        have hl28 : Ly tt cc s26 := by rw [hs27]; exact hl25.wId (by decide)
        refine Q.run zm185 1 (i' := 120) (ls' := [some (.ref 121), some (.int r3)]) (st' := []) rfl ?_
        cases h
        exact Q.ret (A.rv zm185 (show zM185.2.2.2.2.2[120]? = some (233, 1, .return_, []) from rfl) rfl) hl28
    · rw [if_neg hc11] at h
      refine Q.map (A.bT (gI_of zm185 (e := (36, 3, .if_icmp .ne 52, [46])) rfl) (decide_eq_true hc11)) ?_
      refine Q.run zm185 2 (i' := 48) (ls' := [some (.ref 121), some (.int r3)]) (st' := [.int 40, .int r3]) rfl ?_
      by_cases hc29 : r3 = 40
      · rw [if_pos hc29] at h
        refine Q.map (A.bF (gI_of zm185 (e := (91, 3, .if_icmp .ne 56, [78])) rfl) (fun q => of_decide_eq_true q hc29)) ?_
        refine Q.run zm185 1 (i' := 50) (ls' := [some (.ref 121), some (.int r3)]) (st' := [.ref 121]) rfl ?_
        refine Q.map (A.gf (gI_of zm185 (e := (95, 3, .getfield 237, [9, 33])) rfl) (hl.lt (a := 121) (by decide)) (hl.T (a := 121) (p := (9, 45)) 43 rfl rfl) (by decide) rfl) ?_
        refine Q.run zm185 1 (i' := 52) (ls' := [some (.ref 121), some (.int r3)]) (st' := [.int 32, .int (sI s 121 33)]) rfl ?_
        by_cases hc30 : (sI s 121 33) = 32
        · rw [if_pos hc30] at h
          refine Q.map (A.bF (gI_of zm185 (e := (100, 3, .if_icmp .ne 12, [58])) rfl) (fun q => of_decide_eq_true q hc30)) ?_
          refine Q.run zm185 2 (i' := 55) (ls' := [some (.ref 121), some (.int r3)]) (st' := [.ref 121, .ref 121]) rfl ?_
          refine Q.map (A.gf (gI_of zm185 (e := (105, 3, .getfield 138, [9, 26])) rfl) (hl.lt (a := 121) (by decide)) (hl.T (a := 121) (p := (9, 45)) 43 rfl rfl) (by decide) rfl) ?_
          obtain ⟨s33, hc32, h⟩ := bu_so h
          have hq31 : Q 2 sio tt cc d 186 0 [some (.ref 121), some (.int (sI s 121 26))] [] s (.inl none, s33) := dt186 (by omega) hl  hc32
          refine Q.callV (gC_vi zm185 (show zM185.2.2.2.2.2[56]? = some (108, 3, .invokevirtual 164, [0, 186, 1, 9]) from rfl) zm186 (hl.lt (a := 121) (by decide)) (hl.T (a := 121) (p := (9, 45)) 43 rfl rfl) rfl (show aCr 1 121 [.int (sI s 121 26), .ref 121] 2 = some ([some (.ref 121), some (.int (sI s 121 26))], []) from rfl)) hq31 ?_
          cases h
          exact Q.ret (A.rv zm185 (show zM185.2.2.2.2.2[57]? = some (111, 1, .return_, []) from rfl) rfl) hq31.1
        · rw [if_neg hc30] at h
          refine Q.map (A.bT (gI_of zm185 (e := (100, 3, .if_icmp .ne 12, [58])) rfl) (decide_eq_true hc30)) ?_
          refine Q.run zm185 3 (i' := 61) (ls' := [some (.ref 121), some (.int r3)]) (st' := [.int (-1), .int 100, .ref 121]) rfl ?_
          obtain ⟨s36, hc35, h⟩ := bu_so h
          have hq34 : Q 2 sio tt cc d 188 0 [some (.ref 121), some (.int 100), some (.int (-1))] [] s (.inl none, s36) := dt188 (by omega) hl  hc35
          refine Q.callV (gC_vi zm185 (show zM185.2.2.2.2.2[61]? = some (116, 3, .invokevirtual 240, [0, 188, 2, 9]) from rfl) zm188 (hl.lt (a := 121) (by decide)) (hl.T (a := 121) (p := (9, 45)) 43 rfl rfl) rfl (show aCr 2 121 [.int (-1), .int 100, .ref 121] 3 = some ([some (.ref 121), some (.int 100), some (.int (-1))], []) from rfl)) hq34 ?_
          refine Q.run zm185 2 (i' := 64) (ls' := [some (.ref 121), some (.int r3)]) (st' := [.ref 121, .ref 121]) rfl ?_
          refine Q.map (A.gf (gI_of zm185 (e := (121, 3, .getfield 237, [9, 33])) rfl) (hq34.1.lt (a := 121) (by decide)) (hq34.1.T (a := 121) (p := (9, 45)) 43 rfl rfl) (by decide) rfl) ?_
          refine Q.run zm185 2 (i' := 67) (ls' := [some (.ref 121), some (.int r3)]) (st' := [.int ((sI s36 121 33) + 1), .ref 121]) rfl ?_
          obtain ⟨s37, hs38, h⟩ := nx_so h
          refine Q.pf hs38 rfl (gI_of zm185 (e := (126, 3, .putfield 237, [9, 33, 0])) rfl) (hq34.1.lt (a := 121) (by decide)) (by decide) (hq34.1.T (a := 121) (p := (9, 45)) 43 rfl rfl) (by decide) rfl rfl ?_
          have hl39 : Ly tt cc s37 := by rw [hs38]; exact hq34.1.wId (by decide)
          refine Q.run zm185 2 (i' := 70) (ls' := [some (.ref 121), some (.int r3)]) (st' := [.int 0, .ref 121]) rfl ?_
          obtain ⟨s40, hs41, h⟩ := nx_so h
          refine Q.pf hs41 rfl (gI_of zm185 (e := (131, 3, .putfield 243, [9, 35, 0])) rfl) (hl39.lt (a := 121) (by decide)) (by decide) (hl39.T (a := 121) (p := (9, 45)) 43 rfl rfl) (by decide) rfl rfl ?_
          have hl42 : Ly tt cc s40 := by rw [hs41]; exact hl39.wId (by decide)
          refine Q.run zm185 2 (i' := 73) (ls' := [some (.ref 121), some (.int r3)]) (st' := [.ref 121, .ref 121]) rfl ?_
          refine Q.map (A.gf (gI_of zm185 (e := (136, 3, .getfield 138, [9, 26])) rfl) (hl42.lt (a := 121) (by decide)) (hl42.T (a := 121) (p := (9, 45)) 43 rfl rfl) (by decide) rfl) ?_
          refine Q.run zm185 2 (i' := 76) (ls' := [some (.ref 121), some (.int r3)]) (st' := [.int ((sI s40 121 26) + 1), .ref 121]) rfl ?_
          obtain ⟨s43, hs44, h⟩ := nx_so h
          refine Q.pf hs44 rfl (gI_of zm185 (e := (141, 3, .putfield 138, [9, 26, 0])) rfl) (hl42.lt (a := 121) (by decide)) (by decide) (hl42.T (a := 121) (p := (9, 45)) 43 rfl rfl) (by decide) rfl rfl ?_
          have hl45 : Ly tt cc s43 := by rw [hs44]; exact hl42.wId (by decide)
          refine Q.run zm185 1 (i' := 120) (ls' := [some (.ref 121), some (.int r3)]) (st' := []) rfl ?_
          cases h
          exact Q.ret (A.rv zm185 (show zM185.2.2.2.2.2[120]? = some (233, 1, .return_, []) from rfl) rfl) hl45
      · rw [if_neg hc29] at h
        refine Q.map (A.bT (gI_of zm185 (e := (91, 3, .if_icmp .ne 56, [78])) rfl) (decide_eq_true hc29)) ?_
        refine Q.run zm185 2 (i' := 80) (ls' := [some (.ref 121), some (.int r3)]) (st' := [.int 41, .int r3]) rfl ?_
        by_cases hc46 : r3 = 41
        · rw [if_pos hc46] at h
          refine Q.map (A.bF (gI_of zm185 (e := (150, 3, .if_icmp .ne 18, [88])) rfl) (fun q => of_decide_eq_true q hc46)) ?_
          refine Q.run zm185 1 (i' := 82) (ls' := [some (.ref 121), some (.int r3)]) (st' := [.ref 121]) rfl ?_
          refine Q.map (A.gf (gI_of zm185 (e := (154, 3, .getfield 243, [9, 35])) rfl) (hl.lt (a := 121) (by decide)) (hl.T (a := 121) (p := (9, 45)) 43 rfl rfl) (by decide) rfl) ?_
          refine Q.run zm185 1 (i' := 84) (ls' := [some (.ref 121), some (.int r3)]) (st' := [.int 1, .int (sI s 121 35)]) rfl ?_
          by_cases hc47 : (sI s 121 35) = 1
          · rw [if_pos hc47] at h
            refine Q.map (A.bF (gI_of zm185 (e := (158, 3, .if_icmp .ne 10, [88])) rfl) (fun q => of_decide_eq_true q hc47)) ?_
            refine Q.run zm185 1 (i' := 86) (ls' := [some (.ref 121), some (.int r3)]) (st' := [.ref 121]) rfl ?_
            obtain ⟨s50, hc49, h⟩ := bu_so h
            have hq48 : Q 2 sio tt cc d 189 0 [some (.ref 121), none] [] s (.inl none, s50) := dt189 (by omega) hl  hc49
            refine Q.callV (gC_vi zm185 (show zM185.2.2.2.2.2[86]? = some (162, 3, .invokevirtual 276, [0, 189, 0, 9]) from rfl) zm189 (hl.lt (a := 121) (by decide)) (hl.T (a := 121) (p := (9, 45)) 43 rfl rfl) rfl (show aCr 0 121 [.ref 121] 2 = some ([some (.ref 121), none], []) from rfl)) hq48 ?_
            refine Q.run zm185 1 (i' := 120) (ls' := [some (.ref 121), some (.int r3)]) (st' := []) rfl ?_
            cases h
            exact Q.ret (A.rv zm185 (show zM185.2.2.2.2.2[120]? = some (233, 1, .return_, []) from rfl) rfl) hq48.1
          · rw [if_neg hc47] at h
            refine Q.map (A.bT (gI_of zm185 (e := (158, 3, .if_icmp .ne 10, [88])) rfl) (decide_eq_true hc47)) ?_
            exact dt185_88 hd hl  h
        · rw [if_neg hc46] at h
          refine Q.map (A.bT (gI_of zm185 (e := (150, 3, .if_icmp .ne 18, [88])) rfl) (decide_eq_true hc46)) ?_
          exact dt185_88 hd hl  h
/-! 217 FormulaTreesModel.operator()I -/
set_option maxRecDepth 100000 in
theorem zm217 : zP[217]? = some zM217 := rfl
def dm217 (s : aS) : Option (Int32) :=
  bu (dm176 (sI s 121 26) s) fun r3 =>
  bu (dm176 ((sI s 121 26) + 1) s) fun r6 =>
  if r3 = 38 then
    some 116
  else
    if r3 = 42 then
      some 112
    else
      if r3 = 43 then
        some 114
      else
        if r3 = 45 then
          some 115
        else
          if r3 = 47 then
            some 113
          else
            if r3 = 60 then
              if r6 = 62 then
                some 218
              else
                if r6 = 61 then
                  some 221
                else
                  some 119
            else
              if r3 = 61 then
                some 117
              else
                if r3 = 62 then
                  if r6 = 61 then
                    some 222
                  else
                    some 120
                else
                  if r3 = 94 then
                    some 111
                  else
                    some 0
set_option maxRecDepth 100000 in
theorem dt217 {sio : Bool} {tt : Nat} {cc : Nat → Nat → Int32} {d : Nat} (hd : 1 ≤ d) {s : aS} (hl : Ly tt cc s) {o : Int32} (h : dm217  s = some o) : Q 2 sio tt cc d 217 0 [some (.ref 121), none, none] [] s (.inl (some (.int o)), s) := by
  unfold dm217 at h
  obtain ⟨d, rfl⟩ : ∃ e, d = e + 1 := ⟨d - 1, by omega⟩
  refine Q.run zm217 2 (i' := 2) (ls' := [some (.ref 121), none, none]) (st' := [.ref 121, .ref 121]) rfl ?_
  refine Q.map (A.gf (gI_of zm217 (e := (2, 3, .getfield 138, [9, 26])) rfl) (hl.lt (a := 121) (by decide)) (hl.T (a := 121) (p := (9, 45)) 43 rfl rfl) (by decide) rfl) ?_
  obtain ⟨r3, hc2, h⟩ := bu_so h
  have hq1 : Q 2 sio tt cc d 176 0 [some (.ref 121), some (.int (sI s 121 26))] [] s (.inl (some (.int r3)), s) := dt176 (by omega) hl  hc2
  refine Q.callI (gC_vi zm217 (show zM217.2.2.2.2.2[3]? = some (5, 3, .invokevirtual 113, [0, 176, 1, 9]) from rfl) zm176 (hl.lt (a := 121) (by decide)) (hl.T (a := 121) (p := (9, 45)) 43 rfl rfl) rfl (show aCr 1 121 [.int (sI s 121 26), .ref 121] 2 = some ([some (.ref 121), some (.int (sI s 121 26))], []) from rfl)) hq1 ?_
  refine Q.run zm217 3 (i' := 7) (ls' := [some (.ref 121), some (.int r3), none]) (st' := [.ref 121, .ref 121]) rfl ?_
  refine Q.map (A.gf (gI_of zm217 (e := (11, 3, .getfield 138, [9, 26])) rfl) (hl.lt (a := 121) (by decide)) (hl.T (a := 121) (p := (9, 45)) 43 rfl rfl) (by decide) rfl) ?_
  refine Q.run zm217 2 (i' := 10) (ls' := [some (.ref 121), some (.int r3), none]) (st' := [.int ((sI s 121 26) + 1), .ref 121]) rfl ?_
  obtain ⟨r6, hc5, h⟩ := bu_so h
  have hq4 : Q 2 sio tt cc d 176 0 [some (.ref 121), some (.int ((sI s 121 26) + 1))] [] s (.inl (some (.int r6)), s) := dt176 (by omega) hl  hc5
  refine Q.callI (gC_vi zm217 (show zM217.2.2.2.2.2[10]? = some (16, 3, .invokevirtual 113, [0, 176, 1, 9]) from rfl) zm176 (hl.lt (a := 121) (by decide)) (hl.T (a := 121) (p := (9, 45)) 43 rfl rfl) rfl (show aCr 1 121 [.int ((sI s 121 26) + 1), .ref 121] 2 = some ([some (.ref 121), some (.int ((sI s 121 26) + 1))], []) from rfl)) hq4 ?_
  refine Q.run zm217 2 (i' := 13) (ls' := [some (.ref 121), some (.int r3), some (.int r6)]) (st' := [.int r3]) rfl ?_
  by_cases hc7 : r3 = 38
  · rw [if_pos hc7] at h
    refine Q.map (A.lk (gI_of zm217 (e := (21, 83, .lookupswitch 146 #[(38, 98), (42, 86), (43, 92), (45, 95), (47, 89), (60, 104), (61, 101), (62, 131), (94, 83)], [47, 24, 16, 20, 22, 18, 28, 26, 40, 14])) rfl) (t := 24) (by rw [hc7] <;> decide)) ?_
    refine Q.run zm217 1 (i' := 25) (ls' := [some (.ref 121), some (.int r3), some (.int r6)]) (st' := [.int 116]) rfl ?_
    cases h
    exact Q.ret (A.ri zm217 (show zM217.2.2.2.2.2[25]? = some (121, 1, .ireturn, []) from rfl) rfl rfl) hl
  · rw [if_neg hc7] at h
    by_cases hc8 : r3 = 42
    · rw [if_pos hc8] at h
      refine Q.map (A.lk (gI_of zm217 (e := (21, 83, .lookupswitch 146 #[(38, 98), (42, 86), (43, 92), (45, 95), (47, 89), (60, 104), (61, 101), (62, 131), (94, 83)], [47, 24, 16, 20, 22, 18, 28, 26, 40, 14])) rfl) (t := 16) (by rw [hc8] <;> decide)) ?_
      refine Q.run zm217 1 (i' := 17) (ls' := [some (.ref 121), some (.int r3), some (.int r6)]) (st' := [.int 112]) rfl ?_
      cases h
      exact Q.ret (A.ri zm217 (show zM217.2.2.2.2.2[17]? = some (109, 1, .ireturn, []) from rfl) rfl rfl) hl
    · rw [if_neg hc8] at h
      by_cases hc9 : r3 = 43
      · rw [if_pos hc9] at h
        refine Q.map (A.lk (gI_of zm217 (e := (21, 83, .lookupswitch 146 #[(38, 98), (42, 86), (43, 92), (45, 95), (47, 89), (60, 104), (61, 101), (62, 131), (94, 83)], [47, 24, 16, 20, 22, 18, 28, 26, 40, 14])) rfl) (t := 20) (by rw [hc9] <;> decide)) ?_
        refine Q.run zm217 1 (i' := 21) (ls' := [some (.ref 121), some (.int r3), some (.int r6)]) (st' := [.int 114]) rfl ?_
        cases h
        exact Q.ret (A.ri zm217 (show zM217.2.2.2.2.2[21]? = some (115, 1, .ireturn, []) from rfl) rfl rfl) hl
      · rw [if_neg hc9] at h
        by_cases hc10 : r3 = 45
        · rw [if_pos hc10] at h
          refine Q.map (A.lk (gI_of zm217 (e := (21, 83, .lookupswitch 146 #[(38, 98), (42, 86), (43, 92), (45, 95), (47, 89), (60, 104), (61, 101), (62, 131), (94, 83)], [47, 24, 16, 20, 22, 18, 28, 26, 40, 14])) rfl) (t := 22) (by rw [hc10] <;> decide)) ?_
          refine Q.run zm217 1 (i' := 23) (ls' := [some (.ref 121), some (.int r3), some (.int r6)]) (st' := [.int 115]) rfl ?_
          cases h
          exact Q.ret (A.ri zm217 (show zM217.2.2.2.2.2[23]? = some (118, 1, .ireturn, []) from rfl) rfl rfl) hl
        · rw [if_neg hc10] at h
          by_cases hc11 : r3 = 47
          · rw [if_pos hc11] at h
            refine Q.map (A.lk (gI_of zm217 (e := (21, 83, .lookupswitch 146 #[(38, 98), (42, 86), (43, 92), (45, 95), (47, 89), (60, 104), (61, 101), (62, 131), (94, 83)], [47, 24, 16, 20, 22, 18, 28, 26, 40, 14])) rfl) (t := 18) (by rw [hc11] <;> decide)) ?_
            refine Q.run zm217 1 (i' := 19) (ls' := [some (.ref 121), some (.int r3), some (.int r6)]) (st' := [.int 113]) rfl ?_
            cases h
            exact Q.ret (A.ri zm217 (show zM217.2.2.2.2.2[19]? = some (112, 1, .ireturn, []) from rfl) rfl rfl) hl
          · rw [if_neg hc11] at h
            by_cases hc12 : r3 = 60
            · rw [if_pos hc12] at h
              refine Q.map (A.lk (gI_of zm217 (e := (21, 83, .lookupswitch 146 #[(38, 98), (42, 86), (43, 92), (45, 95), (47, 89), (60, 104), (61, 101), (62, 131), (94, 83)], [47, 24, 16, 20, 22, 18, 28, 26, 40, 14])) rfl) (t := 28) (by rw [hc12] <;> decide)) ?_
              refine Q.run zm217 2 (i' := 30) (ls' := [some (.ref 121), some (.int r3), some (.int r6)]) (st' := [.int 62, .int r6]) rfl ?_
              by_cases hc13 : r6 = 62
              · rw [if_pos hc13] at h
                refine Q.map (A.bF (gI_of zm217 (e := (128, 3, .if_icmp .ne 9, [33])) rfl) (fun q => of_decide_eq_true q hc13)) ?_
                refine Q.run zm217 2 (i' := 39) (ls' := [some (.ref 121), some (.int r3), some (.int r6)]) (st' := [.int 218]) rfl ?_
                cases h
                exact Q.ret (A.ri zm217 (show zM217.2.2.2.2.2[39]? = some (151, 1, .ireturn, []) from rfl) rfl rfl) hl
              · rw [if_neg hc13] at h
                refine Q.map (A.bT (gI_of zm217 (e := (128, 3, .if_icmp .ne 9, [33])) rfl) (decide_eq_true hc13)) ?_
                refine Q.run zm217 2 (i' := 35) (ls' := [some (.ref 121), some (.int r3), some (.int r6)]) (st' := [.int 61, .int r6]) rfl ?_
                by_cases hc14 : r6 = 61
                · rw [if_pos hc14] at h
                  refine Q.map (A.bF (gI_of zm217 (e := (140, 3, .if_icmp .ne 9, [38])) rfl) (fun q => of_decide_eq_true q hc14)) ?_
                  refine Q.run zm217 2 (i' := 39) (ls' := [some (.ref 121), some (.int r3), some (.int r6)]) (st' := [.int 221]) rfl ?_
                  cases h
                  exact Q.ret (A.ri zm217 (show zM217.2.2.2.2.2[39]? = some (151, 1, .ireturn, []) from rfl) rfl rfl) hl
                · rw [if_neg hc14] at h
                  refine Q.map (A.bT (gI_of zm217 (e := (140, 3, .if_icmp .ne 9, [38])) rfl) (decide_eq_true hc14)) ?_
                  refine Q.run zm217 1 (i' := 39) (ls' := [some (.ref 121), some (.int r3), some (.int r6)]) (st' := [.int 119]) rfl ?_
                  cases h
                  exact Q.ret (A.ri zm217 (show zM217.2.2.2.2.2[39]? = some (151, 1, .ireturn, []) from rfl) rfl rfl) hl
            · rw [if_neg hc12] at h
              by_cases hc15 : r3 = 61
              · rw [if_pos hc15] at h
                refine Q.map (A.lk (gI_of zm217 (e := (21, 83, .lookupswitch 146 #[(38, 98), (42, 86), (43, 92), (45, 95), (47, 89), (60, 104), (61, 101), (62, 131), (94, 83)], [47, 24, 16, 20, 22, 18, 28, 26, 40, 14])) rfl) (t := 26) (by rw [hc15] <;> decide)) ?_
                refine Q.run zm217 1 (i' := 27) (ls' := [some (.ref 121), some (.int r3), some (.int r6)]) (st' := [.int 117]) rfl ?_
                cases h
                exact Q.ret (A.ri zm217 (show zM217.2.2.2.2.2[27]? = some (124, 1, .ireturn, []) from rfl) rfl rfl) hl
              · rw [if_neg hc15] at h
                by_cases hc16 : r3 = 62
                · rw [if_pos hc16] at h
                  refine Q.map (A.lk (gI_of zm217 (e := (21, 83, .lookupswitch 146 #[(38, 98), (42, 86), (43, 92), (45, 95), (47, 89), (60, 104), (61, 101), (62, 131), (94, 83)], [47, 24, 16, 20, 22, 18, 28, 26, 40, 14])) rfl) (t := 40) (by rw [hc16] <;> decide)) ?_
                  refine Q.run zm217 2 (i' := 42) (ls' := [some (.ref 121), some (.int r3), some (.int r6)]) (st' := [.int 61, .int r6]) rfl ?_
                  by_cases hc17 : r6 = 61
                  · rw [if_pos hc17] at h
                    refine Q.map (A.bF (gI_of zm217 (e := (155, 3, .if_icmp .ne 9, [45])) rfl) (fun q => of_decide_eq_true q hc17)) ?_
                    refine Q.run zm217 2 (i' := 46) (ls' := [some (.ref 121), some (.int r3), some (.int r6)]) (st' := [.int 222]) rfl ?_
                    cases h
                    exact Q.ret (A.ri zm217 (show zM217.2.2.2.2.2[46]? = some (166, 1, .ireturn, []) from rfl) rfl rfl) hl
                  · rw [if_neg hc17] at h
                    refine Q.map (A.bT (gI_of zm217 (e := (155, 3, .if_icmp .ne 9, [45])) rfl) (decide_eq_true hc17)) ?_
                    refine Q.run zm217 1 (i' := 46) (ls' := [some (.ref 121), some (.int r3), some (.int r6)]) (st' := [.int 120]) rfl ?_
                    cases h
                    exact Q.ret (A.ri zm217 (show zM217.2.2.2.2.2[46]? = some (166, 1, .ireturn, []) from rfl) rfl rfl) hl
                · rw [if_neg hc16] at h
                  by_cases hc18 : r3 = 94
                  · rw [if_pos hc18] at h
                    refine Q.map (A.lk (gI_of zm217 (e := (21, 83, .lookupswitch 146 #[(38, 98), (42, 86), (43, 92), (45, 95), (47, 89), (60, 104), (61, 101), (62, 131), (94, 83)], [47, 24, 16, 20, 22, 18, 28, 26, 40, 14])) rfl) (t := 14) (by rw [hc18] <;> decide)) ?_
                    refine Q.run zm217 1 (i' := 15) (ls' := [some (.ref 121), some (.int r3), some (.int r6)]) (st' := [.int 111]) rfl ?_
                    cases h
                    exact Q.ret (A.ri zm217 (show zM217.2.2.2.2.2[15]? = some (106, 1, .ireturn, []) from rfl) rfl rfl) hl
                  · rw [if_neg hc18] at h
                    refine Q.map (A.lk (gI_of zm217 (e := (21, 83, .lookupswitch 146 #[(38, 98), (42, 86), (43, 92), (45, 95), (47, 89), (60, 104), (61, 101), (62, 131), (94, 83)], [47, 24, 16, 20, 22, 18, 28, 26, 40, 14])) rfl) (t := 47) (by have := (show r3.toInt ≠ 38 ∧ r3.toInt ≠ 42 ∧ r3.toInt ≠ 43 ∧ r3.toInt ≠ 45 ∧ r3.toInt ≠ 47 ∧ r3.toInt ≠ 60 ∧ r3.toInt ≠ 61 ∧ r3.toInt ≠ 62 ∧ r3.toInt ≠ 94 from ⟨i32_ne (n := 38) hc7 (by decide), i32_ne (n := 42) hc8 (by decide), i32_ne (n := 43) hc9 (by decide), i32_ne (n := 45) hc10 (by decide), i32_ne (n := 47) hc11 (by decide), i32_ne (n := 60) hc12 (by decide), i32_ne (n := 61) hc15 (by decide), i32_ne (n := 62) hc16 (by decide), i32_ne (n := 94) hc18 (by decide)⟩); simp [xlk, this])) ?_
                    refine Q.run zm217 1 (i' := 48) (ls' := [some (.ref 121), some (.int r3), some (.int r6)]) (st' := [.int 0]) rfl ?_
                    cases h
                    exact Q.ret (A.ri zm217 (show zM217.2.2.2.2.2[48]? = some (168, 1, .ireturn, []) from rfl) rfl rfl) hl
/-! 219 FormulaTreesModel.sort(I)V -/
set_option maxRecDepth 100000 in
theorem zm219 : zP[219]? = some zM219 := rfl
def dm219_55 (x1 : Int32) (s : aS) : Option (aS) :=
  if aB x1 1152 then
    if aB x1 1152 then
      if (sI s 132 (jN x1)) ≤ (sI s 134 (jN x1)) then
        some s
      else
        if aB x1 1152 then
          if aB x1 1152 then
            if aB x1 1152 then
              nx (wI s 132 (jN x1) (sI s 134 (jN x1))) fun s7 =>
              if aB x1 1152 then
                nx (wI s7 134 (jN x1) (sI s 132 (jN x1))) fun s11 =>
                if aB x1 1152 then
                  if aB x1 1152 then
                    if aB x1 1152 then
                      if aB x1 1152 then
                        nx (wI s11 135 (jN x1) ((((sI s11 135 (jN x1)) &&& 5) ||| (((sI s11 135 (jN x1)) &&& 2) <<< ((2 : Int32) &&& 31))) ||| (((sI s11 135 (jN x1)) >>> ((2 : Int32) &&& 31)) &&& 2))) fun s18 =>
                        some s18
                      else none
                    else none
                  else none
                else none
              else none
            else none
          else none
        else none
    else none
  else none
set_option maxRecDepth 100000 in
theorem dt219_55 {sio : Bool} {tt : Nat} {cc : Nat → Nat → Int32} {d : Nat} (hd : 0 ≤ d) {x1 : Int32} {g2 : Option Value} {s : aS} (hl : Ly tt cc s) {o : aS} (h : dm219_55  x1 s = some o) : Q 2 sio tt cc d 219 55 [some (.ref 121), some (.int x1), g2] [] s (.inl none, o) := by
  unfold dm219_55 at h
  refine Q.run zm219 1 (i' := 56) (ls' := [some (.ref 121), some (.int x1), g2]) (st' := [.ref 121]) rfl ?_
  refine Q.map (A.gf (gI_of zm219 (e := (79, 3, .getfield 41, [9, 13])) rfl) (hl.lt (a := 121) (by decide)) (hl.T (a := 121) (p := (9, 45)) 43 rfl rfl) (by decide) (hl.R 33 rfl)) ?_
  refine Q.run zm219 1 (i' := 58) (ls' := [some (.ref 121), some (.int x1), g2]) (st' := [.int x1, .ref 132]) rfl ?_
  obtain ⟨hc1, h⟩ := ite_so h
  refine Q.map (A.ia (gI_of zm219 (e := (83, 1, .iaload, [])) rfl) (hl.lt (a := 132) (by decide)) (hl.T (a := 132) (p := (100, 1152)) 54 rfl rfl) hc1) ?_
  refine Q.run zm219 1 (i' := 60) (ls' := [some (.ref 121), some (.int x1), g2]) (st' := [.ref 121, .int (sI s 132 (jN x1))]) rfl ?_
  refine Q.map (A.gf (gI_of zm219 (e := (85, 3, .getfield 47, [9, 15])) rfl) (hl.lt (a := 121) (by decide)) (hl.T (a := 121) (p := (9, 45)) 43 rfl rfl) (by decide) (hl.R 35 rfl)) ?_
  refine Q.run zm219 1 (i' := 62) (ls' := [some (.ref 121), some (.int x1), g2]) (st' := [.int x1, .ref 134, .int (sI s 132 (jN x1))]) rfl ?_
  obtain ⟨hc2, h⟩ := ite_so h
  refine Q.map (A.ia (gI_of zm219 (e := (89, 1, .iaload, [])) rfl) (hl.lt (a := 134) (by decide)) (hl.T (a := 134) (p := (100, 1152)) 56 rfl rfl) hc2) ?_
  by_cases hc3 : (sI s 132 (jN x1)) ≤ (sI s 134 (jN x1))
  · rw [if_pos hc3] at h
    refine Q.map (A.bT (gI_of zm219 (e := (90, 3, .if_icmp .le 65, [110])) rfl) (decide_eq_true hc3)) ?_
    cases h
    exact Q.ret (A.rv zm219 (show zM219.2.2.2.2.2[110]? = some (155, 1, .return_, []) from rfl) rfl) hl
  · rw [if_neg hc3] at h
    refine Q.map (A.bF (gI_of zm219 (e := (90, 3, .if_icmp .le 65, [110])) rfl) (fun q => hc3 (of_decide_eq_true q))) ?_
    refine Q.run zm219 1 (i' := 65) (ls' := [some (.ref 121), some (.int x1), g2]) (st' := [.ref 121]) rfl ?_
    refine Q.map (A.gf (gI_of zm219 (e := (94, 3, .getfield 41, [9, 13])) rfl) (hl.lt (a := 121) (by decide)) (hl.T (a := 121) (p := (9, 45)) 43 rfl rfl) (by decide) (hl.R 33 rfl)) ?_
    refine Q.run zm219 1 (i' := 67) (ls' := [some (.ref 121), some (.int x1), g2]) (st' := [.int x1, .ref 132]) rfl ?_
    obtain ⟨hc4, h⟩ := ite_so h
    refine Q.map (A.ia (gI_of zm219 (e := (98, 1, .iaload, [])) rfl) (hl.lt (a := 132) (by decide)) (hl.T (a := 132) (p := (100, 1152)) 54 rfl rfl) hc4) ?_
    refine Q.run zm219 2 (i' := 70) (ls' := [some (.ref 121), some (.int x1), some (.int (sI s 132 (jN x1)))]) (st' := [.ref 121]) rfl ?_
    refine Q.map (A.gf (gI_of zm219 (e := (101, 3, .getfield 41, [9, 13])) rfl) (hl.lt (a := 121) (by decide)) (hl.T (a := 121) (p := (9, 45)) 43 rfl rfl) (by decide) (hl.R 33 rfl)) ?_
    refine Q.run zm219 2 (i' := 73) (ls' := [some (.ref 121), some (.int x1), some (.int (sI s 132 (jN x1)))]) (st' := [.ref 121, .int x1, .ref 132]) rfl ?_
    refine Q.map (A.gf (gI_of zm219 (e := (106, 3, .getfield 47, [9, 15])) rfl) (hl.lt (a := 121) (by decide)) (hl.T (a := 121) (p := (9, 45)) 43 rfl rfl) (by decide) (hl.R 35 rfl)) ?_
    refine Q.run zm219 1 (i' := 75) (ls' := [some (.ref 121), some (.int x1), some (.int (sI s 132 (jN x1)))]) (st' := [.int x1, .ref 134, .int x1, .ref 132]) rfl ?_
    obtain ⟨hc5, h⟩ := ite_so h
    refine Q.map (A.ia (gI_of zm219 (e := (110, 1, .iaload, [])) rfl) (hl.lt (a := 134) (by decide)) (hl.T (a := 134) (p := (100, 1152)) 56 rfl rfl) hc5) ?_
    obtain ⟨hc6, h⟩ := ite_so h
    obtain ⟨s7, hs8, h⟩ := nx_so h
    refine Q.is hs8 rfl (gI_of zm219 (e := (111, 1, .iastore, [])) rfl) (hl.lt (a := 132) (by decide)) (by decide) (hl.T (a := 132) (p := (100, 1152)) 54 rfl rfl) hc6 ?_
    have hl9 : Ly tt cc s7 := by rw [hs8]; exact hl.wId (by decide)
    refine Q.run zm219 1 (i' := 78) (ls' := [some (.ref 121), some (.int x1), some (.int (sI s 132 (jN x1)))]) (st' := [.ref 121]) rfl ?_
    refine Q.map (A.gf (gI_of zm219 (e := (113, 3, .getfield 47, [9, 15])) rfl) (hl9.lt (a := 121) (by decide)) (hl9.T (a := 121) (p := (9, 45)) 43 rfl rfl) (by decide) (hl9.R 35 rfl)) ?_
    refine Q.run zm219 2 (i' := 81) (ls' := [some (.ref 121), some (.int x1), some (.int (sI s 132 (jN x1)))]) (st' := [.int (sI s 132 (jN x1)), .int x1, .ref 134]) rfl ?_
    obtain ⟨hc10, h⟩ := ite_so h
    obtain ⟨s11, hs12, h⟩ := nx_so h
    refine Q.is hs12 rfl (gI_of zm219 (e := (118, 1, .iastore, [])) rfl) (hl9.lt (a := 134) (by decide)) (by decide) (hl9.T (a := 134) (p := (100, 1152)) 56 rfl rfl) hc10 ?_
    have hl13 : Ly tt cc s11 := by rw [hs12]; exact hl9.wId (by decide)
    refine Q.run zm219 1 (i' := 83) (ls' := [some (.ref 121), some (.int x1), some (.int (sI s 132 (jN x1)))]) (st' := [.ref 121]) rfl ?_
    refine Q.map (A.gf (gI_of zm219 (e := (120, 3, .getfield 50, [9, 16])) rfl) (hl13.lt (a := 121) (by decide)) (hl13.T (a := 121) (p := (9, 45)) 43 rfl rfl) (by decide) (hl13.R 36 rfl)) ?_
    refine Q.run zm219 2 (i' := 86) (ls' := [some (.ref 121), some (.int x1), some (.int (sI s 132 (jN x1)))]) (st' := [.ref 121, .int x1, .ref 135]) rfl ?_
    refine Q.map (A.gf (gI_of zm219 (e := (125, 3, .getfield 50, [9, 16])) rfl) (hl13.lt (a := 121) (by decide)) (hl13.T (a := 121) (p := (9, 45)) 43 rfl rfl) (by decide) (hl13.R 36 rfl)) ?_
    refine Q.run zm219 1 (i' := 88) (ls' := [some (.ref 121), some (.int x1), some (.int (sI s 132 (jN x1)))]) (st' := [.int x1, .ref 135, .int x1, .ref 135]) rfl ?_
    obtain ⟨hc14, h⟩ := ite_so h
    refine Q.map (A.ia (gI_of zm219 (e := (129, 1, .iaload, [])) rfl) (hl13.lt (a := 135) (by decide)) (hl13.T (a := 135) (p := (100, 1152)) 57 rfl rfl) hc14) ?_
    refine Q.run zm219 3 (i' := 92) (ls' := [some (.ref 121), some (.int x1), some (.int (sI s 132 (jN x1)))]) (st' := [.ref 121, .int ((sI s11 135 (jN x1)) &&& 5), .int x1, .ref 135]) rfl ?_
    refine Q.map (A.gf (gI_of zm219 (e := (133, 3, .getfield 50, [9, 16])) rfl) (hl13.lt (a := 121) (by decide)) (hl13.T (a := 121) (p := (9, 45)) 43 rfl rfl) (by decide) (hl13.R 36 rfl)) ?_
    refine Q.run zm219 1 (i' := 94) (ls' := [some (.ref 121), some (.int x1), some (.int (sI s 132 (jN x1)))]) (st' := [.int x1, .ref 135, .int ((sI s11 135 (jN x1)) &&& 5), .int x1, .ref 135]) rfl ?_
    obtain ⟨hc15, h⟩ := ite_so h
    refine Q.map (A.ia (gI_of zm219 (e := (137, 1, .iaload, [])) rfl) (hl13.lt (a := 135) (by decide)) (hl13.T (a := 135) (p := (100, 1152)) 57 rfl rfl) hc15) ?_
    refine Q.run zm219 6 (i' := 101) (ls' := [some (.ref 121), some (.int x1), some (.int (sI s 132 (jN x1)))]) (st' := [.ref 121, .int (((sI s11 135 (jN x1)) &&& 5) ||| (((sI s11 135 (jN x1)) &&& 2) <<< ((2 : Int32) &&& 31))), .int x1, .ref 135]) rfl ?_
    refine Q.map (A.gf (gI_of zm219 (e := (144, 3, .getfield 50, [9, 16])) rfl) (hl13.lt (a := 121) (by decide)) (hl13.T (a := 121) (p := (9, 45)) 43 rfl rfl) (by decide) (hl13.R 36 rfl)) ?_
    refine Q.run zm219 1 (i' := 103) (ls' := [some (.ref 121), some (.int x1), some (.int (sI s 132 (jN x1)))]) (st' := [.int x1, .ref 135, .int (((sI s11 135 (jN x1)) &&& 5) ||| (((sI s11 135 (jN x1)) &&& 2) <<< ((2 : Int32) &&& 31))), .int x1, .ref 135]) rfl ?_
    obtain ⟨hc16, h⟩ := ite_so h
    refine Q.map (A.ia (gI_of zm219 (e := (148, 1, .iaload, [])) rfl) (hl13.lt (a := 135) (by decide)) (hl13.T (a := 135) (p := (100, 1152)) 57 rfl rfl) hc16) ?_
    refine Q.run zm219 5 (i' := 109) (ls' := [some (.ref 121), some (.int x1), some (.int (sI s 132 (jN x1)))]) (st' := [.int ((((sI s11 135 (jN x1)) &&& 5) ||| (((sI s11 135 (jN x1)) &&& 2) <<< ((2 : Int32) &&& 31))) ||| (((sI s11 135 (jN x1)) >>> ((2 : Int32) &&& 31)) &&& 2)), .int x1, .ref 135]) rfl ?_
    obtain ⟨hc17, h⟩ := ite_so h
    obtain ⟨s18, hs19, h⟩ := nx_so h
    refine Q.is hs19 rfl (gI_of zm219 (e := (154, 1, .iastore, [])) rfl) (hl13.lt (a := 135) (by decide)) (by decide) (hl13.T (a := 135) (p := (100, 1152)) 57 rfl rfl) hc17 ?_
    have hl20 : Ly tt cc s18 := by rw [hs19]; exact hl13.wId (by decide)
    cases h
    exact Q.ret (A.rv zm219 (show zM219.2.2.2.2.2[110]? = some (155, 1, .return_, []) from rfl) rfl) hl20
def dm219 (x1 : Int32) (s : aS) : Option (aS) :=
  if aB x1 1152 then
    if aB x1 1152 then
      if (sI s 131 (jN x1)) ≤ (sI s 133 (jN x1)) then
        dm219_55 x1 s
      else
        if aB x1 1152 then
          if aB x1 1152 then
            if aB x1 1152 then
              nx (wI s 131 (jN x1) (sI s 133 (jN x1))) fun s7 =>
              if aB x1 1152 then
                nx (wI s7 133 (jN x1) (sI s 131 (jN x1))) fun s11 =>
                if aB x1 1152 then
                  if aB x1 1152 then
                    if aB x1 1152 then
                      if aB x1 1152 then
                        nx (wI s11 135 (jN x1) ((((sI s11 135 (jN x1)) &&& 10) ||| (((sI s11 135 (jN x1)) &&& 1) <<< ((2 : Int32) &&& 31))) ||| (((sI s11 135 (jN x1)) >>> ((2 : Int32) &&& 31)) &&& 1))) fun s18 =>
                        dm219_55 x1 s18
                      else none
                    else none
                  else none
                else none
              else none
            else none
          else none
        else none
    else none
  else none
set_option maxRecDepth 100000 in
theorem dt219 {sio : Bool} {tt : Nat} {cc : Nat → Nat → Int32} {d : Nat} (hd : 0 ≤ d) {x1 : Int32} {s : aS} (hl : Ly tt cc s) {o : aS} (h : dm219  x1 s = some o) : Q 2 sio tt cc d 219 0 [some (.ref 121), some (.int x1), none] [] s (.inl none, o) := by
  unfold dm219 at h
  refine Q.run zm219 1 (i' := 1) (ls' := [some (.ref 121), some (.int x1), none]) (st' := [.ref 121]) rfl ?_
  refine Q.map (A.gf (gI_of zm219 (e := (1, 3, .getfield 38, [9, 12])) rfl) (hl.lt (a := 121) (by decide)) (hl.T (a := 121) (p := (9, 45)) 43 rfl rfl) (by decide) (hl.R 32 rfl)) ?_
  refine Q.run zm219 1 (i' := 3) (ls' := [some (.ref 121), some (.int x1), none]) (st' := [.int x1, .ref 131]) rfl ?_
  obtain ⟨hc1, h⟩ := ite_so h
  refine Q.map (A.ia (gI_of zm219 (e := (5, 1, .iaload, [])) rfl) (hl.lt (a := 131) (by decide)) (hl.T (a := 131) (p := (100, 1152)) 53 rfl rfl) hc1) ?_
  refine Q.run zm219 1 (i' := 5) (ls' := [some (.ref 121), some (.int x1), none]) (st' := [.ref 121, .int (sI s 131 (jN x1))]) rfl ?_
  refine Q.map (A.gf (gI_of zm219 (e := (7, 3, .getfield 44, [9, 14])) rfl) (hl.lt (a := 121) (by decide)) (hl.T (a := 121) (p := (9, 45)) 43 rfl rfl) (by decide) (hl.R 34 rfl)) ?_
  refine Q.run zm219 1 (i' := 7) (ls' := [some (.ref 121), some (.int x1), none]) (st' := [.int x1, .ref 133, .int (sI s 131 (jN x1))]) rfl ?_
  obtain ⟨hc2, h⟩ := ite_so h
  refine Q.map (A.ia (gI_of zm219 (e := (11, 1, .iaload, [])) rfl) (hl.lt (a := 133) (by decide)) (hl.T (a := 133) (p := (100, 1152)) 55 rfl rfl) hc2) ?_
  by_cases hc3 : (sI s 131 (jN x1)) ≤ (sI s 133 (jN x1))
  · rw [if_pos hc3] at h
    refine Q.map (A.bT (gI_of zm219 (e := (12, 3, .if_icmp .le 66, [55])) rfl) (decide_eq_true hc3)) ?_
    exact dt219_55 hd hl  h
  · rw [if_neg hc3] at h
    refine Q.map (A.bF (gI_of zm219 (e := (12, 3, .if_icmp .le 66, [55])) rfl) (fun q => hc3 (of_decide_eq_true q))) ?_
    refine Q.run zm219 1 (i' := 10) (ls' := [some (.ref 121), some (.int x1), none]) (st' := [.ref 121]) rfl ?_
    refine Q.map (A.gf (gI_of zm219 (e := (16, 3, .getfield 38, [9, 12])) rfl) (hl.lt (a := 121) (by decide)) (hl.T (a := 121) (p := (9, 45)) 43 rfl rfl) (by decide) (hl.R 32 rfl)) ?_
    refine Q.run zm219 1 (i' := 12) (ls' := [some (.ref 121), some (.int x1), none]) (st' := [.int x1, .ref 131]) rfl ?_
    obtain ⟨hc4, h⟩ := ite_so h
    refine Q.map (A.ia (gI_of zm219 (e := (20, 1, .iaload, [])) rfl) (hl.lt (a := 131) (by decide)) (hl.T (a := 131) (p := (100, 1152)) 53 rfl rfl) hc4) ?_
    refine Q.run zm219 2 (i' := 15) (ls' := [some (.ref 121), some (.int x1), some (.int (sI s 131 (jN x1)))]) (st' := [.ref 121]) rfl ?_
    refine Q.map (A.gf (gI_of zm219 (e := (23, 3, .getfield 38, [9, 12])) rfl) (hl.lt (a := 121) (by decide)) (hl.T (a := 121) (p := (9, 45)) 43 rfl rfl) (by decide) (hl.R 32 rfl)) ?_
    refine Q.run zm219 2 (i' := 18) (ls' := [some (.ref 121), some (.int x1), some (.int (sI s 131 (jN x1)))]) (st' := [.ref 121, .int x1, .ref 131]) rfl ?_
    refine Q.map (A.gf (gI_of zm219 (e := (28, 3, .getfield 44, [9, 14])) rfl) (hl.lt (a := 121) (by decide)) (hl.T (a := 121) (p := (9, 45)) 43 rfl rfl) (by decide) (hl.R 34 rfl)) ?_
    refine Q.run zm219 1 (i' := 20) (ls' := [some (.ref 121), some (.int x1), some (.int (sI s 131 (jN x1)))]) (st' := [.int x1, .ref 133, .int x1, .ref 131]) rfl ?_
    obtain ⟨hc5, h⟩ := ite_so h
    refine Q.map (A.ia (gI_of zm219 (e := (32, 1, .iaload, [])) rfl) (hl.lt (a := 133) (by decide)) (hl.T (a := 133) (p := (100, 1152)) 55 rfl rfl) hc5) ?_
    obtain ⟨hc6, h⟩ := ite_so h
    obtain ⟨s7, hs8, h⟩ := nx_so h
    refine Q.is hs8 rfl (gI_of zm219 (e := (33, 1, .iastore, [])) rfl) (hl.lt (a := 131) (by decide)) (by decide) (hl.T (a := 131) (p := (100, 1152)) 53 rfl rfl) hc6 ?_
    have hl9 : Ly tt cc s7 := by rw [hs8]; exact hl.wId (by decide)
    refine Q.run zm219 1 (i' := 23) (ls' := [some (.ref 121), some (.int x1), some (.int (sI s 131 (jN x1)))]) (st' := [.ref 121]) rfl ?_
    refine Q.map (A.gf (gI_of zm219 (e := (35, 3, .getfield 44, [9, 14])) rfl) (hl9.lt (a := 121) (by decide)) (hl9.T (a := 121) (p := (9, 45)) 43 rfl rfl) (by decide) (hl9.R 34 rfl)) ?_
    refine Q.run zm219 2 (i' := 26) (ls' := [some (.ref 121), some (.int x1), some (.int (sI s 131 (jN x1)))]) (st' := [.int (sI s 131 (jN x1)), .int x1, .ref 133]) rfl ?_
    obtain ⟨hc10, h⟩ := ite_so h
    obtain ⟨s11, hs12, h⟩ := nx_so h
    refine Q.is hs12 rfl (gI_of zm219 (e := (40, 1, .iastore, [])) rfl) (hl9.lt (a := 133) (by decide)) (by decide) (hl9.T (a := 133) (p := (100, 1152)) 55 rfl rfl) hc10 ?_
    have hl13 : Ly tt cc s11 := by rw [hs12]; exact hl9.wId (by decide)
    refine Q.run zm219 1 (i' := 28) (ls' := [some (.ref 121), some (.int x1), some (.int (sI s 131 (jN x1)))]) (st' := [.ref 121]) rfl ?_
    refine Q.map (A.gf (gI_of zm219 (e := (42, 3, .getfield 50, [9, 16])) rfl) (hl13.lt (a := 121) (by decide)) (hl13.T (a := 121) (p := (9, 45)) 43 rfl rfl) (by decide) (hl13.R 36 rfl)) ?_
    refine Q.run zm219 2 (i' := 31) (ls' := [some (.ref 121), some (.int x1), some (.int (sI s 131 (jN x1)))]) (st' := [.ref 121, .int x1, .ref 135]) rfl ?_
    refine Q.map (A.gf (gI_of zm219 (e := (47, 3, .getfield 50, [9, 16])) rfl) (hl13.lt (a := 121) (by decide)) (hl13.T (a := 121) (p := (9, 45)) 43 rfl rfl) (by decide) (hl13.R 36 rfl)) ?_
    refine Q.run zm219 1 (i' := 33) (ls' := [some (.ref 121), some (.int x1), some (.int (sI s 131 (jN x1)))]) (st' := [.int x1, .ref 135, .int x1, .ref 135]) rfl ?_
    obtain ⟨hc14, h⟩ := ite_so h
    refine Q.map (A.ia (gI_of zm219 (e := (51, 1, .iaload, [])) rfl) (hl13.lt (a := 135) (by decide)) (hl13.T (a := 135) (p := (100, 1152)) 57 rfl rfl) hc14) ?_
    refine Q.run zm219 3 (i' := 37) (ls' := [some (.ref 121), some (.int x1), some (.int (sI s 131 (jN x1)))]) (st' := [.ref 121, .int ((sI s11 135 (jN x1)) &&& 10), .int x1, .ref 135]) rfl ?_
    refine Q.map (A.gf (gI_of zm219 (e := (56, 3, .getfield 50, [9, 16])) rfl) (hl13.lt (a := 121) (by decide)) (hl13.T (a := 121) (p := (9, 45)) 43 rfl rfl) (by decide) (hl13.R 36 rfl)) ?_
    refine Q.run zm219 1 (i' := 39) (ls' := [some (.ref 121), some (.int x1), some (.int (sI s 131 (jN x1)))]) (st' := [.int x1, .ref 135, .int ((sI s11 135 (jN x1)) &&& 10), .int x1, .ref 135]) rfl ?_
    obtain ⟨hc15, h⟩ := ite_so h
    refine Q.map (A.ia (gI_of zm219 (e := (60, 1, .iaload, [])) rfl) (hl13.lt (a := 135) (by decide)) (hl13.T (a := 135) (p := (100, 1152)) 57 rfl rfl) hc15) ?_
    refine Q.run zm219 6 (i' := 46) (ls' := [some (.ref 121), some (.int x1), some (.int (sI s 131 (jN x1)))]) (st' := [.ref 121, .int (((sI s11 135 (jN x1)) &&& 10) ||| (((sI s11 135 (jN x1)) &&& 1) <<< ((2 : Int32) &&& 31))), .int x1, .ref 135]) rfl ?_
    refine Q.map (A.gf (gI_of zm219 (e := (67, 3, .getfield 50, [9, 16])) rfl) (hl13.lt (a := 121) (by decide)) (hl13.T (a := 121) (p := (9, 45)) 43 rfl rfl) (by decide) (hl13.R 36 rfl)) ?_
    refine Q.run zm219 1 (i' := 48) (ls' := [some (.ref 121), some (.int x1), some (.int (sI s 131 (jN x1)))]) (st' := [.int x1, .ref 135, .int (((sI s11 135 (jN x1)) &&& 10) ||| (((sI s11 135 (jN x1)) &&& 1) <<< ((2 : Int32) &&& 31))), .int x1, .ref 135]) rfl ?_
    obtain ⟨hc16, h⟩ := ite_so h
    refine Q.map (A.ia (gI_of zm219 (e := (71, 1, .iaload, [])) rfl) (hl13.lt (a := 135) (by decide)) (hl13.T (a := 135) (p := (100, 1152)) 57 rfl rfl) hc16) ?_
    refine Q.run zm219 5 (i' := 54) (ls' := [some (.ref 121), some (.int x1), some (.int (sI s 131 (jN x1)))]) (st' := [.int ((((sI s11 135 (jN x1)) &&& 10) ||| (((sI s11 135 (jN x1)) &&& 1) <<< ((2 : Int32) &&& 31))) ||| (((sI s11 135 (jN x1)) >>> ((2 : Int32) &&& 31)) &&& 1)), .int x1, .ref 135]) rfl ?_
    obtain ⟨hc17, h⟩ := ite_so h
    obtain ⟨s18, hs19, h⟩ := nx_so h
    refine Q.is hs19 rfl (gI_of zm219 (e := (77, 1, .iastore, [])) rfl) (hl13.lt (a := 135) (by decide)) (by decide) (hl13.T (a := 135) (p := (100, 1152)) 57 rfl rfl) hc17 ?_
    have hl20 : Ly tt cc s18 := by rw [hs19]; exact hl13.wId (by decide)
    exact dt219_55 hd hl20  h
/-! 218 FormulaTreesModel.readRange()V -/
set_option maxRecDepth 100000 in
theorem zm218 : zP[218]? = some zM218 := rfl
def dm218_11 : Nat → Int32 → aS → Option (aS)
  | 0, _, _ => none
  | n + 1, x1, s =>
    bu (dm176 (sI s 121 26) s) fun r3 =>
    if r3 = 32 then
      nx (wI s 121 26 ((sI s 121 26) + 1)) fun s5 =>
      dm218_11 n x1 s5
    else
      bu (dm207 s) fun s10 =>
      if (sI s10 121 27) = 0 then
        if aB x1 1152 then
          nx (wI s10 128 (jN x1) 5) fun s13 =>
          if aB x1 1152 then
            nx (wI s13 133 (jN x1) (sI s13 121 39)) fun s17 =>
            if aB x1 1152 then
              nx (wI s17 134 (jN x1) (sI s17 121 40)) fun s21 =>
              if aB x1 1152 then
                if aB x1 1152 then
                  nx (wI s21 135 (jN x1) ((sI s21 135 (jN x1)) ||| ((sI s21 121 41) <<< ((2 : Int32) &&& 31)))) fun s26 =>
                  bu (dm219 x1 s26) fun s31 =>
                  nx (wI s31 121 34 (-1)) fun s32 =>
                  some s32
                else none
              else none
            else none
          else none
        else none
      else
        some s10
set_option maxRecDepth 100000 in
theorem dt218_11 {sio : Bool} {tt : Nat} {cc : Nat → Nat → Int32} {d : Nat} (hd : 3 ≤ d) : ∀ (n : Nat) {x1 : Int32} {s : aS} (_ : Ly tt cc s) {o : aS} (_ : dm218_11  n x1 s = some o), Q 2 sio tt cc d 218 11 [some (.ref 121), some (.int x1)] [] s (.inl none, o) := by
  obtain ⟨d, rfl⟩ : ∃ e, d = e + 1 := ⟨d - 1, by omega⟩
  intro n
  induction n with
  | zero => intro x1 s hl o h; rw [dm218_11] at h; cases h
  | succ n ih =>
    intro x1 s hl o h
    rw [dm218_11] at h
    refine Q.run zm218 2 (i' := 13) (ls' := [some (.ref 121), some (.int x1)]) (st' := [.ref 121, .ref 121]) rfl ?_
    refine Q.map (A.gf (gI_of zm218 (e := (21, 3, .getfield 138, [9, 26])) rfl) (hl.lt (a := 121) (by decide)) (hl.T (a := 121) (p := (9, 45)) 43 rfl rfl) (by decide) rfl) ?_
    obtain ⟨r3, hc2, h⟩ := bu_so h
    have hq1 : Q 2 sio tt cc d 176 0 [some (.ref 121), some (.int (sI s 121 26))] [] s (.inl (some (.int r3)), s) := dt176 (by omega) hl  hc2
    refine Q.callI (gC_vi zm218 (show zM218.2.2.2.2.2[14]? = some (24, 3, .invokevirtual 113, [0, 176, 1, 9]) from rfl) zm176 (hl.lt (a := 121) (by decide)) (hl.T (a := 121) (p := (9, 45)) 43 rfl rfl) rfl (show aCr 1 121 [.int (sI s 121 26), .ref 121] 2 = some ([some (.ref 121), some (.int (sI s 121 26))], []) from rfl)) hq1 ?_
    refine Q.run zm218 1 (i' := 16) (ls' := [some (.ref 121), some (.int x1)]) (st' := [.int 32, .int r3]) rfl ?_
    by_cases hc4 : r3 = 32
    · rw [if_pos hc4] at h
      refine Q.map (A.bF (gI_of zm218 (e := (29, 3, .if_icmp .ne 16, [24])) rfl) (fun q => of_decide_eq_true q hc4)) ?_
      refine Q.run zm218 2 (i' := 19) (ls' := [some (.ref 121), some (.int x1)]) (st' := [.ref 121, .ref 121]) rfl ?_
      refine Q.map (A.gf (gI_of zm218 (e := (34, 3, .getfield 138, [9, 26])) rfl) (hl.lt (a := 121) (by decide)) (hl.T (a := 121) (p := (9, 45)) 43 rfl rfl) (by decide) rfl) ?_
      refine Q.run zm218 2 (i' := 22) (ls' := [some (.ref 121), some (.int x1)]) (st' := [.int ((sI s 121 26) + 1), .ref 121]) rfl ?_
      obtain ⟨s5, hs6, h⟩ := nx_so h
      refine Q.pf hs6 rfl (gI_of zm218 (e := (39, 3, .putfield 138, [9, 26, 0])) rfl) (hl.lt (a := 121) (by decide)) (by decide) (hl.T (a := 121) (p := (9, 45)) 43 rfl rfl) (by decide) rfl rfl ?_
      have hl7 : Ly tt cc s5 := by rw [hs6]; exact hl.wId (by decide)
      refine Q.run zm218 1 (i' := 11) (ls' := [some (.ref 121), some (.int x1)]) (st' := []) rfl ?_
      exact ih hl7  h
    · rw [if_neg hc4] at h
      refine Q.map (A.bT (gI_of zm218 (e := (29, 3, .if_icmp .ne 16, [24])) rfl) (decide_eq_true hc4)) ?_
      refine Q.run zm218 1 (i' := 25) (ls' := [some (.ref 121), some (.int x1)]) (st' := [.ref 121]) rfl ?_
      obtain ⟨s10, hc9, h⟩ := bu_so h
      have hq8 : Q 2 sio tt cc d 207 0 [some (.ref 121), none] [] s (.inl none, s10) := dt207 (by omega) hl  hc9
      refine Q.callV (gC_vi zm218 (show zM218.2.2.2.2.2[25]? = some (46, 3, .invokevirtual 216, [0, 207, 0, 9]) from rfl) zm207 (hl.lt (a := 121) (by decide)) (hl.T (a := 121) (p := (9, 45)) 43 rfl rfl) rfl (show aCr 0 121 [.ref 121] 2 = some ([some (.ref 121), none], []) from rfl)) hq8 ?_
      refine Q.run zm218 1 (i' := 27) (ls' := [some (.ref 121), some (.int x1)]) (st' := [.ref 121]) rfl ?_
      refine Q.map (A.gf (gI_of zm218 (e := (50, 3, .getfield 134, [9, 27])) rfl) (hq8.1.lt (a := 121) (by decide)) (hq8.1.T (a := 121) (p := (9, 45)) 43 rfl rfl) (by decide) rfl) ?_
      by_cases hc11 : (sI s10 121 27) = 0
      · rw [if_pos hc11] at h
        refine Q.map (A.zT (gI_of zm218 (e := (53, 3, .ifCond .eq 4, [30])) rfl) (decide_eq_true hc11)) ?_
        refine Q.run zm218 1 (i' := 31) (ls' := [some (.ref 121), some (.int x1)]) (st' := [.ref 121]) rfl ?_
        refine Q.map (A.gf (gI_of zm218 (e := (58, 3, .getfield 29, [9, 9])) rfl) (hq8.1.lt (a := 121) (by decide)) (hq8.1.T (a := 121) (p := (9, 45)) 43 rfl rfl) (by decide) (hq8.1.R 29 rfl)) ?_
        refine Q.run zm218 2 (i' := 34) (ls' := [some (.ref 121), some (.int x1)]) (st' := [.int 5, .int x1, .ref 128]) rfl ?_
        obtain ⟨hc12, h⟩ := ite_so h
        obtain ⟨s13, hs14, h⟩ := nx_so h
        refine Q.is hs14 rfl (gI_of zm218 (e := (63, 1, .iastore, [])) rfl) (hq8.1.lt (a := 128) (by decide)) (by decide) (hq8.1.T (a := 128) (p := (100, 1152)) 50 rfl rfl) hc12 ?_
        have hl15 : Ly tt cc s13 := by rw [hs14]; exact hq8.1.wId (by decide)
        refine Q.run zm218 1 (i' := 36) (ls' := [some (.ref 121), some (.int x1)]) (st' := [.ref 121]) rfl ?_
        refine Q.map (A.gf (gI_of zm218 (e := (65, 3, .getfield 44, [9, 14])) rfl) (hl15.lt (a := 121) (by decide)) (hl15.T (a := 121) (p := (9, 45)) 43 rfl rfl) (by decide) (hl15.R 34 rfl)) ?_
        refine Q.run zm218 2 (i' := 39) (ls' := [some (.ref 121), some (.int x1)]) (st' := [.ref 121, .int x1, .ref 133]) rfl ?_
        refine Q.map (A.gf (gI_of zm218 (e := (70, 3, .getfield 206, [9, 39])) rfl) (hl15.lt (a := 121) (by decide)) (hl15.T (a := 121) (p := (9, 45)) 43 rfl rfl) (by decide) rfl) ?_
        obtain ⟨hc16, h⟩ := ite_so h
        obtain ⟨s17, hs18, h⟩ := nx_so h
        refine Q.is hs18 rfl (gI_of zm218 (e := (73, 1, .iastore, [])) rfl) (hl15.lt (a := 133) (by decide)) (by decide) (hl15.T (a := 133) (p := (100, 1152)) 55 rfl rfl) hc16 ?_
        have hl19 : Ly tt cc s17 := by rw [hs18]; exact hl15.wId (by decide)
        refine Q.run zm218 1 (i' := 42) (ls' := [some (.ref 121), some (.int x1)]) (st' := [.ref 121]) rfl ?_
        refine Q.map (A.gf (gI_of zm218 (e := (75, 3, .getfield 47, [9, 15])) rfl) (hl19.lt (a := 121) (by decide)) (hl19.T (a := 121) (p := (9, 45)) 43 rfl rfl) (by decide) (hl19.R 35 rfl)) ?_
        refine Q.run zm218 2 (i' := 45) (ls' := [some (.ref 121), some (.int x1)]) (st' := [.ref 121, .int x1, .ref 134]) rfl ?_
        refine Q.map (A.gf (gI_of zm218 (e := (80, 3, .getfield 203, [9, 40])) rfl) (hl19.lt (a := 121) (by decide)) (hl19.T (a := 121) (p := (9, 45)) 43 rfl rfl) (by decide) rfl) ?_
        obtain ⟨hc20, h⟩ := ite_so h
        obtain ⟨s21, hs22, h⟩ := nx_so h
        refine Q.is hs22 rfl (gI_of zm218 (e := (83, 1, .iastore, [])) rfl) (hl19.lt (a := 134) (by decide)) (by decide) (hl19.T (a := 134) (p := (100, 1152)) 56 rfl rfl) hc20 ?_
        have hl23 : Ly tt cc s21 := by rw [hs22]; exact hl19.wId (by decide)
        refine Q.run zm218 1 (i' := 48) (ls' := [some (.ref 121), some (.int x1)]) (st' := [.ref 121]) rfl ?_
        refine Q.map (A.gf (gI_of zm218 (e := (85, 3, .getfield 50, [9, 16])) rfl) (hl23.lt (a := 121) (by decide)) (hl23.T (a := 121) (p := (9, 45)) 43 rfl rfl) (by decide) (hl23.R 36 rfl)) ?_
        refine Q.run zm218 2 (i' := 51) (ls' := [some (.ref 121), some (.int x1)]) (st' := [.ref 121, .int x1, .ref 135]) rfl ?_
        refine Q.map (A.gf (gI_of zm218 (e := (90, 3, .getfield 50, [9, 16])) rfl) (hl23.lt (a := 121) (by decide)) (hl23.T (a := 121) (p := (9, 45)) 43 rfl rfl) (by decide) (hl23.R 36 rfl)) ?_
        refine Q.run zm218 1 (i' := 53) (ls' := [some (.ref 121), some (.int x1)]) (st' := [.int x1, .ref 135, .int x1, .ref 135]) rfl ?_
        obtain ⟨hc24, h⟩ := ite_so h
        refine Q.map (A.ia (gI_of zm218 (e := (94, 1, .iaload, [])) rfl) (hl23.lt (a := 135) (by decide)) (hl23.T (a := 135) (p := (100, 1152)) 57 rfl rfl) hc24) ?_
        refine Q.run zm218 1 (i' := 55) (ls' := [some (.ref 121), some (.int x1)]) (st' := [.ref 121, .int (sI s21 135 (jN x1)), .int x1, .ref 135]) rfl ?_
        refine Q.map (A.gf (gI_of zm218 (e := (96, 3, .getfield 200, [9, 41])) rfl) (hl23.lt (a := 121) (by decide)) (hl23.T (a := 121) (p := (9, 45)) 43 rfl rfl) (by decide) rfl) ?_
        refine Q.run zm218 3 (i' := 59) (ls' := [some (.ref 121), some (.int x1)]) (st' := [.int ((sI s21 135 (jN x1)) ||| ((sI s21 121 41) <<< ((2 : Int32) &&& 31))), .int x1, .ref 135]) rfl ?_
        obtain ⟨hc25, h⟩ := ite_so h
        obtain ⟨s26, hs27, h⟩ := nx_so h
        refine Q.is hs27 rfl (gI_of zm218 (e := (102, 1, .iastore, [])) rfl) (hl23.lt (a := 135) (by decide)) (by decide) (hl23.T (a := 135) (p := (100, 1152)) 57 rfl rfl) hc25 ?_
        have hl28 : Ly tt cc s26 := by rw [hs27]; exact hl23.wId (by decide)
        refine Q.run zm218 2 (i' := 62) (ls' := [some (.ref 121), some (.int x1)]) (st' := [.int x1, .ref 121]) rfl ?_
        obtain ⟨s31, hc30, h⟩ := bu_so h
        have hq29 : Q 2 sio tt cc d 219 0 [some (.ref 121), some (.int x1), none] [] s26 (.inl none, s31) := dt219 (by omega) hl28  hc30
        refine Q.callV (gC_vi zm218 (show zM218.2.2.2.2.2[62]? = some (105, 3, .invokevirtual 219, [0, 219, 1, 9]) from rfl) zm219 (hl28.lt (a := 121) (by decide)) (hl28.T (a := 121) (p := (9, 45)) 43 rfl rfl) rfl (show aCr 1 121 [.int x1, .ref 121] 3 = some ([some (.ref 121), some (.int x1), none], []) from rfl)) hq29 ?_
        refine Q.run zm218 2 (i' := 65) (ls' := [some (.ref 121), some (.int x1)]) (st' := [.int (-1), .ref 121]) rfl ?_
        obtain ⟨s32, hs33, h⟩ := nx_so h
        refine Q.pf hs33 rfl (gI_of zm218 (e := (110, 3, .putfield 213, [9, 34, 0])) rfl) (hq29.1.lt (a := 121) (by decide)) (by decide) (hq29.1.T (a := 121) (p := (9, 45)) 43 rfl rfl) (by decide) rfl rfl ?_
        have hl34 : Ly tt cc s32 := by rw [hs33]; exact hq29.1.wId (by decide)
        cases h
        exact Q.ret (A.rv zm218 (show zM218.2.2.2.2.2[66]? = some (113, 1, .return_, []) from rfl) rfl) hl34
      · rw [if_neg hc11] at h
        refine Q.map (A.zF (gI_of zm218 (e := (53, 3, .ifCond .eq 4, [30])) rfl) (fun q => hc11 (of_decide_eq_true q))) ?_
        cases h
        exact Q.ret (A.rv zm218 (show zM218.2.2.2.2.2[29]? = some (56, 1, .return_, []) from rfl) rfl) hq8.1
def dm218 (s : aS) : Option (aS) :=
  nx (wI s 121 26 ((sI s 121 26) + 1)) fun s1 =>
  dm218_11 5000 (1024 + (sI s 121 34)) s1
set_option maxRecDepth 100000 in
theorem dt218 {sio : Bool} {tt : Nat} {cc : Nat → Nat → Int32} {d : Nat} (hd : 3 ≤ d) {s : aS} (hl : Ly tt cc s) {o : aS} (h : dm218  s = some o) : Q 2 sio tt cc d 218 0 [some (.ref 121), none] [] s (.inl none, o) := by
  unfold dm218 at h
  obtain ⟨d, rfl⟩ : ∃ e, d = e + 1 := ⟨d - 1, by omega⟩
  refine Q.run zm218 2 (i' := 2) (ls' := [some (.ref 121), none]) (st' := [.ref 121, .int 1024]) rfl ?_
  refine Q.map (A.gf (gI_of zm218 (e := (4, 3, .getfield 213, [9, 34])) rfl) (hl.lt (a := 121) (by decide)) (hl.T (a := 121) (p := (9, 45)) 43 rfl rfl) (by decide) rfl) ?_
  refine Q.run zm218 4 (i' := 7) (ls' := [some (.ref 121), some (.int (1024 + (sI s 121 34)))]) (st' := [.ref 121, .ref 121]) rfl ?_
  refine Q.map (A.gf (gI_of zm218 (e := (11, 3, .getfield 138, [9, 26])) rfl) (hl.lt (a := 121) (by decide)) (hl.T (a := 121) (p := (9, 45)) 43 rfl rfl) (by decide) rfl) ?_
  refine Q.run zm218 2 (i' := 10) (ls' := [some (.ref 121), some (.int (1024 + (sI s 121 34)))]) (st' := [.int ((sI s 121 26) + 1), .ref 121]) rfl ?_
  obtain ⟨s1, hs2, h⟩ := nx_so h
  refine Q.pf hs2 rfl (gI_of zm218 (e := (16, 3, .putfield 138, [9, 26, 0])) rfl) (hl.lt (a := 121) (by decide)) (by decide) (hl.T (a := 121) (p := (9, 45)) 43 rfl rfl) (by decide) rfl rfl ?_
  have hl3 : Ly tt cc s1 := by rw [hs2]; exact hl.wId (by decide)
  exact dt218_11 hd _ hl3  h
/-! 220 FormulaTreesModel.innermost()I -/
set_option maxRecDepth 100000 in
theorem zm220 : zP[220]? = some zM220 := rfl
def dm220_21 (x1 : Int32) (s : aS) : Option (Int32) :=
  if 0 ≤ x1 then
    if aB x1 300 then
      some (sI s 145 (jN x1))
    else none
  else
    some (-1)
set_option maxRecDepth 100000 in
theorem dt220_21 {sio : Bool} {tt : Nat} {cc : Nat → Nat → Int32} {d : Nat} (hd : 0 ≤ d) {x1 : Int32} {s : aS} (hl : Ly tt cc s) {o : Int32} (h : dm220_21  x1 s = some o) : Q 2 sio tt cc d 220 21 [some (.ref 121), some (.int x1)] [] s (.inl (some (.int o)), s) := by
  unfold dm220_21 at h
  refine Q.run zm220 1 (i' := 22) (ls' := [some (.ref 121), some (.int x1)]) (st' := [.int x1]) rfl ?_
  by_cases hc1 : 0 ≤ x1
  · rw [if_pos hc1] at h
    refine Q.map (A.zT (gI_of zm220 (e := (40, 3, .ifCond .ge 7, [25])) rfl) (decide_eq_true hc1)) ?_
    refine Q.run zm220 1 (i' := 26) (ls' := [some (.ref 121), some (.int x1)]) (st' := [.ref 121]) rfl ?_
    refine Q.map (A.gf (gI_of zm220 (e := (48, 3, .getfield 80, [9, 30])) rfl) (hl.lt (a := 121) (by decide)) (hl.T (a := 121) (p := (9, 45)) 43 rfl rfl) (by decide) (hl.R 46 rfl)) ?_
    refine Q.run zm220 1 (i' := 28) (ls' := [some (.ref 121), some (.int x1)]) (st' := [.int x1, .ref 145]) rfl ?_
    obtain ⟨hc2, h⟩ := ite_so h
    refine Q.map (A.ia (gI_of zm220 (e := (52, 1, .iaload, [])) rfl) (hl.lt (a := 145) (by decide)) (hl.T (a := 145) (p := (100, 300)) 67 rfl rfl) hc2) ?_
    cases h
    exact Q.ret (A.ri zm220 (show zM220.2.2.2.2.2[29]? = some (53, 1, .ireturn, []) from rfl) rfl rfl) hl
  · rw [if_neg hc1] at h
    refine Q.map (A.zF (gI_of zm220 (e := (40, 3, .ifCond .ge 7, [25])) rfl) (fun q => hc1 (of_decide_eq_true q))) ?_
    refine Q.run zm220 2 (i' := 29) (ls' := [some (.ref 121), some (.int x1)]) (st' := [.int (-1)]) rfl ?_
    cases h
    exact Q.ret (A.ri zm220 (show zM220.2.2.2.2.2[29]? = some (53, 1, .ireturn, []) from rfl) rfl rfl) hl
def dm220_5 : Nat → Int32 → aS → Option (Int32)
  | 0, _, _ => none
  | n + 1, x1, s =>
    if x1 < 0 then
      dm220_21 x1 s
    else
      if aB x1 300 then
        if (sI s 145 (jN x1)) = 100 then
          dm220_21 x1 s
        else
          if aB x1 300 then
            if (sI s 145 (jN x1)) = 7 then
              dm220_21 x1 s
            else
              dm220_5 n (x1 + (-1)) s
          else none
      else none
set_option maxRecDepth 100000 in
theorem dt220_5 {sio : Bool} {tt : Nat} {cc : Nat → Nat → Int32} {d : Nat} (hd : 0 ≤ d) : ∀ (n : Nat) {x1 : Int32} {s : aS} (_ : Ly tt cc s) {o : Int32} (_ : dm220_5  n x1 s = some o), Q 2 sio tt cc d 220 5 [some (.ref 121), some (.int x1)] [] s (.inl (some (.int o)), s) := by
  intro n
  induction n with
  | zero => intro x1 s hl o h; rw [dm220_5] at h; cases h
  | succ n ih =>
    intro x1 s hl o h
    rw [dm220_5] at h
    refine Q.run zm220 1 (i' := 6) (ls' := [some (.ref 121), some (.int x1)]) (st' := [.int x1]) rfl ?_
    by_cases hc1 : x1 < 0
    · rw [if_pos hc1] at h
      refine Q.map (A.zT (gI_of zm220 (e := (8, 3, .ifCond .lt 31, [21])) rfl) (decide_eq_true hc1)) ?_
      exact dt220_21 hd hl  h
    · rw [if_neg hc1] at h
      refine Q.map (A.zF (gI_of zm220 (e := (8, 3, .ifCond .lt 31, [21])) rfl) (fun q => hc1 (of_decide_eq_true q))) ?_
      refine Q.run zm220 1 (i' := 8) (ls' := [some (.ref 121), some (.int x1)]) (st' := [.ref 121]) rfl ?_
      refine Q.map (A.gf (gI_of zm220 (e := (12, 3, .getfield 80, [9, 30])) rfl) (hl.lt (a := 121) (by decide)) (hl.T (a := 121) (p := (9, 45)) 43 rfl rfl) (by decide) (hl.R 46 rfl)) ?_
      refine Q.run zm220 1 (i' := 10) (ls' := [some (.ref 121), some (.int x1)]) (st' := [.int x1, .ref 145]) rfl ?_
      obtain ⟨hc2, h⟩ := ite_so h
      refine Q.map (A.ia (gI_of zm220 (e := (16, 1, .iaload, [])) rfl) (hl.lt (a := 145) (by decide)) (hl.T (a := 145) (p := (100, 300)) 67 rfl rfl) hc2) ?_
      refine Q.run zm220 1 (i' := 12) (ls' := [some (.ref 121), some (.int x1)]) (st' := [.int 100, .int (sI s 145 (jN x1))]) rfl ?_
      by_cases hc3 : (sI s 145 (jN x1)) = 100
      · rw [if_pos hc3] at h
        refine Q.map (A.bT (gI_of zm220 (e := (19, 3, .if_icmp .eq 20, [21])) rfl) (decide_eq_true hc3)) ?_
        exact dt220_21 hd hl  h
      · rw [if_neg hc3] at h
        refine Q.map (A.bF (gI_of zm220 (e := (19, 3, .if_icmp .eq 20, [21])) rfl) (fun q => hc3 (of_decide_eq_true q))) ?_
        refine Q.run zm220 1 (i' := 14) (ls' := [some (.ref 121), some (.int x1)]) (st' := [.ref 121]) rfl ?_
        refine Q.map (A.gf (gI_of zm220 (e := (23, 3, .getfield 80, [9, 30])) rfl) (hl.lt (a := 121) (by decide)) (hl.T (a := 121) (p := (9, 45)) 43 rfl rfl) (by decide) (hl.R 46 rfl)) ?_
        refine Q.run zm220 1 (i' := 16) (ls' := [some (.ref 121), some (.int x1)]) (st' := [.int x1, .ref 145]) rfl ?_
        obtain ⟨hc4, h⟩ := ite_so h
        refine Q.map (A.ia (gI_of zm220 (e := (27, 1, .iaload, [])) rfl) (hl.lt (a := 145) (by decide)) (hl.T (a := 145) (p := (100, 300)) 67 rfl rfl) hc4) ?_
        refine Q.run zm220 1 (i' := 18) (ls' := [some (.ref 121), some (.int x1)]) (st' := [.int 7, .int (sI s 145 (jN x1))]) rfl ?_
        by_cases hc5 : (sI s 145 (jN x1)) = 7
        · rw [if_pos hc5] at h
          refine Q.map (A.bT (gI_of zm220 (e := (30, 3, .if_icmp .eq 9, [21])) rfl) (decide_eq_true hc5)) ?_
          exact dt220_21 hd hl  h
        · rw [if_neg hc5] at h
          refine Q.map (A.bF (gI_of zm220 (e := (30, 3, .if_icmp .eq 9, [21])) rfl) (fun q => hc5 (of_decide_eq_true q))) ?_
          refine Q.run zm220 2 (i' := 5) (ls' := [some (.ref 121), some (.int (x1 + (-1)))]) (st' := []) rfl ?_
          exact ih hl  h
def dm220 (s : aS) : Option (Int32) :=
  dm220_5 5000 ((sI s 121 32) - 1) s
set_option maxRecDepth 100000 in
theorem dt220 {sio : Bool} {tt : Nat} {cc : Nat → Nat → Int32} {d : Nat} (hd : 0 ≤ d) {s : aS} (hl : Ly tt cc s) {o : Int32} (h : dm220  s = some o) : Q 2 sio tt cc d 220 0 [some (.ref 121), none] [] s (.inl (some (.int o)), s) := by
  unfold dm220 at h
  refine Q.run zm220 1 (i' := 1) (ls' := [some (.ref 121), none]) (st' := [.ref 121]) rfl ?_
  refine Q.map (A.gf (gI_of zm220 (e := (1, 3, .getfield 147, [9, 32])) rfl) (hl.lt (a := 121) (by decide)) (hl.T (a := 121) (p := (9, 45)) 43 rfl rfl) (by decide) rfl) ?_
  refine Q.run zm220 3 (i' := 5) (ls' := [some (.ref 121), some (.int ((sI s 121 32) - 1))]) (st' := []) rfl ?_
  exact dt220_5 hd _ hl  h
/-! 221 FormulaTreesModel.comma()V -/
set_option maxRecDepth 100000 in
theorem zm221 : zP[221]? = some zM221 := rfl
def dm221 (s : aS) : Option (aS) :=
  bu (dm190 0 s) fun s3 =>
  if aB ((sI s3 121 32) - 1) 300 then
    if aB (1024 + (sI s3 146 (jN ((sI s3 121 32) - 1)))) 1152 then
      if (sI s3 129 (jN (1024 + (sI s3 146 (jN ((sI s3 121 32) - 1)))))) = 29 then
        bu (dm186 (sI s3 121 26) s3) fun s9 =>
        some s9
      else
        bv (dm192 s3) fun r13 s12 =>
        bu (dm193 (sI s3 146 (jN ((sI s3 121 32) - 1))) r13 s12) fun s16 =>
        nx (wI s16 121 36 1) fun s17 =>
        nx (wI s17 121 35 2) fun s20 =>
        nx (wI s20 121 26 ((sI s20 121 26) + 1)) fun s23 =>
        some s23
    else none
  else none
set_option maxRecDepth 100000 in
theorem dt221 {sio : Bool} {tt : Nat} {cc : Nat → Nat → Int32} {d : Nat} (hd : 2 ≤ d) {s : aS} (hl : Ly tt cc s) {o : aS} (h : dm221  s = some o) : Q 2 sio tt cc d 221 0 [some (.ref 121), none] [] s (.inl none, o) := by
  unfold dm221 at h
  obtain ⟨d, rfl⟩ : ∃ e, d = e + 1 := ⟨d - 1, by omega⟩
  refine Q.run zm221 2 (i' := 2) (ls' := [some (.ref 121), none]) (st' := [.int 0, .ref 121]) rfl ?_
  obtain ⟨s3, hc2, h⟩ := bu_so h
  have hq1 : Q 2 sio tt cc d 190 0 [some (.ref 121), some (.int 0), none, none] [] s (.inl none, s3) := dt190 (by omega) hl  hc2
  refine Q.callV (gC_vi zm221 (show zM221.2.2.2.2.2[2]? = some (2, 3, .invokevirtual 282, [0, 190, 1, 9]) from rfl) zm190 (hl.lt (a := 121) (by decide)) (hl.T (a := 121) (p := (9, 45)) 43 rfl rfl) rfl (show aCr 1 121 [.int 0, .ref 121] 4 = some ([some (.ref 121), some (.int 0), none, none], []) from rfl)) hq1 ?_
  refine Q.run zm221 1 (i' := 4) (ls' := [some (.ref 121), none]) (st' := [.ref 121]) rfl ?_
  refine Q.map (A.gf (gI_of zm221 (e := (6, 3, .getfield 83, [9, 31])) rfl) (hq1.1.lt (a := 121) (by decide)) (hq1.1.T (a := 121) (p := (9, 45)) 43 rfl rfl) (by decide) (hq1.1.R 47 rfl)) ?_
  refine Q.run zm221 1 (i' := 6) (ls' := [some (.ref 121), none]) (st' := [.ref 121, .ref 146]) rfl ?_
  refine Q.map (A.gf (gI_of zm221 (e := (10, 3, .getfield 147, [9, 32])) rfl) (hq1.1.lt (a := 121) (by decide)) (hq1.1.T (a := 121) (p := (9, 45)) 43 rfl rfl) (by decide) rfl) ?_
  refine Q.run zm221 2 (i' := 9) (ls' := [some (.ref 121), none]) (st' := [.int ((sI s3 121 32) - 1), .ref 146]) rfl ?_
  obtain ⟨hc4, h⟩ := ite_so h
  refine Q.map (A.ia (gI_of zm221 (e := (15, 1, .iaload, [])) rfl) (hq1.1.lt (a := 146) (by decide)) (hq1.1.T (a := 146) (p := (100, 300)) 68 rfl rfl) hc4) ?_
  refine Q.run zm221 2 (i' := 12) (ls' := [some (.ref 121), some (.int (sI s3 146 (jN ((sI s3 121 32) - 1))))]) (st' := [.ref 121]) rfl ?_
  refine Q.map (A.gf (gI_of zm221 (e := (18, 3, .getfield 32, [9, 10])) rfl) (hq1.1.lt (a := 121) (by decide)) (hq1.1.T (a := 121) (p := (9, 45)) 43 rfl rfl) (by decide) (hq1.1.R 30 rfl)) ?_
  refine Q.run zm221 3 (i' := 16) (ls' := [some (.ref 121), some (.int (sI s3 146 (jN ((sI s3 121 32) - 1))))]) (st' := [.int (1024 + (sI s3 146 (jN ((sI s3 121 32) - 1)))), .ref 129]) rfl ?_
  obtain ⟨hc5, h⟩ := ite_so h
  refine Q.map (A.ia (gI_of zm221 (e := (26, 1, .iaload, [])) rfl) (hq1.1.lt (a := 129) (by decide)) (hq1.1.T (a := 129) (p := (100, 1152)) 51 rfl rfl) hc5) ?_
  refine Q.run zm221 1 (i' := 18) (ls' := [some (.ref 121), some (.int (sI s3 146 (jN ((sI s3 121 32) - 1))))]) (st' := [.int 29, .int (sI s3 129 (jN (1024 + (sI s3 146 (jN ((sI s3 121 32) - 1))))))]) rfl ?_
  by_cases hc6 : (sI s3 129 (jN (1024 + (sI s3 146 (jN ((sI s3 121 32) - 1)))))) = 29
  · rw [if_pos hc6] at h
    refine Q.map (A.bF (gI_of zm221 (e := (29, 3, .if_icmp .ne 12, [24])) rfl) (fun q => of_decide_eq_true q hc6)) ?_
    refine Q.run zm221 2 (i' := 21) (ls' := [some (.ref 121), some (.int (sI s3 146 (jN ((sI s3 121 32) - 1))))]) (st' := [.ref 121, .ref 121]) rfl ?_
    refine Q.map (A.gf (gI_of zm221 (e := (34, 3, .getfield 138, [9, 26])) rfl) (hq1.1.lt (a := 121) (by decide)) (hq1.1.T (a := 121) (p := (9, 45)) 43 rfl rfl) (by decide) rfl) ?_
    obtain ⟨s9, hc8, h⟩ := bu_so h
    have hq7 : Q 2 sio tt cc d 186 0 [some (.ref 121), some (.int (sI s3 121 26))] [] s3 (.inl none, s9) := dt186 (by omega) hq1.1  hc8
    refine Q.callV (gC_vi zm221 (show zM221.2.2.2.2.2[22]? = some (37, 3, .invokevirtual 164, [0, 186, 1, 9]) from rfl) zm186 (hq1.1.lt (a := 121) (by decide)) (hq1.1.T (a := 121) (p := (9, 45)) 43 rfl rfl) rfl (show aCr 1 121 [.int (sI s3 121 26), .ref 121] 2 = some ([some (.ref 121), some (.int (sI s3 121 26))], []) from rfl)) hq7 ?_
    cases h
    exact Q.ret (A.rv zm221 (show zM221.2.2.2.2.2[23]? = some (40, 1, .return_, []) from rfl) rfl) hq7.1
  · rw [if_neg hc6] at h
    refine Q.map (A.bT (gI_of zm221 (e := (29, 3, .if_icmp .ne 12, [24])) rfl) (decide_eq_true hc6)) ?_
    refine Q.run zm221 3 (i' := 27) (ls' := [some (.ref 121), some (.int (sI s3 146 (jN ((sI s3 121 32) - 1))))]) (st' := [.ref 121, .int (sI s3 146 (jN ((sI s3 121 32) - 1))), .ref 121]) rfl ?_
    obtain ⟨r13, s12, hc11, h⟩ := bv_so h
    have hq10 : Q 2 sio tt cc d 192 0 [some (.ref 121)] [] s3 (.inl (some (.int r13)), s12) := dt192 (by omega) hq1.1  hc11
    refine Q.callI (gC_vi zm221 (show zM221.2.2.2.2.2[27]? = some (44, 3, .invokevirtual 153, [0, 192, 0, 9]) from rfl) zm192 (hq1.1.lt (a := 121) (by decide)) (hq1.1.T (a := 121) (p := (9, 45)) 43 rfl rfl) rfl (show aCr 0 121 [.ref 121, .int (sI s3 146 (jN ((sI s3 121 32) - 1))), .ref 121] 1 = some ([some (.ref 121)], [.int (sI s3 146 (jN ((sI s3 121 32) - 1))), .ref 121]) from rfl)) hq10 ?_
    obtain ⟨s16, hc15, h⟩ := bu_so h
    have hq14 : Q 2 sio tt cc d 193 0 [some (.ref 121), some (.int (sI s3 146 (jN ((sI s3 121 32) - 1)))), some (.int r13)] [] s12 (.inl none, s16) := dt193 (by omega) hq10.1  hc15
    refine Q.callV (gC_vi zm221 (show zM221.2.2.2.2.2[28]? = some (47, 3, .invokevirtual 157, [0, 193, 2, 9]) from rfl) zm193 (hq10.1.lt (a := 121) (by decide)) (hq10.1.T (a := 121) (p := (9, 45)) 43 rfl rfl) rfl (show aCr 2 121 [.int r13, .int (sI s3 146 (jN ((sI s3 121 32) - 1))), .ref 121] 3 = some ([some (.ref 121), some (.int (sI s3 146 (jN ((sI s3 121 32) - 1)))), some (.int r13)], []) from rfl)) hq14 ?_
    refine Q.run zm221 2 (i' := 31) (ls' := [some (.ref 121), some (.int (sI s3 146 (jN ((sI s3 121 32) - 1))))]) (st' := [.int 1, .ref 121]) rfl ?_
    obtain ⟨s17, hs18, h⟩ := nx_so h
    refine Q.pf hs18 rfl (gI_of zm221 (e := (52, 3, .putfield 246, [9, 36, 1])) rfl) (hq14.1.lt (a := 121) (by decide)) (by decide) (hq14.1.T (a := 121) (p := (9, 45)) 43 rfl rfl) (by decide) rfl rfl ?_
    have hl19 : Ly tt cc s17 := by rw [hs18]; exact hq14.1.wId (by decide)
    refine Q.run zm221 2 (i' := 34) (ls' := [some (.ref 121), some (.int (sI s3 146 (jN ((sI s3 121 32) - 1))))]) (st' := [.int 2, .ref 121]) rfl ?_
    obtain ⟨s20, hs21, h⟩ := nx_so h
    refine Q.pf hs21 rfl (gI_of zm221 (e := (57, 3, .putfield 243, [9, 35, 0])) rfl) (hl19.lt (a := 121) (by decide)) (by decide) (hl19.T (a := 121) (p := (9, 45)) 43 rfl rfl) (by decide) rfl rfl ?_
    have hl22 : Ly tt cc s20 := by rw [hs21]; exact hl19.wId (by decide)
    refine Q.run zm221 2 (i' := 37) (ls' := [some (.ref 121), some (.int (sI s3 146 (jN ((sI s3 121 32) - 1))))]) (st' := [.ref 121, .ref 121]) rfl ?_
    refine Q.map (A.gf (gI_of zm221 (e := (62, 3, .getfield 138, [9, 26])) rfl) (hl22.lt (a := 121) (by decide)) (hl22.T (a := 121) (p := (9, 45)) 43 rfl rfl) (by decide) rfl) ?_
    refine Q.run zm221 2 (i' := 40) (ls' := [some (.ref 121), some (.int (sI s3 146 (jN ((sI s3 121 32) - 1))))]) (st' := [.int ((sI s20 121 26) + 1), .ref 121]) rfl ?_
    obtain ⟨s23, hs24, h⟩ := nx_so h
    refine Q.pf hs24 rfl (gI_of zm221 (e := (67, 3, .putfield 138, [9, 26, 0])) rfl) (hl22.lt (a := 121) (by decide)) (by decide) (hl22.T (a := 121) (p := (9, 45)) 43 rfl rfl) (by decide) rfl rfl ?_
    have hl25 : Ly tt cc s23 := by rw [hs24]; exact hl22.wId (by decide)
    cases h
    exact Q.ret (A.rv zm221 (show zM221.2.2.2.2.2[41]? = some (70, 1, .return_, []) from rfl) rfl) hl25
/-! 216 FormulaTreesModel.readBehind()V -/
set_option maxRecDepth 100000 in
theorem zm216 : zP[216]? = some zM216 := rfl
def dm216_107 (s : aS) : Option (aS) :=
  bu (dm186 (sI s 121 26) s) fun s3 =>
  some s3
set_option maxRecDepth 100000 in
theorem dt216_107 {sio : Bool} {tt : Nat} {cc : Nat → Nat → Int32} {d : Nat} (hd : 4 ≤ d) {x1 : Int32} {x2 : Int32} {x3 : Int32} {s : aS} (hl : Ly tt cc s) {o : aS} (h : dm216_107  s = some o) : Q 2 sio tt cc d 216 107 [some (.ref 121), some (.int x1), some (.int x2), some (.int x3), none] [] s (.inl none, o) := by
  unfold dm216_107 at h
  obtain ⟨d, rfl⟩ : ∃ e, d = e + 1 := ⟨d - 1, by omega⟩
  refine Q.run zm216 2 (i' := 109) (ls' := [some (.ref 121), some (.int x1), some (.int x2), some (.int x3), none]) (st' := [.ref 121, .ref 121]) rfl ?_
  refine Q.map (A.gf (gI_of zm216 (e := (210, 3, .getfield 138, [9, 26])) rfl) (hl.lt (a := 121) (by decide)) (hl.T (a := 121) (p := (9, 45)) 43 rfl rfl) (by decide) rfl) ?_
  obtain ⟨s3, hc2, h⟩ := bu_so h
  have hq1 : Q 2 sio tt cc d 186 0 [some (.ref 121), some (.int (sI s 121 26))] [] s (.inl none, s3) := dt186 (by omega) hl  hc2
  refine Q.callV (gC_vi zm216 (show zM216.2.2.2.2.2[110]? = some (213, 3, .invokevirtual 164, [0, 186, 1, 9]) from rfl) zm186 (hl.lt (a := 121) (by decide)) (hl.T (a := 121) (p := (9, 45)) 43 rfl rfl) rfl (show aCr 1 121 [.int (sI s 121 26), .ref 121] 2 = some ([some (.ref 121), some (.int (sI s 121 26))], []) from rfl)) hq1 ?_
  cases h
  exact Q.ret (A.rv zm216 (show zM216.2.2.2.2.2[111]? = some (216, 1, .return_, []) from rfl) rfl) hq1.1
def dm216_70 (x2 : Int32) (s : aS) : Option (aS) :=
  if x2 ≤ 0 then
    dm216_107 s
  else
    if 128 ≤ (sI s 121 21) then
      dm216_107 s
    else
      bu (dm191 (x2 - x2 / 100 * 100)) fun r5 =>
      bu (dm190 r5 s) fun s8 =>
      bv (dm187 (x2 - x2 / 100 * 100) s8) fun r12 s11 =>
      bu (dm188 (x2 - x2 / 100 * 100) r12 s11) fun s15 =>
      nx (wI s15 121 36 1) fun s16 =>
      nx (wI s16 121 35 0) fun s19 =>
      nx (wI s19 121 26 ((sI s19 121 26) + (x2 / 100))) fun s22 =>
      some s22
set_option maxRecDepth 100000 in
theorem dt216_70 {sio : Bool} {tt : Nat} {cc : Nat → Nat → Int32} {d : Nat} (hd : 4 ≤ d) {x2 : Int32} {x1 : Int32} {x3 : Int32} {s : aS} (hl : Ly tt cc s) {o : aS} (h : dm216_70  x2 s = some o) : Q 2 sio tt cc d 216 70 [some (.ref 121), some (.int x1), some (.int x2), some (.int x3), none] [] s (.inl none, o) := by
  unfold dm216_70 at h
  obtain ⟨d, rfl⟩ : ∃ e, d = e + 1 := ⟨d - 1, by omega⟩
  refine Q.run zm216 1 (i' := 71) (ls' := [some (.ref 121), some (.int x1), some (.int x2), some (.int x3), none]) (st' := [.int x2]) rfl ?_
  by_cases hc1 : x2 ≤ 0
  · rw [if_pos hc1] at h
    refine Q.map (A.zT (gI_of zm216 (e := (142, 3, .ifCond .le 66, [107])) rfl) (decide_eq_true hc1)) ?_
    exact dt216_107 hd hl  h
  · rw [if_neg hc1] at h
    refine Q.map (A.zF (gI_of zm216 (e := (142, 3, .ifCond .le 66, [107])) rfl) (fun q => hc1 (of_decide_eq_true q))) ?_
    refine Q.run zm216 1 (i' := 73) (ls' := [some (.ref 121), some (.int x1), some (.int x2), some (.int x3), none]) (st' := [.ref 121]) rfl ?_
    refine Q.map (A.gf (gI_of zm216 (e := (146, 3, .getfield 141, [9, 21])) rfl) (hl.lt (a := 121) (by decide)) (hl.T (a := 121) (p := (9, 45)) 43 rfl rfl) (by decide) rfl) ?_
    refine Q.run zm216 1 (i' := 75) (ls' := [some (.ref 121), some (.int x1), some (.int x2), some (.int x3), none]) (st' := [.int 128, .int (sI s 121 21)]) rfl ?_
    by_cases hc2 : 128 ≤ (sI s 121 21)
    · rw [if_pos hc2] at h
      refine Q.map (A.bT (gI_of zm216 (e := (152, 3, .if_icmp .ge 56, [107])) rfl) (decide_eq_true hc2)) ?_
      exact dt216_107 hd hl  h
    · rw [if_neg hc2] at h
      refine Q.map (A.bF (gI_of zm216 (e := (152, 3, .if_icmp .ge 56, [107])) rfl) (fun q => hc2 (of_decide_eq_true q))) ?_
      refine Q.run zm216 4 (i' := 80) (ls' := [some (.ref 121), some (.int x1), some (.int x2), some (.int x3), none]) (st' := [.int (x2 - x2 / 100 * 100), .ref 121]) rfl ?_
      obtain ⟨r5, hc4, h⟩ := bu_so h
      have hq3 : Q 2 sio tt cc d 191 0 [some (.int (x2 - x2 / 100 * 100))] [] s (.inl (some (.int r5)), s) := dt191 (by omega) hl  hc4
      refine Q.callI (gC_st zm216 (show zM216.2.2.2.2.2[80]? = some (160, 3, .invokestatic 150, [0, 191, 1]) from rfl) zm191 (show aC 1 [.int (x2 - x2 / 100 * 100), .ref 121] 1 = some ([some (.int (x2 - x2 / 100 * 100))], [.ref 121]) from rfl)) hq3 ?_
      obtain ⟨s8, hc7, h⟩ := bu_so h
      have hq6 : Q 2 sio tt cc d 190 0 [some (.ref 121), some (.int r5), none, none] [] s (.inl none, s8) := dt190 (by omega) hl  hc7
      refine Q.callV (gC_vi zm216 (show zM216.2.2.2.2.2[81]? = some (163, 3, .invokevirtual 282, [0, 190, 1, 9]) from rfl) zm190 (hl.lt (a := 121) (by decide)) (hl.T (a := 121) (p := (9, 45)) 43 rfl rfl) rfl (show aCr 1 121 [.int r5, .ref 121] 4 = some ([some (.ref 121), some (.int r5), none, none], []) from rfl)) hq6 ?_
      refine Q.run zm216 8 (i' := 90) (ls' := [some (.ref 121), some (.int x1), some (.int x2), some (.int x3), none]) (st' := [.int (x2 - x2 / 100 * 100), .ref 121, .int (x2 - x2 / 100 * 100), .ref 121]) rfl ?_
      obtain ⟨r12, s11, hc10, h⟩ := bv_so h
      have hq9 : Q 2 sio tt cc d 187 0 [some (.ref 121), some (.int (x2 - x2 / 100 * 100)), none, none] [] s8 (.inl (some (.int r12)), s11) := dt187 (by omega) hq6.1  hc10
      refine Q.callI (gC_vi zm216 (show zM216.2.2.2.2.2[90]? = some (176, 3, .invokevirtual 167, [0, 187, 1, 9]) from rfl) zm187 (hq6.1.lt (a := 121) (by decide)) (hq6.1.T (a := 121) (p := (9, 45)) 43 rfl rfl) rfl (show aCr 1 121 [.int (x2 - x2 / 100 * 100), .ref 121, .int (x2 - x2 / 100 * 100), .ref 121] 4 = some ([some (.ref 121), some (.int (x2 - x2 / 100 * 100)), none, none], [.int (x2 - x2 / 100 * 100), .ref 121]) from rfl)) hq9 ?_
      obtain ⟨s15, hc14, h⟩ := bu_so h
      have hq13 : Q 2 sio tt cc d 188 0 [some (.ref 121), some (.int (x2 - x2 / 100 * 100)), some (.int r12)] [] s11 (.inl none, s15) := dt188 (by omega) hq9.1  hc14
      refine Q.callV (gC_vi zm216 (show zM216.2.2.2.2.2[91]? = some (179, 3, .invokevirtual 240, [0, 188, 2, 9]) from rfl) zm188 (hq9.1.lt (a := 121) (by decide)) (hq9.1.T (a := 121) (p := (9, 45)) 43 rfl rfl) rfl (show aCr 2 121 [.int r12, .int (x2 - x2 / 100 * 100), .ref 121] 3 = some ([some (.ref 121), some (.int (x2 - x2 / 100 * 100)), some (.int r12)], []) from rfl)) hq13 ?_
      refine Q.run zm216 2 (i' := 94) (ls' := [some (.ref 121), some (.int x1), some (.int x2), some (.int x3), none]) (st' := [.int 1, .ref 121]) rfl ?_
      obtain ⟨s16, hs17, h⟩ := nx_so h
      refine Q.pf hs17 rfl (gI_of zm216 (e := (184, 3, .putfield 246, [9, 36, 1])) rfl) (hq13.1.lt (a := 121) (by decide)) (by decide) (hq13.1.T (a := 121) (p := (9, 45)) 43 rfl rfl) (by decide) rfl rfl ?_
      have hl18 : Ly tt cc s16 := by rw [hs17]; exact hq13.1.wId (by decide)
      refine Q.run zm216 2 (i' := 97) (ls' := [some (.ref 121), some (.int x1), some (.int x2), some (.int x3), none]) (st' := [.int 0, .ref 121]) rfl ?_
      obtain ⟨s19, hs20, h⟩ := nx_so h
      refine Q.pf hs20 rfl (gI_of zm216 (e := (189, 3, .putfield 243, [9, 35, 0])) rfl) (hl18.lt (a := 121) (by decide)) (by decide) (hl18.T (a := 121) (p := (9, 45)) 43 rfl rfl) (by decide) rfl rfl ?_
      have hl21 : Ly tt cc s19 := by rw [hs20]; exact hl18.wId (by decide)
      refine Q.run zm216 2 (i' := 100) (ls' := [some (.ref 121), some (.int x1), some (.int x2), some (.int x3), none]) (st' := [.ref 121, .ref 121]) rfl ?_
      refine Q.map (A.gf (gI_of zm216 (e := (194, 3, .getfield 138, [9, 26])) rfl) (hl21.lt (a := 121) (by decide)) (hl21.T (a := 121) (p := (9, 45)) 43 rfl rfl) (by decide) rfl) ?_
      refine Q.run zm216 4 (i' := 105) (ls' := [some (.ref 121), some (.int x1), some (.int x2), some (.int x3), none]) (st' := [.int ((sI s19 121 26) + (x2 / 100)), .ref 121]) rfl ?_
      obtain ⟨s22, hs23, h⟩ := nx_so h
      refine Q.pf hs23 rfl (gI_of zm216 (e := (202, 3, .putfield 138, [9, 26, 0])) rfl) (hl21.lt (a := 121) (by decide)) (by decide) (hl21.T (a := 121) (p := (9, 45)) 43 rfl rfl) (by decide) rfl rfl ?_
      have hl24 : Ly tt cc s22 := by rw [hs23]; exact hl21.wId (by decide)
      refine Q.run zm216 1 (i' := 111) (ls' := [some (.ref 121), some (.int x1), some (.int x2), some (.int x3), none]) (st' := []) rfl ?_
      cases h
      exact Q.ret (A.rv zm216 (show zM216.2.2.2.2.2[111]? = some (216, 1, .return_, []) from rfl) rfl) hl24
def dm216_44 (x1 : Int32) (x2 : Int32) (s : aS) : Option (aS) :=
  if x1 = 37 then
    if 128 ≤ (sI s 121 21) then
      dm216_70 x2 s
    else
      bv (dm187 9 s) fun r6 s5 =>
      bv (dm192 s5) fun r10 s9 =>
      bu (dm193 r6 r10 s9) fun s13 =>
      bu (dm194 r6 s13) fun s16 =>
      nx (wI s16 121 26 ((sI s16 121 26) + 1)) fun s17 =>
      some s17
  else
    dm216_70 x2 s
set_option maxRecDepth 100000 in
theorem dt216_44 {sio : Bool} {tt : Nat} {cc : Nat → Nat → Int32} {d : Nat} (hd : 4 ≤ d) {x1 : Int32} {x2 : Int32} {x3 : Int32} {s : aS} (hl : Ly tt cc s) {o : aS} (h : dm216_44  x1 x2 s = some o) : Q 2 sio tt cc d 216 44 [some (.ref 121), some (.int x1), some (.int x2), some (.int x3), none] [] s (.inl none, o) := by
  unfold dm216_44 at h
  obtain ⟨d, rfl⟩ : ∃ e, d = e + 1 := ⟨d - 1, by omega⟩
  refine Q.run zm216 2 (i' := 46) (ls' := [some (.ref 121), some (.int x1), some (.int x2), some (.int x3), none]) (st' := [.int 37, .int x1]) rfl ?_
  by_cases hc1 : x1 = 37
  · rw [if_pos hc1] at h
    refine Q.map (A.bF (gI_of zm216 (e := (91, 3, .if_icmp .ne 50, [70])) rfl) (fun q => of_decide_eq_true q hc1)) ?_
    refine Q.run zm216 1 (i' := 48) (ls' := [some (.ref 121), some (.int x1), some (.int x2), some (.int x3), none]) (st' := [.ref 121]) rfl ?_
    refine Q.map (A.gf (gI_of zm216 (e := (95, 3, .getfield 141, [9, 21])) rfl) (hl.lt (a := 121) (by decide)) (hl.T (a := 121) (p := (9, 45)) 43 rfl rfl) (by decide) rfl) ?_
    refine Q.run zm216 1 (i' := 50) (ls' := [some (.ref 121), some (.int x1), some (.int x2), some (.int x3), none]) (st' := [.int 128, .int (sI s 121 21)]) rfl ?_
    by_cases hc2 : 128 ≤ (sI s 121 21)
    · rw [if_pos hc2] at h
      refine Q.map (A.bT (gI_of zm216 (e := (101, 3, .if_icmp .ge 40, [70])) rfl) (decide_eq_true hc2)) ?_
      exact dt216_70 hd hl  h
    · rw [if_neg hc2] at h
      refine Q.map (A.bF (gI_of zm216 (e := (101, 3, .if_icmp .ge 40, [70])) rfl) (fun q => hc2 (of_decide_eq_true q))) ?_
      refine Q.run zm216 2 (i' := 53) (ls' := [some (.ref 121), some (.int x1), some (.int x2), some (.int x3), none]) (st' := [.int 9, .ref 121]) rfl ?_
      obtain ⟨r6, s5, hc4, h⟩ := bv_so h
      have hq3 : Q 2 sio tt cc d 187 0 [some (.ref 121), some (.int 9), none, none] [] s (.inl (some (.int r6)), s5) := dt187 (by omega) hl  hc4
      refine Q.callI (gC_vi zm216 (show zM216.2.2.2.2.2[53]? = some (107, 3, .invokevirtual 167, [0, 187, 1, 9]) from rfl) zm187 (hl.lt (a := 121) (by decide)) (hl.T (a := 121) (p := (9, 45)) 43 rfl rfl) rfl (show aCr 1 121 [.int 9, .ref 121] 4 = some ([some (.ref 121), some (.int 9), none, none], []) from rfl)) hq3 ?_
      refine Q.run zm216 4 (i' := 58) (ls' := [some (.ref 121), some (.int x1), some (.int x2), some (.int x3), some (.int r6)]) (st' := [.ref 121, .int r6, .ref 121]) rfl ?_
      obtain ⟨r10, s9, hc8, h⟩ := bv_so h
      have hq7 : Q 2 sio tt cc d 192 0 [some (.ref 121)] [] s5 (.inl (some (.int r10)), s9) := dt192 (by omega) hq3.1  hc8
      refine Q.callI (gC_vi zm216 (show zM216.2.2.2.2.2[58]? = some (116, 3, .invokevirtual 153, [0, 192, 0, 9]) from rfl) zm192 (hq3.1.lt (a := 121) (by decide)) (hq3.1.T (a := 121) (p := (9, 45)) 43 rfl rfl) rfl (show aCr 0 121 [.ref 121, .int r6, .ref 121] 1 = some ([some (.ref 121)], [.int r6, .ref 121]) from rfl)) hq7 ?_
      obtain ⟨s13, hc12, h⟩ := bu_so h
      have hq11 : Q 2 sio tt cc d 193 0 [some (.ref 121), some (.int r6), some (.int r10)] [] s9 (.inl none, s13) := dt193 (by omega) hq7.1  hc12
      refine Q.callV (gC_vi zm216 (show zM216.2.2.2.2.2[59]? = some (119, 3, .invokevirtual 157, [0, 193, 2, 9]) from rfl) zm193 (hq7.1.lt (a := 121) (by decide)) (hq7.1.T (a := 121) (p := (9, 45)) 43 rfl rfl) rfl (show aCr 2 121 [.int r10, .int r6, .ref 121] 3 = some ([some (.ref 121), some (.int r6), some (.int r10)], []) from rfl)) hq11 ?_
      refine Q.run zm216 2 (i' := 62) (ls' := [some (.ref 121), some (.int x1), some (.int x2), some (.int x3), some (.int r6)]) (st' := [.int r6, .ref 121]) rfl ?_
      obtain ⟨s16, hc15, h⟩ := bu_so h
      have hq14 : Q 2 sio tt cc d 194 0 [some (.ref 121), some (.int r6)] [] s13 (.inl none, s16) := dt194 (by omega) hq11.1  hc15
      refine Q.callV (gC_vi zm216 (show zM216.2.2.2.2.2[62]? = some (125, 3, .invokevirtual 161, [0, 194, 1, 9]) from rfl) zm194 (hq11.1.lt (a := 121) (by decide)) (hq11.1.T (a := 121) (p := (9, 45)) 43 rfl rfl) rfl (show aCr 1 121 [.int r6, .ref 121] 2 = some ([some (.ref 121), some (.int r6)], []) from rfl)) hq14 ?_
      refine Q.run zm216 2 (i' := 65) (ls' := [some (.ref 121), some (.int x1), some (.int x2), some (.int x3), some (.int r6)]) (st' := [.ref 121, .ref 121]) rfl ?_
      refine Q.map (A.gf (gI_of zm216 (e := (130, 3, .getfield 138, [9, 26])) rfl) (hq14.1.lt (a := 121) (by decide)) (hq14.1.T (a := 121) (p := (9, 45)) 43 rfl rfl) (by decide) rfl) ?_
      refine Q.run zm216 2 (i' := 68) (ls' := [some (.ref 121), some (.int x1), some (.int x2), some (.int x3), some (.int r6)]) (st' := [.int ((sI s16 121 26) + 1), .ref 121]) rfl ?_
      obtain ⟨s17, hs18, h⟩ := nx_so h
      refine Q.pf hs18 rfl (gI_of zm216 (e := (135, 3, .putfield 138, [9, 26, 0])) rfl) (hq14.1.lt (a := 121) (by decide)) (by decide) (hq14.1.T (a := 121) (p := (9, 45)) 43 rfl rfl) (by decide) rfl rfl ?_
      have hl19 : Ly tt cc s17 := by rw [hs18]; exact hq14.1.wId (by decide)
      refine Q.run zm216 1 (i' := 111) (ls' := [some (.ref 121), some (.int x1), some (.int x2), some (.int x3), some (.int r6)]) (st' := []) rfl ?_
      cases h
      exact Q.ret (A.rv zm216 (show zM216.2.2.2.2.2[111]? = some (216, 1, .return_, []) from rfl) rfl) hl19
  · rw [if_neg hc1] at h
    refine Q.map (A.bT (gI_of zm216 (e := (91, 3, .if_icmp .ne 50, [70])) rfl) (decide_eq_true hc1)) ?_
    exact dt216_70 hd hl  h
def dm216_34 (x1 : Int32) (x2 : Int32) (s : aS) : Option (aS) :=
  if x1 = 44 then
    bu (dm220 s) fun r4 =>
    if r4 = 7 then
      bu (dm221 s) fun s8 =>
      some s8
    else
      dm216_44 x1 x2 s
  else
    dm216_44 x1 x2 s
set_option maxRecDepth 100000 in
theorem dt216_34 {sio : Bool} {tt : Nat} {cc : Nat → Nat → Int32} {d : Nat} (hd : 4 ≤ d) {x1 : Int32} {x2 : Int32} {x3 : Int32} {s : aS} (hl : Ly tt cc s) {o : aS} (h : dm216_34  x1 x2 s = some o) : Q 2 sio tt cc d 216 34 [some (.ref 121), some (.int x1), some (.int x2), some (.int x3), none] [] s (.inl none, o) := by
  unfold dm216_34 at h
  obtain ⟨d, rfl⟩ : ∃ e, d = e + 1 := ⟨d - 1, by omega⟩
  refine Q.run zm216 2 (i' := 36) (ls' := [some (.ref 121), some (.int x1), some (.int x2), some (.int x3), none]) (st' := [.int 44, .int x1]) rfl ?_
  by_cases hc1 : x1 = 44
  · rw [if_pos hc1] at h
    refine Q.map (A.bF (gI_of zm216 (e := (69, 3, .if_icmp .ne 19, [44])) rfl) (fun q => of_decide_eq_true q hc1)) ?_
    refine Q.run zm216 1 (i' := 38) (ls' := [some (.ref 121), some (.int x1), some (.int x2), some (.int x3), none]) (st' := [.ref 121]) rfl ?_
    obtain ⟨r4, hc3, h⟩ := bu_so h
    have hq2 : Q 2 sio tt cc d 220 0 [some (.ref 121), none] [] s (.inl (some (.int r4)), s) := dt220 (by omega) hl  hc3
    refine Q.callI (gC_vi zm216 (show zM216.2.2.2.2.2[38]? = some (73, 3, .invokevirtual 291, [0, 220, 0, 9]) from rfl) zm220 (hl.lt (a := 121) (by decide)) (hl.T (a := 121) (p := (9, 45)) 43 rfl rfl) rfl (show aCr 0 121 [.ref 121] 2 = some ([some (.ref 121), none], []) from rfl)) hq2 ?_
    refine Q.run zm216 1 (i' := 40) (ls' := [some (.ref 121), some (.int x1), some (.int x2), some (.int x3), none]) (st' := [.int 7, .int r4]) rfl ?_
    by_cases hc5 : r4 = 7
    · rw [if_pos hc5] at h
      refine Q.map (A.bF (gI_of zm216 (e := (78, 3, .if_icmp .ne 10, [44])) rfl) (fun q => of_decide_eq_true q hc5)) ?_
      refine Q.run zm216 1 (i' := 42) (ls' := [some (.ref 121), some (.int x1), some (.int x2), some (.int x3), none]) (st' := [.ref 121]) rfl ?_
      obtain ⟨s8, hc7, h⟩ := bu_so h
      have hq6 : Q 2 sio tt cc d 221 0 [some (.ref 121), none] [] s (.inl none, s8) := dt221 (by omega) hl  hc7
      refine Q.callV (gC_vi zm216 (show zM216.2.2.2.2.2[42]? = some (82, 3, .invokevirtual 294, [0, 221, 0, 9]) from rfl) zm221 (hl.lt (a := 121) (by decide)) (hl.T (a := 121) (p := (9, 45)) 43 rfl rfl) rfl (show aCr 0 121 [.ref 121] 2 = some ([some (.ref 121), none], []) from rfl)) hq6 ?_
      refine Q.run zm216 1 (i' := 111) (ls' := [some (.ref 121), some (.int x1), some (.int x2), some (.int x3), none]) (st' := []) rfl ?_
      cases h
      exact Q.ret (A.rv zm216 (show zM216.2.2.2.2.2[111]? = some (216, 1, .return_, []) from rfl) rfl) hq6.1
    · rw [if_neg hc5] at h
      refine Q.map (A.bT (gI_of zm216 (e := (78, 3, .if_icmp .ne 10, [44])) rfl) (decide_eq_true hc5)) ?_
      exact dt216_44 hd hl  h
  · rw [if_neg hc1] at h
    refine Q.map (A.bT (gI_of zm216 (e := (69, 3, .if_icmp .ne 19, [44])) rfl) (decide_eq_true hc1)) ?_
    exact dt216_44 hd hl  h
def dm216_25 (x1 : Int32) (x2 : Int32) (s : aS) : Option (aS) :=
  if x1 = 41 then
    if (sI s 121 33) ≤ 0 then
      dm216_34 x1 x2 s
    else
      bu (dm189 s) fun s5 =>
      some s5
  else
    dm216_34 x1 x2 s
set_option maxRecDepth 100000 in
theorem dt216_25 {sio : Bool} {tt : Nat} {cc : Nat → Nat → Int32} {d : Nat} (hd : 4 ≤ d) {x1 : Int32} {x2 : Int32} {x3 : Int32} {s : aS} (hl : Ly tt cc s) {o : aS} (h : dm216_25  x1 x2 s = some o) : Q 2 sio tt cc d 216 25 [some (.ref 121), some (.int x1), some (.int x2), some (.int x3), none] [] s (.inl none, o) := by
  unfold dm216_25 at h
  obtain ⟨d, rfl⟩ : ∃ e, d = e + 1 := ⟨d - 1, by omega⟩
  refine Q.run zm216 2 (i' := 27) (ls' := [some (.ref 121), some (.int x1), some (.int x2), some (.int x3), none]) (st' := [.int 41, .int x1]) rfl ?_
  by_cases hc1 : x1 = 41
  · rw [if_pos hc1] at h
    refine Q.map (A.bF (gI_of zm216 (e := (49, 3, .if_icmp .ne 17, [34])) rfl) (fun q => of_decide_eq_true q hc1)) ?_
    refine Q.run zm216 1 (i' := 29) (ls' := [some (.ref 121), some (.int x1), some (.int x2), some (.int x3), none]) (st' := [.ref 121]) rfl ?_
    refine Q.map (A.gf (gI_of zm216 (e := (53, 3, .getfield 237, [9, 33])) rfl) (hl.lt (a := 121) (by decide)) (hl.T (a := 121) (p := (9, 45)) 43 rfl rfl) (by decide) rfl) ?_
    by_cases hc2 : (sI s 121 33) ≤ 0
    · rw [if_pos hc2] at h
      refine Q.map (A.zT (gI_of zm216 (e := (56, 3, .ifCond .le 10, [34])) rfl) (decide_eq_true hc2)) ?_
      exact dt216_34 hd hl  h
    · rw [if_neg hc2] at h
      refine Q.map (A.zF (gI_of zm216 (e := (56, 3, .ifCond .le 10, [34])) rfl) (fun q => hc2 (of_decide_eq_true q))) ?_
      refine Q.run zm216 1 (i' := 32) (ls' := [some (.ref 121), some (.int x1), some (.int x2), some (.int x3), none]) (st' := [.ref 121]) rfl ?_
      obtain ⟨s5, hc4, h⟩ := bu_so h
      have hq3 : Q 2 sio tt cc d 189 0 [some (.ref 121), none] [] s (.inl none, s5) := dt189 (by omega) hl  hc4
      refine Q.callV (gC_vi zm216 (show zM216.2.2.2.2.2[32]? = some (60, 3, .invokevirtual 276, [0, 189, 0, 9]) from rfl) zm189 (hl.lt (a := 121) (by decide)) (hl.T (a := 121) (p := (9, 45)) 43 rfl rfl) rfl (show aCr 0 121 [.ref 121] 2 = some ([some (.ref 121), none], []) from rfl)) hq3 ?_
      refine Q.run zm216 1 (i' := 111) (ls' := [some (.ref 121), some (.int x1), some (.int x2), some (.int x3), none]) (st' := []) rfl ?_
      cases h
      exact Q.ret (A.rv zm216 (show zM216.2.2.2.2.2[111]? = some (216, 1, .return_, []) from rfl) rfl) hq3.1
  · rw [if_neg hc1] at h
    refine Q.map (A.bT (gI_of zm216 (e := (49, 3, .if_icmp .ne 17, [34])) rfl) (decide_eq_true hc1)) ?_
    exact dt216_34 hd hl  h
def dm216 (s : aS) : Option (aS) :=
  bu (dm176 (sI s 121 26) s) fun r3 =>
  bu (dm217 s) fun r6 =>
  nx (wI s 121 34 (-1)) fun s7 =>
  if r3 = 58 then
    if (sI s 121 34) < 0 then
      dm216_25 r3 r6 s7
    else
      nx (wI s7 121 34 (sI s 121 34)) fun s12 =>
      bu (dm218 s12) fun s17 =>
      some s17
  else
    dm216_25 r3 r6 s7
set_option maxRecDepth 100000 in
theorem dt216 {sio : Bool} {tt : Nat} {cc : Nat → Nat → Int32} {d : Nat} (hd : 4 ≤ d) {s : aS} (hl : Ly tt cc s) {o : aS} (h : dm216  s = some o) : Q 2 sio tt cc d 216 0 [some (.ref 121), none, none, none, none] [] s (.inl none, o) := by
  unfold dm216 at h
  obtain ⟨d, rfl⟩ : ∃ e, d = e + 1 := ⟨d - 1, by omega⟩
  refine Q.run zm216 2 (i' := 2) (ls' := [some (.ref 121), none, none, none, none]) (st' := [.ref 121, .ref 121]) rfl ?_
  refine Q.map (A.gf (gI_of zm216 (e := (2, 3, .getfield 138, [9, 26])) rfl) (hl.lt (a := 121) (by decide)) (hl.T (a := 121) (p := (9, 45)) 43 rfl rfl) (by decide) rfl) ?_
  obtain ⟨r3, hc2, h⟩ := bu_so h
  have hq1 : Q 2 sio tt cc d 176 0 [some (.ref 121), some (.int (sI s 121 26))] [] s (.inl (some (.int r3)), s) := dt176 (by omega) hl  hc2
  refine Q.callI (gC_vi zm216 (show zM216.2.2.2.2.2[3]? = some (5, 3, .invokevirtual 113, [0, 176, 1, 9]) from rfl) zm176 (hl.lt (a := 121) (by decide)) (hl.T (a := 121) (p := (9, 45)) 43 rfl rfl) rfl (show aCr 1 121 [.int (sI s 121 26), .ref 121] 2 = some ([some (.ref 121), some (.int (sI s 121 26))], []) from rfl)) hq1 ?_
  refine Q.run zm216 2 (i' := 6) (ls' := [some (.ref 121), some (.int r3), none, none, none]) (st' := [.ref 121]) rfl ?_
  obtain ⟨r6, hc5, h⟩ := bu_so h
  have hq4 : Q 2 sio tt cc d 217 0 [some (.ref 121), none, none] [] s (.inl (some (.int r6)), s) := dt217 (by omega) hl  hc5
  refine Q.callI (gC_vi zm216 (show zM216.2.2.2.2.2[6]? = some (10, 3, .invokevirtual 285, [0, 217, 0, 9]) from rfl) zm217 (hl.lt (a := 121) (by decide)) (hl.T (a := 121) (p := (9, 45)) 43 rfl rfl) rfl (show aCr 0 121 [.ref 121] 3 = some ([some (.ref 121), none, none], []) from rfl)) hq4 ?_
  refine Q.run zm216 2 (i' := 9) (ls' := [some (.ref 121), some (.int r3), some (.int r6), none, none]) (st' := [.ref 121]) rfl ?_
  refine Q.map (A.gf (gI_of zm216 (e := (15, 3, .getfield 213, [9, 34])) rfl) (hl.lt (a := 121) (by decide)) (hl.T (a := 121) (p := (9, 45)) 43 rfl rfl) (by decide) rfl) ?_
  refine Q.run zm216 3 (i' := 13) (ls' := [some (.ref 121), some (.int r3), some (.int r6), some (.int (sI s 121 34)), none]) (st' := [.int (-1), .ref 121]) rfl ?_
  obtain ⟨s7, hs8, h⟩ := nx_so h
  refine Q.pf hs8 rfl (gI_of zm216 (e := (21, 3, .putfield 213, [9, 34, 0])) rfl) (hl.lt (a := 121) (by decide)) (by decide) (hl.T (a := 121) (p := (9, 45)) 43 rfl rfl) (by decide) rfl rfl ?_
  have hl9 : Ly tt cc s7 := by rw [hs8]; exact hl.wId (by decide)
  refine Q.run zm216 2 (i' := 16) (ls' := [some (.ref 121), some (.int r3), some (.int r6), some (.int (sI s 121 34)), none]) (st' := [.int 58, .int r3]) rfl ?_
  by_cases hc10 : r3 = 58
  · rw [if_pos hc10] at h
    refine Q.map (A.bF (gI_of zm216 (e := (27, 3, .if_icmp .ne 19, [25])) rfl) (fun q => of_decide_eq_true q hc10)) ?_
    refine Q.run zm216 1 (i' := 18) (ls' := [some (.ref 121), some (.int r3), some (.int r6), some (.int (sI s 121 34)), none]) (st' := [.int (sI s 121 34)]) rfl ?_
    by_cases hc11 : (sI s 121 34) < 0
    · rw [if_pos hc11] at h
      refine Q.map (A.zT (gI_of zm216 (e := (31, 3, .ifCond .lt 15, [25])) rfl) (decide_eq_true hc11)) ?_
      exact dt216_25 hd hl9  h
    · rw [if_neg hc11] at h
      refine Q.map (A.zF (gI_of zm216 (e := (31, 3, .ifCond .lt 15, [25])) rfl) (fun q => hc11 (of_decide_eq_true q))) ?_
      refine Q.run zm216 2 (i' := 21) (ls' := [some (.ref 121), some (.int r3), some (.int r6), some (.int (sI s 121 34)), none]) (st' := [.int (sI s 121 34), .ref 121]) rfl ?_
      obtain ⟨s12, hs13, h⟩ := nx_so h
      refine Q.pf hs13 rfl (gI_of zm216 (e := (36, 3, .putfield 213, [9, 34, 0])) rfl) (hl9.lt (a := 121) (by decide)) (by decide) (hl9.T (a := 121) (p := (9, 45)) 43 rfl rfl) (by decide) rfl rfl ?_
      have hl14 : Ly tt cc s12 := by rw [hs13]; exact hl9.wId (by decide)
      refine Q.run zm216 1 (i' := 23) (ls' := [some (.ref 121), some (.int r3), some (.int r6), some (.int (sI s 121 34)), none]) (st' := [.ref 121]) rfl ?_
      obtain ⟨s17, hc16, h⟩ := bu_so h
      have hq15 : Q 2 sio tt cc d 218 0 [some (.ref 121), none] [] s12 (.inl none, s17) := dt218 (by omega) hl14  hc16
      refine Q.callV (gC_vi zm216 (show zM216.2.2.2.2.2[23]? = some (40, 3, .invokevirtual 288, [0, 218, 0, 9]) from rfl) zm218 (hl14.lt (a := 121) (by decide)) (hl14.T (a := 121) (p := (9, 45)) 43 rfl rfl) rfl (show aCr 0 121 [.ref 121] 2 = some ([some (.ref 121), none], []) from rfl)) hq15 ?_
      refine Q.run zm216 1 (i' := 111) (ls' := [some (.ref 121), some (.int r3), some (.int r6), some (.int (sI s 121 34)), none]) (st' := []) rfl ?_
      cases h
      exact Q.ret (A.rv zm216 (show zM216.2.2.2.2.2[111]? = some (216, 1, .return_, []) from rfl) rfl) hq15.1
  · rw [if_neg hc10] at h
    refine Q.map (A.bT (gI_of zm216 (e := (27, 3, .if_icmp .ne 19, [25])) rfl) (decide_eq_true hc10)) ?_
    exact dt216_25 hd hl9  h
