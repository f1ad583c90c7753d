section
/-! 112 FormulaTrees$Reader.wantReference(II)V -/
set_option maxRecDepth 100000 in
theorem zm112 : zP[112]? = some zM112 := rfl
def dm112 (x1 : Int32) (x2 : Int32) (s : aS) : Option (aS) :=
  nx (wI s 106 11 x1) fun s1 =>
  nx (wI s1 106 12 x2) fun s4 =>
  nx (wI s4 106 9 2) fun s7 =>
  some s7
set_option maxRecDepth 100000 in
theorem dt112 {sio : Bool} {tt : Nat} {cc : Nat → Nat → Int32} {d : Nat} (hd : 0 ≤ d) {x1 : Int32} {x2 : Int32} {s : aS} (hl : Ly tt cc s) {o : aS} (h : dm112  x1 x2 s = some o) : Q 1 sio tt cc d 112 0 [some (.ref 106), some (.int x1), some (.int x2)] [] s (.inl none, o) := by
  unfold dm112 at h
  refine Q.run zm112 2 (i' := 2) (ls' := [some (.ref 106), some (.int x1), some (.int x2)]) (st' := [.int x1, .ref 106]) rfl ?_
  obtain ⟨s1, hs2, h⟩ := nx_so h
  refine Q.pf hs2 rfl (gI_of zm112 (e := (2, 3, .putfield 271, [4, 11, 0])) rfl) (hl.lt (a := 106) (by decide)) (by decide) (hl.T (a := 106) (p := (4, 13)) 28 rfl rfl) (by decide) rfl rfl ?_
  have hl3 : Ly tt cc s1 := by rw [hs2]; exact hl.wId (by decide)
  refine Q.run zm112 2 (i' := 5) (ls' := [some (.ref 106), some (.int x1), some (.int x2)]) (st' := [.int x2, .ref 106]) rfl ?_
  obtain ⟨s4, hs5, h⟩ := nx_so h
  refine Q.pf hs5 rfl (gI_of zm112 (e := (7, 3, .putfield 274, [4, 12, 0])) rfl) (hl3.lt (a := 106) (by decide)) (by decide) (hl3.T (a := 106) (p := (4, 13)) 28 rfl rfl) (by decide) rfl rfl ?_
  have hl6 : Ly tt cc s4 := by rw [hs5]; exact hl3.wId (by decide)
  refine Q.run zm112 2 (i' := 8) (ls' := [some (.ref 106), some (.int x1), some (.int x2)]) (st' := [.int 2, .ref 106]) rfl ?_
  obtain ⟨s7, hs8, h⟩ := nx_so h
  refine Q.pf hs8 rfl (gI_of zm112 (e := (12, 3, .putfield 68, [4, 9, 0])) rfl) (hl6.lt (a := 106) (by decide)) (by decide) (hl6.T (a := 106) (p := (4, 13)) 28 rfl rfl) (by decide) rfl rfl ?_
  have hl9 : Ly tt cc s7 := by rw [hs8]; exact hl6.wId (by decide)
  cases h
  exact Q.ret (A.rv zm112 (show zM112.2.2.2.2.2[9]? = some (15, 1, .return_, []) from rfl) rfl) hl9
/-! 114 FormulaTrees$Reader.endPrefix(I)V -/
set_option maxRecDepth 100000 in
theorem zm114 : zP[114]? = some zM114 := rfl
def dm114 (x1 : Int32) (s : aS) : Option (aS) :=
  bu (dm32 107 s) fun r3 =>
  if r3 = (-1) then
    nx (wI s 106 8 x1) fun s5 =>
    some s5
  else
    nx (wI s 106 7 ((sI s 106 7) + 1)) fun s8 =>
    bu (dm112 x1 r3 s8) fun s13 =>
    some s13
set_option maxRecDepth 100000 in
theorem dt114 {sio : Bool} {tt : Nat} {cc : Nat → Nat → Int32} {d : Nat} (hd : 3 ≤ d) {x1 : Int32} {s : aS} (hl : Ly tt cc s) {o : aS} (h : dm114  x1 s = some o) : Q 1 sio tt cc d 114 0 [some (.ref 106), some (.int x1), none] [] s (.inl none, o) := by
  unfold dm114 at h
  obtain ⟨d, rfl⟩ : ∃ e, d = e + 1 := ⟨d - 1, by omega⟩
  refine Q.run zm114 1 (i' := 1) (ls' := [some (.ref 106), some (.int x1), none]) (st' := [.ref 106]) rfl ?_
  refine Q.map (A.gf (gI_of zm114 (e := (1, 3, .getfield 44, [4, 1])) rfl) (hl.lt (a := 106) (by decide)) (hl.T (a := 106) (p := (4, 13)) 28 rfl rfl) (by decide) (hl.R 9 rfl)) ?_
  refine Q.run zm114 1 (i' := 3) (ls' := [some (.ref 106), some (.int x1), none]) (st' := [.ref 106, .ref 81]) rfl ?_
  refine Q.map (A.gf (gI_of zm114 (e := (5, 3, .getfield 14, [4, 2])) rfl) (hl.lt (a := 106) (by decide)) (hl.T (a := 106) (p := (4, 13)) 28 rfl rfl) (by decide) (hl.R 10 rfl)) ?_
  obtain ⟨r3, hc2, h⟩ := bu_so h
  have hq1 : Q 1 sio tt cc d 32 0 [some (.ref 81), some (.ref 107), none] [] s (.inl (some (.int r3)), s) := dt32 (by omega) hl (hl.Kd (a := 107) (c := 1) (n := 2) 29 rfl rfl (by decide)) hc2
  refine Q.callI (gC_vi zm114 (show zM114.2.2.2.2.2[4]? = some (8, 3, .invokevirtual 265, [0, 32, 1, 2]) from rfl) zm32 (hl.lt (a := 81) (by decide)) (hl.T (a := 81) (p := (2, 3)) 3 rfl rfl) rfl (show aCr 1 81 [.ref 107, .ref 81] 3 = some ([some (.ref 81), some (.ref 107), none], []) from rfl)) hq1 ?_
  refine Q.run zm114 3 (i' := 8) (ls' := [some (.ref 106), some (.int x1), some (.int r3)]) (st' := [.int (-1), .int r3]) rfl ?_
  by_cases hc4 : r3 = (-1)
  · rw [if_pos hc4] at h
    refine Q.map (A.bF (gI_of zm114 (e := (14, 3, .if_icmp .ne 11, [13])) rfl) (fun q => of_decide_eq_true q hc4)) ?_
    refine Q.run zm114 2 (i' := 11) (ls' := [some (.ref 106), some (.int x1), some (.int r3)]) (st' := [.int x1, .ref 106]) rfl ?_
    obtain ⟨s5, hs6, h⟩ := nx_so h
    refine Q.pf hs6 rfl (gI_of zm114 (e := (19, 3, .putfield 65, [4, 8, 0])) rfl) (hl.lt (a := 106) (by decide)) (by decide) (hl.T (a := 106) (p := (4, 13)) 28 rfl rfl) (by decide) rfl rfl ?_
    have hl7 : Ly tt cc s5 := by rw [hs6]; exact hl.wId (by decide)
    refine Q.run zm114 1 (i' := 23) (ls' := [some (.ref 106), some (.int x1), some (.int r3)]) (st' := []) rfl ?_
    cases h
    exact Q.ret (A.rv zm114 (show zM114.2.2.2.2.2[23]? = some (41, 1, .return_, []) from rfl) rfl) hl7
  · rw [if_neg hc4] at h
    refine Q.map (A.bT (gI_of zm114 (e := (14, 3, .if_icmp .ne 11, [13])) rfl) (decide_eq_true hc4)) ?_
    refine Q.run zm114 2 (i' := 15) (ls' := [some (.ref 106), some (.int x1), some (.int r3)]) (st' := [.ref 106, .ref 106]) rfl ?_
    refine Q.map (A.gf (gI_of zm114 (e := (27, 3, .getfield 61, [4, 7])) rfl) (hl.lt (a := 106) (by decide)) (hl.T (a := 106) (p := (4, 13)) 28 rfl rfl) (by decide) rfl) ?_
    refine Q.run zm114 2 (i' := 18) (ls' := [some (.ref 106), some (.int x1), some (.int r3)]) (st' := [.int ((sI s 106 7) + 1), .ref 106]) rfl ?_
    obtain ⟨s8, hs9, h⟩ := nx_so h
    refine Q.pf hs9 rfl (gI_of zm114 (e := (32, 3, .putfield 61, [4, 7, 0])) rfl) (hl.lt (a := 106) (by decide)) (by decide) (hl.T (a := 106) (p := (4, 13)) 28 rfl rfl) (by decide) rfl rfl ?_
    have hl10 : Ly tt cc s8 := by rw [hs9]; exact hl.wId (by decide)
    refine Q.run zm114 3 (i' := 22) (ls' := [some (.ref 106), some (.int x1), some (.int r3)]) (st' := [.int r3, .int x1, .ref 106]) rfl ?_
    obtain ⟨s13, hc12, h⟩ := bu_so h
    have hq11 : Q 1 sio tt cc d 112 0 [some (.ref 106), some (.int x1), some (.int r3)] [] s8 (.inl none, s13) := dt112 (by omega) hl10  hc12
    refine Q.callV (gC_vi zm114 (show zM114.2.2.2.2.2[22]? = some (38, 3, .invokevirtual 109, [0, 112, 2, 4]) from rfl) zm112 (hl10.lt (a := 106) (by decide)) (hl10.T (a := 106) (p := (4, 13)) 28 rfl rfl) rfl (show aCr 2 106 [.int r3, .int x1, .ref 106] 3 = some ([some (.ref 106), some (.int x1), some (.int r3)], []) from rfl)) hq11 ?_
    cases h
    exact Q.ret (A.rv zm114 (show zM114.2.2.2.2.2[23]? = some (41, 1, .return_, []) from rfl) rfl) hq11.1
/-! 113 FormulaTrees$Reader.readQuotedPrefix()V -/
set_option maxRecDepth 100000 in
theorem zm113 : zP[113]? = some zM113 := rfl
def dm113_18 (s : aS) : Option (aS) :=
  nx (wI s 106 8 (sI s 106 7)) fun s1 =>
  some s1
set_option maxRecDepth 100000 in
theorem dt113_18 {sio : Bool} {tt : Nat} {cc : Nat → Nat → Int32} {d : Nat} (hd : 4 ≤ d) {x1 : Int32} {s : aS} (hl : Ly tt cc s) {o : aS} (h : dm113_18  s = some o) : Q 1 sio tt cc d 113 18 [some (.ref 106), some (.int x1)] [] s (.inl none, o) := by
  unfold dm113_18 at h
  obtain ⟨d, rfl⟩ : ∃ e, d = e + 1 := ⟨d - 1, by omega⟩
  refine Q.run zm113 2 (i' := 20) (ls' := [some (.ref 106), some (.int x1)]) (st' := [.ref 106, .ref 106]) rfl ?_
  refine Q.map (A.gf (gI_of zm113 (e := (40, 3, .getfield 61, [4, 7])) rfl) (hl.lt (a := 106) (by decide)) (hl.T (a := 106) (p := (4, 13)) 28 rfl rfl) (by decide) rfl) ?_
  obtain ⟨s1, hs2, h⟩ := nx_so h
  refine Q.pf hs2 rfl (gI_of zm113 (e := (43, 3, .putfield 65, [4, 8, 0])) rfl) (hl.lt (a := 106) (by decide)) (by decide) (hl.T (a := 106) (p := (4, 13)) 28 rfl rfl) (by decide) rfl rfl ?_
  have hl3 : Ly tt cc s1 := by rw [hs2]; exact hl.wId (by decide)
  cases h
  exact Q.ret (A.rv zm113 (show zM113.2.2.2.2.2[22]? = some (46, 1, .return_, []) from rfl) rfl) hl3
def dm113 (s : aS) : Option (aS) :=
  bv (dm105 39 s) fun r4 s3 =>
  if r4 = 0 then
    dm113_18 s3
  else
    bu (dm34 79 (sI s3 106 7) s3) fun r8 =>
    if r8 = 33 then
      bu (dm114 (sI s 106 7) s3) fun s12 =>
      some s12
    else
      dm113_18 s3
set_option maxRecDepth 100000 in
theorem dt113 {sio : Bool} {tt : Nat} {cc : Nat → Nat → Int32} {d : Nat} (hd : 4 ≤ d) {s : aS} (hl : Ly tt cc s) {o : aS} (h : dm113  s = some o) : Q 1 sio tt cc d 113 0 [some (.ref 106), none] [] s (.inl none, o) := by
  unfold dm113 at h
  obtain ⟨d, rfl⟩ : ∃ e, d = e + 1 := ⟨d - 1, by omega⟩
  refine Q.run zm113 1 (i' := 1) (ls' := [some (.ref 106), none]) (st' := [.ref 106]) rfl ?_
  refine Q.map (A.gf (gI_of zm113 (e := (1, 3, .getfield 61, [4, 7])) rfl) (hl.lt (a := 106) (by decide)) (hl.T (a := 106) (p := (4, 13)) 28 rfl rfl) (by decide) rfl) ?_
  refine Q.run zm113 3 (i' := 5) (ls' := [some (.ref 106), some (.int (sI s 106 7))]) (st' := [.int 39, .ref 106]) rfl ?_
  obtain ⟨r4, s3, hc2, h⟩ := bv_so h
  have hq1 : Q 1 sio tt cc d 105 0 [some (.ref 106), some (.int 39), none, none] [] s (.inl (some (.int r4)), s3) := dt105 (by omega) hl  hc2
  refine Q.callI (gC_vi zm113 (show zM113.2.2.2.2.2[5]? = some (8, 3, .invokevirtual 225, [0, 105, 1, 4]) from rfl) zm105 (hl.lt (a := 106) (by decide)) (hl.T (a := 106) (p := (4, 13)) 28 rfl rfl) rfl (show aCr 1 106 [.int 39, .ref 106] 4 = some ([some (.ref 106), some (.int 39), none, none], []) from rfl)) hq1 ?_
  by_cases hc5 : r4 = 0
  · rw [if_pos hc5] at h
    refine Q.map (A.zT (gI_of zm113 (e := (11, 3, .ifCond .eq 27, [18])) rfl) (decide_eq_true hc5)) ?_
    exact dt113_18 hd hq1.1  h
  · rw [if_neg hc5] at h
    refine Q.map (A.zF (gI_of zm113 (e := (11, 3, .ifCond .eq 27, [18])) rfl) (fun q => hc5 (of_decide_eq_true q))) ?_
    refine Q.run zm113 1 (i' := 8) (ls' := [some (.ref 106), some (.int (sI s 106 7))]) (st' := [.ref 106]) rfl ?_
    refine Q.map (A.gf (gI_of zm113 (e := (15, 3, .getfield 41, [4, 0])) rfl) (hq1.1.lt (a := 106) (by decide)) (hq1.1.T (a := 106) (p := (4, 13)) 28 rfl rfl) (by decide) (hq1.1.R 8 rfl)) ?_
    refine Q.run zm113 1 (i' := 10) (ls' := [some (.ref 106), some (.int (sI s 106 7))]) (st' := [.ref 106, .ref 79]) rfl ?_
    refine Q.map (A.gf (gI_of zm113 (e := (19, 3, .getfield 61, [4, 7])) rfl) (hq1.1.lt (a := 106) (by decide)) (hq1.1.T (a := 106) (p := (4, 13)) 28 rfl rfl) (by decide) rfl) ?_
    obtain ⟨r8, hc7, h⟩ := bu_so h
    have hq6 : Q 1 sio tt cc d 34 0 [some (.ref 79), some (.int (sI s3 106 7))] [] s3 (.inl (some (.int r8)), s3) := dt34 (by omega) hq1.1 (hq1.1.Kd (a := 79) (c := 1) (n := 2) 1 rfl rfl (by decide)) hc7
    refine Q.callI (gC_vi zm113 (show zM113.2.2.2.2.2[11]? = some (22, 3, .invokevirtual 78, [0, 34, 1, 1]) from rfl) zm34 (hq1.1.lt (a := 79) (by decide)) (hq1.1.T (a := 79) (p := (1, 2)) 1 rfl rfl) rfl (show aCr 1 79 [.int (sI s3 106 7), .ref 79] 2 = some ([some (.ref 79), some (.int (sI s3 106 7))], []) from rfl)) hq6 ?_
    refine Q.run zm113 1 (i' := 13) (ls' := [some (.ref 106), some (.int (sI s 106 7))]) (st' := [.int 33, .int r8]) rfl ?_
    by_cases hc9 : r8 = 33
    · rw [if_pos hc9] at h
      refine Q.map (A.bF (gI_of zm113 (e := (27, 3, .if_icmp .ne 11, [18])) rfl) (fun q => of_decide_eq_true q hc9)) ?_
      refine Q.run zm113 2 (i' := 16) (ls' := [some (.ref 106), some (.int (sI s 106 7))]) (st' := [.int (sI s 106 7), .ref 106]) rfl ?_
      obtain ⟨s12, hc11, h⟩ := bu_so h
      have hq10 : Q 1 sio tt cc d 114 0 [some (.ref 106), some (.int (sI s 106 7)), none] [] s3 (.inl none, s12) := dt114 (by omega) hq1.1  hc11
      refine Q.callV (gC_vi zm113 (show zM113.2.2.2.2.2[16]? = some (32, 3, .invokevirtual 248, [0, 114, 1, 4]) from rfl) zm114 (hq1.1.lt (a := 106) (by decide)) (hq1.1.T (a := 106) (p := (4, 13)) 28 rfl rfl) rfl (show aCr 1 106 [.int (sI s 106 7), .ref 106] 3 = some ([some (.ref 106), some (.int (sI s 106 7)), none], []) from rfl)) hq10 ?_
      refine Q.run zm113 1 (i' := 22) (ls' := [some (.ref 106), some (.int (sI s 106 7))]) (st' := []) rfl ?_
      cases h
      exact Q.ret (A.rv zm113 (show zM113.2.2.2.2.2[22]? = some (46, 1, .return_, []) from rfl) rfl) hq10.1
    · rw [if_neg hc9] at h
      refine Q.map (A.bT (gI_of zm113 (e := (27, 3, .if_icmp .ne 11, [18])) rfl) (decide_eq_true hc9)) ?_
      exact dt113_18 hd hq1.1  h
/-! 116 FormulaTrees$Pending.many()I -/
set_option maxRecDepth 100000 in
theorem zm116 : zP[116]? = some zM116 := rfl
def dm116 (s : aS) : Option (Int32) :=
  some (sI s 110 2)
set_option maxRecDepth 100000 in
theorem dt116 {sio : Bool} {tt : Nat} {cc : Nat → Nat → Int32} {d : Nat} (hd : 0 ≤ d) {s : aS} (hl : Ly tt cc s) {o : Int32} (h : dm116  s = some o) : Q 1 sio tt cc d 116 0 [some (.ref 110)] [] s (.inl (some (.int o)), s) := by
  unfold dm116 at h
  refine Q.run zm116 1 (i' := 1) (ls' := [some (.ref 110)]) (st' := [.ref 110]) rfl ?_
  refine Q.map (A.gf (gI_of zm116 (e := (1, 3, .getfield 18, [6, 2])) rfl) (hl.lt (a := 110) (by decide)) (hl.T (a := 110) (p := (6, 3)) 32 rfl rfl) (by decide) rfl) ?_
  cases h
  exact Q.ret (A.ri zm116 (show zM116.2.2.2.2.2[2]? = some (4, 1, .ireturn, []) from rfl) rfl rfl) hl
/-! 117 FormulaTrees$Brackets.add(III)V -/
set_option maxRecDepth 100000 in
theorem zm117 : zP[117]? = some zM117 := rfl
def dm117 (x1 : Int32) (x2 : Int32) (x3 : Int32) (s : aS) : Option (aS) :=
  if 32 ≤ (sI s 113 3) then
    some s
  else
    if aB (sI s 113 3) 32 then
      nx (wI s 114 (jN (sI s 113 3)) x1) fun s3 =>
      if aB (sI s3 113 3) 32 then
        nx (wI s3 115 (jN (sI s3 113 3)) x2) fun s7 =>
        if aB (sI s7 113 3) 32 then
          nx (wI s7 116 (jN (sI s7 113 3)) x3) fun s11 =>
          nx (wI s11 113 3 ((sI s11 113 3) + 1)) fun s14 =>
          some s14
        else none
      else none
    else none
set_option maxRecDepth 100000 in
theorem dt117 {sio : Bool} {tt : Nat} {cc : Nat → Nat → Int32} {d : Nat} (hd : 0 ≤ d) {x1 : Int32} {x2 : Int32} {x3 : Int32} {s : aS} (hl : Ly tt cc s) {o : aS} (h : dm117  x1 x2 x3 s = some o) : Q 1 sio tt cc d 117 0 [some (.ref 113), some (.int x1), some (.int x2), some (.int x3)] [] s (.inl none, o) := by
  unfold dm117 at h
  refine Q.run zm117 1 (i' := 1) (ls' := [some (.ref 113), some (.int x1), some (.int x2), some (.int x3)]) (st' := [.ref 113]) rfl ?_
  refine Q.map (A.gf (gI_of zm117 (e := (1, 3, .getfield 21, [7, 3])) rfl) (hl.lt (a := 113) (by decide)) (hl.T (a := 113) (p := (7, 4)) 35 rfl rfl) (by decide) rfl) ?_
  refine Q.run zm117 1 (i' := 3) (ls' := [some (.ref 113), some (.int x1), some (.int x2), some (.int x3)]) (st' := [.int 32, .int (sI s 113 3)]) rfl ?_
  by_cases hc1 : 32 ≤ (sI s 113 3)
  · rw [if_pos hc1] at h
    refine Q.map (A.bT (gI_of zm117 (e := (6, 3, .if_icmp .ge 43, [28])) rfl) (decide_eq_true hc1)) ?_
    cases h
    exact Q.ret (A.rv zm117 (show zM117.2.2.2.2.2[28]? = some (49, 1, .return_, []) from rfl) rfl) hl
  · rw [if_neg hc1] at h
    refine Q.map (A.bF (gI_of zm117 (e := (6, 3, .if_icmp .ge 43, [28])) rfl) (fun q => hc1 (of_decide_eq_true q))) ?_
    refine Q.run zm117 1 (i' := 5) (ls' := [some (.ref 113), some (.int x1), some (.int x2), some (.int x3)]) (st' := [.ref 113]) rfl ?_
    refine Q.map (A.gf (gI_of zm117 (e := (10, 3, .getfield 9, [7, 0])) rfl) (hl.lt (a := 113) (by decide)) (hl.T (a := 113) (p := (7, 4)) 35 rfl rfl) (by decide) (hl.R 16 rfl)) ?_
    refine Q.run zm117 1 (i' := 7) (ls' := [some (.ref 113), some (.int x1), some (.int x2), some (.int x3)]) (st' := [.ref 113, .ref 114]) rfl ?_
    refine Q.map (A.gf (gI_of zm117 (e := (14, 3, .getfield 21, [7, 3])) rfl) (hl.lt (a := 113) (by decide)) (hl.T (a := 113) (p := (7, 4)) 35 rfl rfl) (by decide) rfl) ?_
    refine Q.run zm117 1 (i' := 9) (ls' := [some (.ref 113), some (.int x1), some (.int x2), some (.int x3)]) (st' := [.int x1, .int (sI s 113 3), .ref 114]) rfl ?_
    obtain ⟨hc2, h⟩ := ite_so h
    obtain ⟨s3, hs4, h⟩ := nx_so h
    refine Q.is hs4 rfl (gI_of zm117 (e := (18, 1, .iastore, [])) rfl) (hl.lt (a := 114) (by decide)) (by decide) (hl.T (a := 114) (p := (100, 32)) 36 rfl rfl) hc2 ?_
    have hl5 : Ly tt cc s3 := by rw [hs4]; exact hl.wId (by decide)
    refine Q.run zm117 1 (i' := 11) (ls' := [some (.ref 113), some (.int x1), some (.int x2), some (.int x3)]) (st' := [.ref 113]) rfl ?_
    refine Q.map (A.gf (gI_of zm117 (e := (20, 3, .getfield 15, [7, 1])) rfl) (hl5.lt (a := 113) (by decide)) (hl5.T (a := 113) (p := (7, 4)) 35 rfl rfl) (by decide) (hl5.R 17 rfl)) ?_
    refine Q.run zm117 1 (i' := 13) (ls' := [some (.ref 113), some (.int x1), some (.int x2), some (.int x3)]) (st' := [.ref 113, .ref 115]) rfl ?_
    refine Q.map (A.gf (gI_of zm117 (e := (24, 3, .getfield 21, [7, 3])) rfl) (hl5.lt (a := 113) (by decide)) (hl5.T (a := 113) (p := (7, 4)) 35 rfl rfl) (by decide) rfl) ?_
    refine Q.run zm117 1 (i' := 15) (ls' := [some (.ref 113), some (.int x1), some (.int x2), some (.int x3)]) (st' := [.int x2, .int (sI s3 113 3), .ref 115]) rfl ?_
    obtain ⟨hc6, h⟩ := ite_so h
    obtain ⟨s7, hs8, h⟩ := nx_so h
    refine Q.is hs8 rfl (gI_of zm117 (e := (28, 1, .iastore, [])) rfl) (hl5.lt (a := 115) (by decide)) (by decide) (hl5.T (a := 115) (p := (100, 32)) 37 rfl rfl) hc6 ?_
    have hl9 : Ly tt cc s7 := by rw [hs8]; exact hl5.wId (by decide)
    refine Q.run zm117 1 (i' := 17) (ls' := [some (.ref 113), some (.int x1), some (.int x2), some (.int x3)]) (st' := [.ref 113]) rfl ?_
    refine Q.map (A.gf (gI_of zm117 (e := (30, 3, .getfield 18, [7, 2])) rfl) (hl9.lt (a := 113) (by decide)) (hl9.T (a := 113) (p := (7, 4)) 35 rfl rfl) (by decide) (hl9.R 18 rfl)) ?_
    refine Q.run zm117 1 (i' := 19) (ls' := [some (.ref 113), some (.int x1), some (.int x2), some (.int x3)]) (st' := [.ref 113, .ref 116]) rfl ?_
    refine Q.map (A.gf (gI_of zm117 (e := (34, 3, .getfield 21, [7, 3])) rfl) (hl9.lt (a := 113) (by decide)) (hl9.T (a := 113) (p := (7, 4)) 35 rfl rfl) (by decide) rfl) ?_
    refine Q.run zm117 1 (i' := 21) (ls' := [some (.ref 113), some (.int x1), some (.int x2), some (.int x3)]) (st' := [.int x3, .int (sI s7 113 3), .ref 116]) rfl ?_
    obtain ⟨hc10, h⟩ := ite_so h
    obtain ⟨s11, hs12, h⟩ := nx_so h
    refine Q.is hs12 rfl (gI_of zm117 (e := (38, 1, .iastore, [])) rfl) (hl9.lt (a := 116) (by decide)) (by decide) (hl9.T (a := 116) (p := (100, 32)) 38 rfl rfl) hc10 ?_
    have hl13 : Ly tt cc s11 := by rw [hs12]; exact hl9.wId (by decide)
    refine Q.run zm117 2 (i' := 24) (ls' := [some (.ref 113), some (.int x1), some (.int x2), some (.int x3)]) (st' := [.ref 113, .ref 113]) rfl ?_
    refine Q.map (A.gf (gI_of zm117 (e := (41, 3, .getfield 21, [7, 3])) rfl) (hl13.lt (a := 113) (by decide)) (hl13.T (a := 113) (p := (7, 4)) 35 rfl rfl) (by decide) rfl) ?_
    refine Q.run zm117 2 (i' := 27) (ls' := [some (.ref 113), some (.int x1), some (.int x2), some (.int x3)]) (st' := [.int ((sI s11 113 3) + 1), .ref 113]) rfl ?_
    obtain ⟨s14, hs15, h⟩ := nx_so h
    refine Q.pf hs15 rfl (gI_of zm117 (e := (46, 3, .putfield 21, [7, 3, 0])) rfl) (hl13.lt (a := 113) (by decide)) (by decide) (hl13.T (a := 113) (p := (7, 4)) 35 rfl rfl) (by decide) rfl rfl ?_
    have hl16 : Ly tt cc s14 := by rw [hs15]; exact hl13.wId (by decide)
    cases h
    exact Q.ret (A.rv zm117 (show zM117.2.2.2.2.2[28]? = some (49, 1, .return_, []) from rfl) rfl) hl16
/-! 115 FormulaTrees$Reader.openBrackets(II)V -/
set_option maxRecDepth 100000 in
theorem zm115 : zP[115]? = some zM115 := rfl
def dm115_25 (y1 : Int32) (s : aS) : Option (aS) :=
  nx (wI s 106 9 y1) fun s1 =>
  nx (wI s1 106 7 ((sI s1 106 7) + 1)) fun s4 =>
  some s4
set_option maxRecDepth 100000 in
theorem dt115_25 {sio : Bool} {tt : Nat} {cc : Nat → Nat → Int32} {d : Nat} (hd : 1 ≤ d) {y1 : Int32} {x1 : Int32} {x2 : Int32} {s : aS} (hl : Ly tt cc s) {o : aS} (h : dm115_25  y1 s = some o) : Q 1 sio tt cc d 115 25 [some (.ref 106), some (.int x1), some (.int x2)] [.int y1, .ref 106] s (.inl none, o) := by
  unfold dm115_25 at h
  obtain ⟨d, rfl⟩ : ∃ e, d = e + 1 := ⟨d - 1, by omega⟩
  obtain ⟨s1, hs2, h⟩ := nx_so h
  refine Q.pf hs2 rfl (gI_of zm115 (e := (48, 3, .putfield 68, [4, 9, 0])) rfl) (hl.lt (a := 106) (by decide)) (by decide) (hl.T (a := 106) (p := (4, 13)) 28 rfl rfl) (by decide) rfl rfl ?_
  have hl3 : Ly tt cc s1 := by rw [hs2]; exact hl.wId (by decide)
  refine Q.run zm115 2 (i' := 28) (ls' := [some (.ref 106), some (.int x1), some (.int x2)]) (st' := [.ref 106, .ref 106]) rfl ?_
  refine Q.map (A.gf (gI_of zm115 (e := (53, 3, .getfield 61, [4, 7])) rfl) (hl3.lt (a := 106) (by decide)) (hl3.T (a := 106) (p := (4, 13)) 28 rfl rfl) (by decide) rfl) ?_
  refine Q.run zm115 2 (i' := 31) (ls' := [some (.ref 106), some (.int x1), some (.int x2)]) (st' := [.int ((sI s1 106 7) + 1), .ref 106]) rfl ?_
  obtain ⟨s4, hs5, h⟩ := nx_so h
  refine Q.pf hs5 rfl (gI_of zm115 (e := (58, 3, .putfield 61, [4, 7, 0])) rfl) (hl3.lt (a := 106) (by decide)) (by decide) (hl3.T (a := 106) (p := (4, 13)) 28 rfl rfl) (by decide) rfl rfl ?_
  have hl6 : Ly tt cc s4 := by rw [hs5]; exact hl3.wId (by decide)
  cases h
  exact Q.ret (A.rv zm115 (show zM115.2.2.2.2.2[32]? = some (61, 1, .return_, []) from rfl) rfl) hl6
def dm115 (x1 : Int32) (x2 : Int32) (s : aS) : Option (aS) :=
  bu (dm82 s) fun r3 =>
  if r3 < 32 then
    bu (dm116 s) fun r7 =>
    bu (dm117 x1 x2 r7 s) fun s10 =>
    if x2 = (-1) then
      dm115_25 1 s10
    else
      dm115_25 0 s10
  else
    nx (wI s 106 8 (sI s 106 7)) fun s12 =>
    some s12
set_option maxRecDepth 100000 in
theorem dt115 {sio : Bool} {tt : Nat} {cc : Nat → Nat → Int32} {d : Nat} (hd : 1 ≤ d) {x1 : Int32} {x2 : Int32} {s : aS} (hl : Ly tt cc s) {o : aS} (h : dm115  x1 x2 s = some o) : Q 1 sio tt cc d 115 0 [some (.ref 106), some (.int x1), some (.int x2)] [] s (.inl none, o) := by
  unfold dm115 at h
  obtain ⟨d, rfl⟩ : ∃ e, d = e + 1 := ⟨d - 1, by omega⟩
  refine Q.run zm115 1 (i' := 1) (ls' := [some (.ref 106), some (.int x1), some (.int x2)]) (st' := [.ref 106]) rfl ?_
  refine Q.map (A.gf (gI_of zm115 (e := (1, 3, .getfield 37, [4, 5])) rfl) (hl.lt (a := 106) (by decide)) (hl.T (a := 106) (p := (4, 13)) 28 rfl rfl) (by decide) (hl.R 13 rfl)) ?_
  obtain ⟨r3, hc2, h⟩ := bu_so h
  have hq1 : Q 1 sio tt cc d 82 0 [some (.ref 113)] [] s (.inl (some (.int r3)), s) := dt82 (by omega) hl  hc2
  refine Q.callI (gC_vi zm115 (show zM115.2.2.2.2.2[2]? = some (4, 3, .invokevirtual 93, [0, 82, 0, 7]) from rfl) zm82 (hl.lt (a := 113) (by decide)) (hl.T (a := 113) (p := (7, 4)) 35 rfl rfl) rfl (show aCr 0 113 [.ref 113] 1 = some ([some (.ref 113)], []) from rfl)) hq1 ?_
  refine Q.run zm115 1 (i' := 4) (ls' := [some (.ref 106), some (.int x1), some (.int x2)]) (st' := [.int 32, .int r3]) rfl ?_
  by_cases hc4 : r3 < 32
  · rw [if_pos hc4] at h
    refine Q.map (A.bT (gI_of zm115 (e := (9, 3, .if_icmp .lt 12, [10])) rfl) (decide_eq_true hc4)) ?_
    refine Q.run zm115 1 (i' := 11) (ls' := [some (.ref 106), some (.int x1), some (.int x2)]) (st' := [.ref 106]) rfl ?_
    refine Q.map (A.gf (gI_of zm115 (e := (22, 3, .getfield 37, [4, 5])) rfl) (hl.lt (a := 106) (by decide)) (hl.T (a := 106) (p := (4, 13)) 28 rfl rfl) (by decide) (hl.R 13 rfl)) ?_
    refine Q.run zm115 3 (i' := 15) (ls' := [some (.ref 106), some (.int x1), some (.int x2)]) (st' := [.ref 106, .int x2, .int x1, .ref 113]) rfl ?_
    refine Q.map (A.gf (gI_of zm115 (e := (28, 3, .getfield 30, [4, 4])) rfl) (hl.lt (a := 106) (by decide)) (hl.T (a := 106) (p := (4, 13)) 28 rfl rfl) (by decide) (hl.R 12 rfl)) ?_
    obtain ⟨r7, hc6, h⟩ := bu_so h
    have hq5 : Q 1 sio tt cc d 116 0 [some (.ref 110)] [] s (.inl (some (.int r7)), s) := dt116 (by omega) hl  hc6
    refine Q.callI (gC_vi zm115 (show zM115.2.2.2.2.2[16]? = some (31, 3, .invokevirtual 154, [0, 116, 0, 6]) from rfl) zm116 (hl.lt (a := 110) (by decide)) (hl.T (a := 110) (p := (6, 3)) 32 rfl rfl) rfl (show aCr 0 110 [.ref 110, .int x2, .int x1, .ref 113] 1 = some ([some (.ref 110)], [.int x2, .int x1, .ref 113]) from rfl)) hq5 ?_
    obtain ⟨s10, hc9, h⟩ := bu_so h
    have hq8 : Q 1 sio tt cc d 117 0 [some (.ref 113), some (.int x1), some (.int x2), some (.int r7)] [] s (.inl none, s10) := dt117 (by omega) hl  hc9
    refine Q.callV (gC_vi zm115 (show zM115.2.2.2.2.2[17]? = some (34, 3, .invokevirtual 157, [0, 117, 3, 7]) from rfl) zm117 (hl.lt (a := 113) (by decide)) (hl.T (a := 113) (p := (7, 4)) 35 rfl rfl) rfl (show aCr 3 113 [.int r7, .int x2, .int x1, .ref 113] 4 = some ([some (.ref 113), some (.int x1), some (.int x2), some (.int r7)], []) from rfl)) hq8 ?_
    refine Q.run zm115 3 (i' := 21) (ls' := [some (.ref 106), some (.int x1), some (.int x2)]) (st' := [.int (-1), .int x2, .ref 106]) rfl ?_
    by_cases hc11 : x2 = (-1)
    · rw [if_pos hc11] at h
      refine Q.map (A.bF (gI_of zm115 (e := (40, 3, .if_icmp .ne 7, [24])) rfl) (fun q => of_decide_eq_true q hc11)) ?_
      refine Q.run zm115 2 (i' := 25) (ls' := [some (.ref 106), some (.int x1), some (.int x2)]) (st' := [.int 1, .ref 106]) rfl ?_
      exact dt115_25 hd hq8.1  h
    · rw [if_neg hc11] at h
      refine Q.map (A.bT (gI_of zm115 (e := (40, 3, .if_icmp .ne 7, [24])) rfl) (decide_eq_true hc11)) ?_
      refine Q.run zm115 1 (i' := 25) (ls' := [some (.ref 106), some (.int x1), some (.int x2)]) (st' := [.int 0, .ref 106]) rfl ?_
      exact dt115_25 hd hq8.1  h
  · rw [if_neg hc4] at h
    refine Q.map (A.bF (gI_of zm115 (e := (9, 3, .if_icmp .lt 12, [10])) rfl) (fun q => hc4 (of_decide_eq_true q))) ?_
    refine Q.run zm115 2 (i' := 7) (ls' := [some (.ref 106), some (.int x1), some (.int x2)]) (st' := [.ref 106, .ref 106]) rfl ?_
    refine Q.map (A.gf (gI_of zm115 (e := (14, 3, .getfield 61, [4, 7])) rfl) (hl.lt (a := 106) (by decide)) (hl.T (a := 106) (p := (4, 13)) 28 rfl rfl) (by decide) rfl) ?_
    obtain ⟨s12, hs13, h⟩ := nx_so h
    refine Q.pf hs13 rfl (gI_of zm115 (e := (17, 3, .putfield 65, [4, 8, 0])) rfl) (hl.lt (a := 106) (by decide)) (by decide) (hl.T (a := 106) (p := (4, 13)) 28 rfl rfl) (by decide) rfl rfl ?_
    have hl14 : Ly tt cc s12 := by rw [hs13]; exact hl.wId (by decide)
    cases h
    exact Q.ret (A.rv zm115 (show zM115.2.2.2.2.2[9]? = some (20, 1, .return_, []) from rfl) rfl) hl14
/-! 118 FormulaTrees$Reader.readMinusBefore()V -/
set_option maxRecDepth 100000 in
theorem zm118 : zP[118]? = some zM118 := rfl
def dm118 (s : aS) : Option (aS) :=
  bv (dm70 (sI s 106 7) s) fun r4 s3 =>
  if r4 = 0 then
    some s3
  else
    vN (sR s3 106 6) (
      none
    ) fun b7 =>
      if aK s3 b7 3 then
        bu (dm94 b7 s3) fun r11 =>
        bu (dm87 6 r11 s3) fun s14 =>
        vN (sR s14 106 6) (
          vN (sR s14 106 6) (
            none
          ) fun b20 =>
            if aK s14 b20 3 then
              bu (dm94 b20 s14) fun r24 =>
              none
            else none
        ) fun b17 =>
          if aK s14 b17 3 then
            vN (sR s14 106 6) (
              none
            ) fun b26 =>
              if aK s14 b26 3 then
                bu (dm94 b26 s14) fun r30 =>
                bu (dm72 b17 r30 10 1 s14) fun s33 =>
                nx (wI s33 106 9 1) fun s37 =>
                nx (wI s37 106 7 ((sI s37 106 7) + 1)) fun s43 =>
                some s43
              else none
          else none
      else none
set_option maxRecDepth 100000 in
theorem dt118 {sio : Bool} {tt : Nat} {cc : Nat → Nat → Int32} {d : Nat} (hd : 2 ≤ d) {s : aS} (hl : Ly tt cc s) {o : aS} (h : dm118  s = some o) : Q 1 sio tt cc d 118 0 [some (.ref 106)] [] s (.inl none, o) := by
  unfold dm118 at h
  obtain ⟨d, rfl⟩ : ∃ e, d = e + 1 := ⟨d - 1, by omega⟩
  refine Q.run zm118 2 (i' := 2) (ls' := [some (.ref 106)]) (st' := [.ref 106, .ref 106]) rfl ?_
  refine Q.map (A.gf (gI_of zm118 (e := (2, 3, .getfield 61, [4, 7])) rfl) (hl.lt (a := 106) (by decide)) (hl.T (a := 106) (p := (4, 13)) 28 rfl rfl) (by decide) rfl) ?_
  obtain ⟨r4, s3, hc2, h⟩ := bv_so h
  have hq1 : Q 1 sio tt cc d 70 0 [some (.ref 106), some (.int (sI s 106 7)), none] [] s (.inl (some (.int r4)), s3) := dt70 (by omega) hl  hc2
  refine Q.callI (gC_vi zm118 (show zM118.2.2.2.2.2[3]? = some (5, 3, .invokevirtual 144, [0, 70, 1, 4]) from rfl) zm70 (hl.lt (a := 106) (by decide)) (hl.T (a := 106) (p := (4, 13)) 28 rfl rfl) rfl (show aCr 1 106 [.int (sI s 106 7), .ref 106] 3 = some ([some (.ref 106), some (.int (sI s 106 7)), none], []) from rfl)) hq1 ?_
  by_cases hc5 : r4 = 0
  · rw [if_pos hc5] at h
    refine Q.map (A.zT (gI_of zm118 (e := (8, 3, .ifCond .eq 51, [29])) rfl) (decide_eq_true hc5)) ?_
    cases h
    exact Q.ret (A.rv zm118 (show zM118.2.2.2.2.2[29]? = some (59, 1, .return_, []) from rfl) rfl) hq1.1
  · rw [if_neg hc5] at h
    refine Q.map (A.zF (gI_of zm118 (e := (8, 3, .ifCond .eq 51, [29])) rfl) (fun q => hc5 (of_decide_eq_true q))) ?_
    refine Q.run zm118 1 (i' := 6) (ls' := [some (.ref 106)]) (st' := [.ref 106]) rfl ?_
    refine Q.map (A.gf (gI_of zm118 (e := (12, 3, .getfield 30, [4, 4])) rfl) (hq1.1.lt (a := 106) (by decide)) (hq1.1.T (a := 106) (p := (4, 13)) 28 rfl rfl) (by decide) (hq1.1.R 12 rfl)) ?_
    refine Q.run zm118 2 (i' := 9) (ls' := [some (.ref 106)]) (st' := [.ref 106, .int 6, .ref 110]) rfl ?_
    rcases vN_so h with ⟨hv6, h⟩ | ⟨b7, hv6, h⟩
    · refine Q.map (A.gf (gI_of zm118 (e := (18, 3, .getfield 48, [4, 6])) rfl) (hq1.1.lt (a := 106) (by decide)) (hq1.1.T (a := 106) (p := (4, 13)) 28 rfl rfl) (by decide) hv6) ?_
      cases h
    · obtain ⟨hr8, h⟩ := ite_so h
      refine Q.map (A.gf (gI_of zm118 (e := (18, 3, .getfield 48, [4, 6])) rfl) (hq1.1.lt (a := 106) (by decide)) (hq1.1.T (a := 106) (p := (4, 13)) 28 rfl rfl) (by decide) hv6) ?_
      obtain ⟨r11, hc10, h⟩ := bu_so h
      have hq9 : Q 1 sio tt cc d 94 0 [some (.ref b7)] [] s3 (.inl (some (.int r11)), s3) := dt94 (by omega) hq1.1 hr8 hc10
      refine Q.callI (gC_vi zm118 (show zM118.2.2.2.2.2[10]? = some (21, 3, .invokevirtual 116, [0, 94, 0, 3]) from rfl) zm94 hr8.1 (hq1.1.tr hr8).1 rfl (show aCr 0 b7 [.ref b7, .int 6, .ref 110] 1 = some ([some (.ref b7)], [.int 6, .ref 110]) from rfl)) hq9 ?_
      obtain ⟨s14, hc13, h⟩ := bu_so h
      have hq12 : Q 1 sio tt cc d 87 0 [some (.ref 110), some (.int 6), some (.int r11)] [] s3 (.inl none, s14) := dt87 (by omega) hq1.1  hc13
      refine Q.callV (gC_vi zm118 (show zM118.2.2.2.2.2[11]? = some (24, 3, .invokevirtual 147, [0, 87, 2, 6]) from rfl) zm87 (hq1.1.lt (a := 110) (by decide)) (hq1.1.T (a := 110) (p := (6, 3)) 32 rfl rfl) rfl (show aCr 2 110 [.int r11, .int 6, .ref 110] 3 = some ([some (.ref 110), some (.int 6), some (.int r11)], []) from rfl)) hq12 ?_
      have hr15 : aK s14 b7 3 := hq12.2.1.k hr8
      refine Q.run zm118 1 (i' := 13) (ls' := [some (.ref 106)]) (st' := [.ref 106]) rfl ?_
      rcases vN_so h with ⟨hv16, h⟩ | ⟨b17, hv16, h⟩
      · refine Q.map (A.gf (gI_of zm118 (e := (28, 3, .getfield 48, [4, 6])) rfl) (hq12.1.lt (a := 106) (by decide)) (hq12.1.T (a := 106) (p := (4, 13)) 28 rfl rfl) (by decide) hv16) ?_
        refine Q.run zm118 1 (i' := 15) (ls' := [some (.ref 106)]) (st' := [.ref 106, .null]) rfl ?_
        rcases vN_so h with ⟨hv19, h⟩ | ⟨b20, hv19, h⟩
        · refine Q.map (A.gf (gI_of zm118 (e := (32, 3, .getfield 48, [4, 6])) rfl) (hq12.1.lt (a := 106) (by decide)) (hq12.1.T (a := 106) (p := (4, 13)) 28 rfl rfl) (by decide) hv19) ?_
          cases h
        · obtain ⟨hr21, h⟩ := ite_so h
          refine Q.map (A.gf (gI_of zm118 (e := (32, 3, .getfield 48, [4, 6])) rfl) (hq12.1.lt (a := 106) (by decide)) (hq12.1.T (a := 106) (p := (4, 13)) 28 rfl rfl) (by decide) hv19) ?_
          obtain ⟨r24, hc23, h⟩ := bu_so h
          have hq22 : Q 1 sio tt cc d 94 0 [some (.ref b20)] [] s14 (.inl (some (.int r24)), s14) := dt94 (by omega) hq12.1 hr21 hc23
          refine Q.callI (gC_vi zm118 (show zM118.2.2.2.2.2[16]? = some (35, 3, .invokevirtual 116, [0, 94, 0, 3]) from rfl) zm94 hr21.1 (hq12.1.tr hr21).1 rfl (show aCr 0 b20 [.ref b20, .null] 1 = some ([some (.ref b20)], [.null]) from rfl)) hq22 ?_
          refine Q.run zm118 2 (i' := 19) (ls' := [some (.ref 106)]) (st' := [.int 1, .int 10, .int r24, .null]) rfl ?_
          cases h
      · obtain ⟨hr18, h⟩ := ite_so h
        refine Q.map (A.gf (gI_of zm118 (e := (28, 3, .getfield 48, [4, 6])) rfl) (hq12.1.lt (a := 106) (by decide)) (hq12.1.T (a := 106) (p := (4, 13)) 28 rfl rfl) (by decide) hv16) ?_
        refine Q.run zm118 1 (i' := 15) (ls' := [some (.ref 106)]) (st' := [.ref 106, .ref b17]) rfl ?_
        rcases vN_so h with ⟨hv25, h⟩ | ⟨b26, hv25, h⟩
        · refine Q.map (A.gf (gI_of zm118 (e := (32, 3, .getfield 48, [4, 6])) rfl) (hq12.1.lt (a := 106) (by decide)) (hq12.1.T (a := 106) (p := (4, 13)) 28 rfl rfl) (by decide) hv25) ?_
          cases h
        · obtain ⟨hr27, h⟩ := ite_so h
          refine Q.map (A.gf (gI_of zm118 (e := (32, 3, .getfield 48, [4, 6])) rfl) (hq12.1.lt (a := 106) (by decide)) (hq12.1.T (a := 106) (p := (4, 13)) 28 rfl rfl) (by decide) hv25) ?_
          obtain ⟨r30, hc29, h⟩ := bu_so h
          have hq28 : Q 1 sio tt cc d 94 0 [some (.ref b26)] [] s14 (.inl (some (.int r30)), s14) := dt94 (by omega) hq12.1 hr27 hc29
          refine Q.callI (gC_vi zm118 (show zM118.2.2.2.2.2[16]? = some (35, 3, .invokevirtual 116, [0, 94, 0, 3]) from rfl) zm94 hr27.1 (hq12.1.tr hr27).1 rfl (show aCr 0 b26 [.ref b26, .ref b17] 1 = some ([some (.ref b26)], [.ref b17]) from rfl)) hq28 ?_
          refine Q.run zm118 2 (i' := 19) (ls' := [some (.ref 106)]) (st' := [.int 1, .int 10, .int r30, .ref b17]) rfl ?_
          obtain ⟨s33, hc32, h⟩ := bu_so h
          have hq31 : Q 1 sio tt cc d 72 0 [some (.ref b17), some (.int r30), some (.int 10), some (.int 1), none] [] s14 (.inl none, s33) := dt72 (by omega) hq12.1 hr18 hc32
          refine Q.callV (gC_vi zm118 (show zM118.2.2.2.2.2[19]? = some (41, 3, .invokevirtual 150, [0, 72, 3, 3]) from rfl) zm72 hr18.1 (hq12.1.tr hr18).1 rfl (show aCr 3 b17 [.int 1, .int 10, .int r30, .ref b17] 5 = some ([some (.ref b17), some (.int r30), some (.int 10), some (.int 1), none], []) from rfl)) hq31 ?_
          have hr34 : aK s33 b7 3 := hq31.2.1.k hr15
          have hr35 : aK s33 b17 3 := hq31.2.1.k hr18
          have hr36 : aK s33 b26 3 := hq31.2.1.k hr27
          refine Q.run zm118 2 (i' := 22) (ls' := [some (.ref 106)]) (st' := [.int 1, .ref 106]) rfl ?_
          obtain ⟨s37, hs38, h⟩ := nx_so h
          refine Q.pf hs38 rfl (gI_of zm118 (e := (46, 3, .putfield 68, [4, 9, 0])) rfl) (hq31.1.lt (a := 106) (by decide)) (by decide) (hq31.1.T (a := 106) (p := (4, 13)) 28 rfl rfl) (by decide) rfl rfl ?_
          have hl39 : Ly tt cc s37 := by rw [hs38]; exact hq31.1.wId (by decide)
          have hr40 : aK s37 b7 3 := by rw [hs38]; exact hr34
          have hr41 : aK s37 b17 3 := by rw [hs38]; exact hr35
          have hr42 : aK s37 b26 3 := by rw [hs38]; exact hr36
          refine Q.run zm118 2 (i' := 25) (ls' := [some (.ref 106)]) (st' := [.ref 106, .ref 106]) rfl ?_
          refine Q.map (A.gf (gI_of zm118 (e := (51, 3, .getfield 61, [4, 7])) rfl) (hl39.lt (a := 106) (by decide)) (hl39.T (a := 106) (p := (4, 13)) 28 rfl rfl) (by decide) rfl) ?_
          refine Q.run zm118 2 (i' := 28) (ls' := [some (.ref 106)]) (st' := [.int ((sI s37 106 7) + 1), .ref 106]) rfl ?_
          obtain ⟨s43, hs44, h⟩ := nx_so h
          refine Q.pf hs44 rfl (gI_of zm118 (e := (56, 3, .putfield 61, [4, 7, 0])) rfl) (hl39.lt (a := 106) (by decide)) (by decide) (hl39.T (a := 106) (p := (4, 13)) 28 rfl rfl) (by decide) rfl rfl ?_
          have hl45 : Ly tt cc s43 := by rw [hs44]; exact hl39.wId (by decide)
          have hr46 : aK s43 b7 3 := by rw [hs44]; exact hr40
          have hr47 : aK s43 b17 3 := by rw [hs44]; exact hr41
          have hr48 : aK s43 b26 3 := by rw [hs44]; exact hr42
          cases h
          exact Q.ret (A.rv zm118 (show zM118.2.2.2.2.2[29]? = some (59, 1, .return_, []) from rfl) rfl) hl45
/-! 119 FormulaTrees$Reader.readNothing(Z)V -/
set_option maxRecDepth 100000 in
theorem zm119 : zP[119]? = some zM119 := rfl
def dm119_17 (x1 : Int32) (s : aS) : Option (aS) :=
  bv (dm70 (sI s 106 7) s) fun r4 s3 =>
  if r4 = 0 then
    some s3
  else
    vN (sR s3 106 6) (
      vN (sR s3 106 6) (
        none
      ) fun b10 =>
        if aK s3 b10 3 then
          bu (dm94 b10 s3) fun r14 =>
          none
        else none
    ) fun b7 =>
      if aK s3 b7 3 then
        vN (sR s3 106 6) (
          none
        ) fun b16 =>
          if aK s3 b16 3 then
            bu (dm94 b16 s3) fun r20 =>
            bu (dm72 b7 r20 8 0 s3) fun s23 =>
            bu (dm75 x1 s23) fun s28 =>
            some s28
          else none
      else none
set_option maxRecDepth 100000 in
theorem dt119_17 {sio : Bool} {tt : Nat} {cc : Nat → Nat → Int32} {d : Nat} (hd : 4 ≤ d) {x1 : Int32} {s : aS} (hl : Ly tt cc s) {o : aS} (h : dm119_17  x1 s = some o) : Q 1 sio tt cc d 119 17 [some (.ref 106), some (.int x1)] [] s (.inl none, o) := by
  unfold dm119_17 at h
  obtain ⟨d, rfl⟩ : ∃ e, d = e + 1 := ⟨d - 1, by omega⟩
  refine Q.run zm119 2 (i' := 19) (ls' := [some (.ref 106), some (.int x1)]) (st' := [.ref 106, .ref 106]) rfl ?_
  refine Q.map (A.gf (gI_of zm119 (e := (41, 3, .getfield 61, [4, 7])) rfl) (hl.lt (a := 106) (by decide)) (hl.T (a := 106) (p := (4, 13)) 28 rfl rfl) (by decide) rfl) ?_
  obtain ⟨r4, s3, hc2, h⟩ := bv_so h
  have hq1 : Q 1 sio tt cc d 70 0 [some (.ref 106), some (.int (sI s 106 7)), none] [] s (.inl (some (.int r4)), s3) := dt70 (by omega) hl  hc2
  refine Q.callI (gC_vi zm119 (show zM119.2.2.2.2.2[20]? = some (44, 3, .invokevirtual 144, [0, 70, 1, 4]) from rfl) zm70 (hl.lt (a := 106) (by decide)) (hl.T (a := 106) (p := (4, 13)) 28 rfl rfl) rfl (show aCr 1 106 [.int (sI s 106 7), .ref 106] 3 = some ([some (.ref 106), some (.int (sI s 106 7)), none], []) from rfl)) hq1 ?_
  by_cases hc5 : r4 = 0
  · rw [if_pos hc5] at h
    refine Q.map (A.zT (gI_of zm119 (e := (47, 3, .ifCond .eq 25, [33])) rfl) (decide_eq_true hc5)) ?_
    cases h
    exact Q.ret (A.rv zm119 (show zM119.2.2.2.2.2[33]? = some (72, 1, .return_, []) from rfl) rfl) hq1.1
  · rw [if_neg hc5] at h
    refine Q.map (A.zF (gI_of zm119 (e := (47, 3, .ifCond .eq 25, [33])) rfl) (fun q => hc5 (of_decide_eq_true q))) ?_
    refine Q.run zm119 1 (i' := 23) (ls' := [some (.ref 106), some (.int x1)]) (st' := [.ref 106]) rfl ?_
    rcases vN_so h with ⟨hv6, h⟩ | ⟨b7, hv6, h⟩
    · refine Q.map (A.gf (gI_of zm119 (e := (51, 3, .getfield 48, [4, 6])) rfl) (hq1.1.lt (a := 106) (by decide)) (hq1.1.T (a := 106) (p := (4, 13)) 28 rfl rfl) (by decide) hv6) ?_
      refine Q.run zm119 1 (i' := 25) (ls' := [some (.ref 106), some (.int x1)]) (st' := [.ref 106, .null]) rfl ?_
      rcases vN_so h with ⟨hv9, h⟩ | ⟨b10, hv9, h⟩
      · refine Q.map (A.gf (gI_of zm119 (e := (55, 3, .getfield 48, [4, 6])) rfl) (hq1.1.lt (a := 106) (by decide)) (hq1.1.T (a := 106) (p := (4, 13)) 28 rfl rfl) (by decide) hv9) ?_
        cases h
      · obtain ⟨hr11, h⟩ := ite_so h
        refine Q.map (A.gf (gI_of zm119 (e := (55, 3, .getfield 48, [4, 6])) rfl) (hq1.1.lt (a := 106) (by decide)) (hq1.1.T (a := 106) (p := (4, 13)) 28 rfl rfl) (by decide) hv9) ?_
        obtain ⟨r14, hc13, h⟩ := bu_so h
        have hq12 : Q 1 sio tt cc d 94 0 [some (.ref b10)] [] s3 (.inl (some (.int r14)), s3) := dt94 (by omega) hq1.1 hr11 hc13
        refine Q.callI (gC_vi zm119 (show zM119.2.2.2.2.2[26]? = some (58, 3, .invokevirtual 116, [0, 94, 0, 3]) from rfl) zm94 hr11.1 (hq1.1.tr hr11).1 rfl (show aCr 0 b10 [.ref b10, .null] 1 = some ([some (.ref b10)], [.null]) from rfl)) hq12 ?_
        refine Q.run zm119 2 (i' := 29) (ls' := [some (.ref 106), some (.int x1)]) (st' := [.int 0, .int 8, .int r14, .null]) rfl ?_
        cases h
    · obtain ⟨hr8, h⟩ := ite_so h
      refine Q.map (A.gf (gI_of zm119 (e := (51, 3, .getfield 48, [4, 6])) rfl) (hq1.1.lt (a := 106) (by decide)) (hq1.1.T (a := 106) (p := (4, 13)) 28 rfl rfl) (by decide) hv6) ?_
      refine Q.run zm119 1 (i' := 25) (ls' := [some (.ref 106), some (.int x1)]) (st' := [.ref 106, .ref b7]) rfl ?_
      rcases vN_so h with ⟨hv15, h⟩ | ⟨b16, hv15, h⟩
      · refine Q.map (A.gf (gI_of zm119 (e := (55, 3, .getfield 48, [4, 6])) rfl) (hq1.1.lt (a := 106) (by decide)) (hq1.1.T (a := 106) (p := (4, 13)) 28 rfl rfl) (by decide) hv15) ?_
        cases h
      · obtain ⟨hr17, h⟩ := ite_so h
        refine Q.map (A.gf (gI_of zm119 (e := (55, 3, .getfield 48, [4, 6])) rfl) (hq1.1.lt (a := 106) (by decide)) (hq1.1.T (a := 106) (p := (4, 13)) 28 rfl rfl) (by decide) hv15) ?_
        obtain ⟨r20, hc19, h⟩ := bu_so h
        have hq18 : Q 1 sio tt cc d 94 0 [some (.ref b16)] [] s3 (.inl (some (.int r20)), s3) := dt94 (by omega) hq1.1 hr17 hc19
        refine Q.callI (gC_vi zm119 (show zM119.2.2.2.2.2[26]? = some (58, 3, .invokevirtual 116, [0, 94, 0, 3]) from rfl) zm94 hr17.1 (hq1.1.tr hr17).1 rfl (show aCr 0 b16 [.ref b16, .ref b7] 1 = some ([some (.ref b16)], [.ref b7]) from rfl)) hq18 ?_
        refine Q.run zm119 2 (i' := 29) (ls' := [some (.ref 106), some (.int x1)]) (st' := [.int 0, .int 8, .int r20, .ref b7]) rfl ?_
        obtain ⟨s23, hc22, h⟩ := bu_so h
        have hq21 : Q 1 sio tt cc d 72 0 [some (.ref b7), some (.int r20), some (.int 8), some (.int 0), none] [] s3 (.inl none, s23) := dt72 (by omega) hq1.1 hr8 hc22
        refine Q.callV (gC_vi zm119 (show zM119.2.2.2.2.2[29]? = some (64, 3, .invokevirtual 150, [0, 72, 3, 3]) from rfl) zm72 hr8.1 (hq1.1.tr hr8).1 rfl (show aCr 3 b7 [.int 0, .int 8, .int r20, .ref b7] 5 = some ([some (.ref b7), some (.int r20), some (.int 8), some (.int 0), none], []) from rfl)) hq21 ?_
        have hr24 : aK s23 b7 3 := hq21.2.1.k hr8
        have hr25 : aK s23 b16 3 := hq21.2.1.k hr17
        refine Q.run zm119 2 (i' := 32) (ls' := [some (.ref 106), some (.int x1)]) (st' := [.int x1, .ref 106]) rfl ?_
        obtain ⟨s28, hc27, h⟩ := bu_so h
        have hq26 : Q 1 sio tt cc d 75 0 [some (.ref 106), some (.int x1)] [] s23 (.inl none, s28) := dt75 (by omega) hq21.1  hc27
        refine Q.callV (gC_vi zm119 (show zM119.2.2.2.2.2[32]? = some (69, 3, .invokevirtual 165, [0, 75, 1, 4]) from rfl) zm75 (hq21.1.lt (a := 106) (by decide)) (hq21.1.T (a := 106) (p := (4, 13)) 28 rfl rfl) rfl (show aCr 1 106 [.int x1, .ref 106] 2 = some ([some (.ref 106), some (.int x1)], []) from rfl)) hq26 ?_
        have hr29 : aK s28 b7 3 := hq26.2.1.k hr24
        have hr30 : aK s28 b16 3 := hq26.2.1.k hr25
        cases h
        exact Q.ret (A.rv zm119 (show zM119.2.2.2.2.2[33]? = some (72, 1, .return_, []) from rfl) rfl) hq26.1
def dm119 (x1 : Int32) (s : aS) : Option (aS) :=
  if (sI s 106 9) = 0 then
    if x1 = 0 then
      dm119_17 x1 s
    else
      bu (dm74 s) fun r5 =>
      if r5 = 0 then
        bu (dm77 s) fun s9 =>
        some s9
      else
        dm119_17 x1 s
  else
    nx (wI s 106 8 (sI s 106 7)) fun s10 =>
    some s10
set_option maxRecDepth 100000 in
theorem dt119 {sio : Bool} {tt : Nat} {cc : Nat → Nat → Int32} {d : Nat} (hd : 4 ≤ d) {x1 : Int32} {s : aS} (hl : Ly tt cc s) {o : aS} (h : dm119  x1 s = some o) : Q 1 sio tt cc d 119 0 [some (.ref 106), some (.int x1)] [] s (.inl none, o) := by
  unfold dm119 at h
  obtain ⟨d, rfl⟩ : ∃ e, d = e + 1 := ⟨d - 1, by omega⟩
  refine Q.run zm119 1 (i' := 1) (ls' := [some (.ref 106), some (.int x1)]) (st' := [.ref 106]) rfl ?_
  refine Q.map (A.gf (gI_of zm119 (e := (1, 3, .getfield 68, [4, 9])) rfl) (hl.lt (a := 106) (by decide)) (hl.T (a := 106) (p := (4, 13)) 28 rfl rfl) (by decide) rfl) ?_
  by_cases hc1 : (sI s 106 9) = 0
  · rw [if_pos hc1] at h
    refine Q.map (A.zT (gI_of zm119 (e := (4, 3, .ifCond .eq 14, [8])) rfl) (decide_eq_true hc1)) ?_
    refine Q.run zm119 1 (i' := 9) (ls' := [some (.ref 106), some (.int x1)]) (st' := [.int x1]) rfl ?_
    by_cases hc2 : x1 = 0
    · rw [if_pos hc2] at h
      refine Q.map (A.zT (gI_of zm119 (e := (19, 3, .ifCond .eq 20, [17])) rfl) (decide_eq_true hc2)) ?_
      exact dt119_17 hd hl  h
    · rw [if_neg hc2] at h
      refine Q.map (A.zF (gI_of zm119 (e := (19, 3, .ifCond .eq 20, [17])) rfl) (fun q => hc2 (of_decide_eq_true q))) ?_
      refine Q.run zm119 1 (i' := 11) (ls' := [some (.ref 106), some (.int x1)]) (st' := [.ref 106]) rfl ?_
      refine Q.map (A.gf (gI_of zm119 (e := (23, 3, .getfield 37, [4, 5])) rfl) (hl.lt (a := 106) (by decide)) (hl.T (a := 106) (p := (4, 13)) 28 rfl rfl) (by decide) (hl.R 13 rfl)) ?_
      obtain ⟨r5, hc4, h⟩ := bu_so h
      have hq3 : Q 1 sio tt cc d 74 0 [some (.ref 113)] [] s (.inl (some (.int r5)), s) := dt74 (by omega) hl  hc4
      refine Q.callI (gC_vi zm119 (show zM119.2.2.2.2.2[12]? = some (26, 3, .invokevirtual 159, [0, 74, 0, 7]) from rfl) zm74 (hl.lt (a := 113) (by decide)) (hl.T (a := 113) (p := (7, 4)) 35 rfl rfl) rfl (show aCr 0 113 [.ref 113] 1 = some ([some (.ref 113)], []) from rfl)) hq3 ?_
      by_cases hc6 : r5 = 0
      · rw [if_pos hc6] at h
        refine Q.map (A.zF (gI_of zm119 (e := (29, 3, .ifCond .ne 10, [17])) rfl) (fun q => of_decide_eq_true q hc6)) ?_
        refine Q.run zm119 1 (i' := 15) (ls' := [some (.ref 106), some (.int x1)]) (st' := [.ref 106]) rfl ?_
        obtain ⟨s9, hc8, h⟩ := bu_so h
        have hq7 : Q 1 sio tt cc d 77 0 [some (.ref 106), none] [] s (.inl none, s9) := dt77 (by omega) hl  hc8
        refine Q.callV (gC_vi zm119 (show zM119.2.2.2.2.2[15]? = some (33, 3, .invokevirtual 162, [0, 77, 0, 4]) from rfl) zm77 (hl.lt (a := 106) (by decide)) (hl.T (a := 106) (p := (4, 13)) 28 rfl rfl) rfl (show aCr 0 106 [.ref 106] 2 = some ([some (.ref 106), none], []) from rfl)) hq7 ?_
        refine Q.run zm119 1 (i' := 33) (ls' := [some (.ref 106), some (.int x1)]) (st' := []) rfl ?_
        cases h
        exact Q.ret (A.rv zm119 (show zM119.2.2.2.2.2[33]? = some (72, 1, .return_, []) from rfl) rfl) hq7.1
      · rw [if_neg hc6] at h
        refine Q.map (A.zT (gI_of zm119 (e := (29, 3, .ifCond .ne 10, [17])) rfl) (decide_eq_true hc6)) ?_
        exact dt119_17 hd hl  h
  · rw [if_neg hc1] at h
    refine Q.map (A.zF (gI_of zm119 (e := (4, 3, .ifCond .eq 14, [8])) rfl) (fun q => hc1 (of_decide_eq_true q))) ?_
    refine Q.run zm119 2 (i' := 5) (ls' := [some (.ref 106), some (.int x1)]) (st' := [.ref 106, .ref 106]) rfl ?_
    refine Q.map (A.gf (gI_of zm119 (e := (9, 3, .getfield 61, [4, 7])) rfl) (hl.lt (a := 106) (by decide)) (hl.T (a := 106) (p := (4, 13)) 28 rfl rfl) (by decide) rfl) ?_
    obtain ⟨s10, hs11, h⟩ := nx_so h
    refine Q.pf hs11 rfl (gI_of zm119 (e := (12, 3, .putfield 65, [4, 8, 0])) rfl) (hl.lt (a := 106) (by decide)) (by decide) (hl.T (a := 106) (p := (4, 13)) 28 rfl rfl) (by decide) rfl rfl ?_
    have hl12 : Ly tt cc s10 := by rw [hs11]; exact hl.wId (by decide)
    refine Q.run zm119 1 (i' := 33) (ls' := [some (.ref 106), some (.int x1)]) (st' := []) rfl ?_
    cases h
    exact Q.ret (A.rv zm119 (show zM119.2.2.2.2.2[33]? = some (72, 1, .return_, []) from rfl) rfl) hl12
/-! 121 FormulaTrees$Reader.skipDigits(I)I -/
set_option maxRecDepth 100000 in
theorem zm121 : zP[121]? = some zM121 := rfl
def dm121_2 : Nat → Int32 → Int32 → aS → Option (Int32 × aS)
  | 0, _, _, _ => none
  | n + 1, x1, x2, s =>
    if x1 ≤ x2 then
      some (x2, s)
    else
      bu (dm34 79 (sI s 106 7) s) fun r4 =>
      bu (dm47 r4) fun r7 =>
      if r7 = 0 then
        some (x2, s)
      else
        nx (wI s 106 7 ((sI s 106 7) + 1)) fun s9 =>
        dm121_2 n x1 (x2 + 1) s9
set_option maxRecDepth 100000 in
theorem dt121_2 {sio : Bool} {tt : Nat} {cc : Nat → Nat → Int32} {d : Nat} (hd : 1 ≤ d) : ∀ (n : Nat) {x1 : Int32} {x2 : Int32} {s : aS} (_ : Ly tt cc s) {o : Int32 × aS} (_ : dm121_2  n x1 x2 s = some o), Q 1 sio tt cc d 121 2 [some (.ref 106), some (.int x1), some (.int x2)] [] s (.inl (some (.int o.1)), o.2) := by
  obtain ⟨d, rfl⟩ : ∃ e, d = e + 1 := ⟨d - 1, by omega⟩
  intro n
  induction n with
  | zero => intro x1 x2 s hl o h; rw [dm121_2] at h; cases h
  | succ n ih =>
    intro x1 x2 s hl o h
    rw [dm121_2] at h
    refine Q.run zm121 2 (i' := 4) (ls' := [some (.ref 106), some (.int x1), some (.int x2)]) (st' := [.int x1, .int x2]) rfl ?_
    by_cases hc1 : x1 ≤ x2
    · rw [if_pos hc1] at h
      refine Q.map (A.bT (gI_of zm121 (e := (4, 3, .if_icmp .ge 36, [20])) rfl) (decide_eq_true hc1)) ?_
      refine Q.run zm121 1 (i' := 21) (ls' := [some (.ref 106), some (.int x1), some (.int x2)]) (st' := [.int x2]) rfl ?_
      cases h
      exact Q.ret (A.ri zm121 (show zM121.2.2.2.2.2[21]? = some (41, 1, .ireturn, []) from rfl) rfl rfl) hl
    · rw [if_neg hc1] at h
      refine Q.map (A.bF (gI_of zm121 (e := (4, 3, .if_icmp .ge 36, [20])) rfl) (fun q => hc1 (of_decide_eq_true q))) ?_
      refine Q.run zm121 1 (i' := 6) (ls' := [some (.ref 106), some (.int x1), some (.int x2)]) (st' := [.ref 106]) rfl ?_
      refine Q.map (A.gf (gI_of zm121 (e := (8, 3, .getfield 41, [4, 0])) rfl) (hl.lt (a := 106) (by decide)) (hl.T (a := 106) (p := (4, 13)) 28 rfl rfl) (by decide) (hl.R 8 rfl)) ?_
      refine Q.run zm121 1 (i' := 8) (ls' := [some (.ref 106), some (.int x1), some (.int x2)]) (st' := [.ref 106, .ref 79]) rfl ?_
      refine Q.map (A.gf (gI_of zm121 (e := (12, 3, .getfield 61, [4, 7])) rfl) (hl.lt (a := 106) (by decide)) (hl.T (a := 106) (p := (4, 13)) 28 rfl rfl) (by decide) rfl) ?_
      obtain ⟨r4, hc3, h⟩ := bu_so h
      have hq2 : Q 1 sio tt cc d 34 0 [some (.ref 79), some (.int (sI s 106 7))] [] s (.inl (some (.int r4)), s) := dt34 (by omega) hl (hl.Kd (a := 79) (c := 1) (n := 2) 1 rfl rfl (by decide)) hc3
      refine Q.callI (gC_vi zm121 (show zM121.2.2.2.2.2[9]? = some (15, 3, .invokevirtual 78, [0, 34, 1, 1]) from rfl) zm34 (hl.lt (a := 79) (by decide)) (hl.T (a := 79) (p := (1, 2)) 1 rfl rfl) rfl (show aCr 1 79 [.int (sI s 106 7), .ref 79] 2 = some ([some (.ref 79), some (.int (sI s 106 7))], []) from rfl)) hq2 ?_
      obtain ⟨r7, hc6, h⟩ := bu_so h
      have hq5 : Q 1 sio tt cc d 47 0 [some (.int r4)] [] s (.inl (some (.int r7)), s) := dt47 (by omega) hl  hc6
      refine Q.callI (gC_st zm121 (show zM121.2.2.2.2.2[10]? = some (18, 3, .invokestatic 129, [0, 47, 1]) from rfl) zm47 (show aC 1 [.int r4] 1 = some ([some (.int r4)], []) from rfl)) hq5 ?_
      by_cases hc8 : r7 = 0
      · rw [if_pos hc8] at h
        refine Q.map (A.zT (gI_of zm121 (e := (21, 3, .ifCond .eq 19, [20])) rfl) (decide_eq_true hc8)) ?_
        refine Q.run zm121 1 (i' := 21) (ls' := [some (.ref 106), some (.int x1), some (.int x2)]) (st' := [.int x2]) rfl ?_
        cases h
        exact Q.ret (A.ri zm121 (show zM121.2.2.2.2.2[21]? = some (41, 1, .ireturn, []) from rfl) rfl rfl) hl
      · rw [if_neg hc8] at h
        refine Q.map (A.zF (gI_of zm121 (e := (21, 3, .ifCond .eq 19, [20])) rfl) (fun q => hc8 (of_decide_eq_true q))) ?_
        refine Q.run zm121 3 (i' := 15) (ls' := [some (.ref 106), some (.int x1), some (.int (x2 + 1))]) (st' := [.ref 106, .ref 106]) rfl ?_
        refine Q.map (A.gf (gI_of zm121 (e := (29, 3, .getfield 61, [4, 7])) rfl) (hl.lt (a := 106) (by decide)) (hl.T (a := 106) (p := (4, 13)) 28 rfl rfl) (by decide) rfl) ?_
        refine Q.run zm121 2 (i' := 18) (ls' := [some (.ref 106), some (.int x1), some (.int (x2 + 1))]) (st' := [.int ((sI s 106 7) + 1), .ref 106]) rfl ?_
        obtain ⟨s9, hs10, h⟩ := nx_so h
        refine Q.pf hs10 rfl (gI_of zm121 (e := (34, 3, .putfield 61, [4, 7, 0])) rfl) (hl.lt (a := 106) (by decide)) (by decide) (hl.T (a := 106) (p := (4, 13)) 28 rfl rfl) (by decide) rfl rfl ?_
        have hl11 : Ly tt cc s9 := by rw [hs10]; exact hl.wId (by decide)
        refine Q.run zm121 1 (i' := 2) (ls' := [some (.ref 106), some (.int x1), some (.int (x2 + 1))]) (st' := []) rfl ?_
        exact ih hl11  h
def dm121 (x1 : Int32) (s : aS) : Option (Int32 × aS) :=
  dm121_2 5000 x1 0 s
set_option maxRecDepth 100000 in
theorem dt121 {sio : Bool} {tt : Nat} {cc : Nat → Nat → Int32} {d : Nat} (hd : 1 ≤ d) {x1 : Int32} {s : aS} (hl : Ly tt cc s) {o : Int32 × aS} (h : dm121  x1 s = some o) : Q 1 sio tt cc d 121 0 [some (.ref 106), some (.int x1), none] [] s (.inl (some (.int o.1)), o.2) := by
  unfold dm121 at h
  obtain ⟨d, rfl⟩ : ∃ e, d = e + 1 := ⟨d - 1, by omega⟩
  refine Q.run zm121 2 (i' := 2) (ls' := [some (.ref 106), some (.int x1), some (.int 0)]) (st' := []) rfl ?_
  exact dt121_2 hd _ hl  h
/-! 122 FormulaTrees$Reader.hold(II)V -/
set_option maxRecDepth 100000 in
theorem zm122 : zP[122]? = some zM122 := rfl
def dm122_5 : Nat → Int32 → Int32 → aS → Option (aS)
  | 0, _, _, _ => none
  | n + 1, x2, x3, s =>
    if x2 ≤ x3 then
      some s
    else
      bu (dm34 79 x3 s) fun r4 =>
      bu (dm35 r4) fun r7 =>
      bu (dm29 107 r7 s) fun s10 =>
      dm122_5 n x2 (x3 + 1) s10
set_option maxRecDepth 100000 in
theorem dt122_5 {sio : Bool} {tt : Nat} {cc : Nat → Nat → Int32} {d : Nat} (hd : 1 ≤ d) : ∀ (n : Nat) {x2 : Int32} {x3 : Int32} {x1 : Int32} {s : aS} (_ : Ly tt cc s) {o : aS} (_ : dm122_5  n x2 x3 s = some o), Q 1 sio tt cc d 122 5 [some (.ref 106), some (.int x1), some (.int x2), some (.int x3)] [] s (.inl none, o) := by
  obtain ⟨d, rfl⟩ : ∃ e, d = e + 1 := ⟨d - 1, by omega⟩
  intro n
  induction n with
  | zero => intro x2 x3 x1 s hl o h; rw [dm122_5] at h; cases h
  | succ n ih =>
    intro x2 x3 x1 s hl o h
    rw [dm122_5] at h
    refine Q.run zm122 2 (i' := 7) (ls' := [some (.ref 106), some (.int x1), some (.int x2), some (.int x3)]) (st' := [.int x2, .int x3]) rfl ?_
    by_cases hc1 : x2 ≤ x3
    · rw [if_pos hc1] at h
      refine Q.map (A.bT (gI_of zm122 (e := (11, 3, .if_icmp .ge 27, [18])) rfl) (decide_eq_true hc1)) ?_
      cases h
      exact Q.ret (A.rv zm122 (show zM122.2.2.2.2.2[18]? = some (38, 1, .return_, []) from rfl) rfl) hl
    · rw [if_neg hc1] at h
      refine Q.map (A.bF (gI_of zm122 (e := (11, 3, .if_icmp .ge 27, [18])) rfl) (fun q => hc1 (of_decide_eq_true q))) ?_
      refine Q.run zm122 1 (i' := 9) (ls' := [some (.ref 106), some (.int x1), some (.int x2), some (.int x3)]) (st' := [.ref 106]) rfl ?_
      refine Q.map (A.gf (gI_of zm122 (e := (15, 3, .getfield 14, [4, 2])) rfl) (hl.lt (a := 106) (by decide)) (hl.T (a := 106) (p := (4, 13)) 28 rfl rfl) (by decide) (hl.R 10 rfl)) ?_
      refine Q.run zm122 1 (i' := 11) (ls' := [some (.ref 106), some (.int x1), some (.int x2), some (.int x3)]) (st' := [.ref 106, .ref 107]) rfl ?_
      refine Q.map (A.gf (gI_of zm122 (e := (19, 3, .getfield 41, [4, 0])) rfl) (hl.lt (a := 106) (by decide)) (hl.T (a := 106) (p := (4, 13)) 28 rfl rfl) (by decide) (hl.R 8 rfl)) ?_
      refine Q.run zm122 1 (i' := 13) (ls' := [some (.ref 106), some (.int x1), some (.int x2), some (.int x3)]) (st' := [.int x3, .ref 79, .ref 107]) rfl ?_
      obtain ⟨r4, hc3, h⟩ := bu_so h
      have hq2 : Q 1 sio tt cc d 34 0 [some (.ref 79), some (.int x3)] [] s (.inl (some (.int r4)), s) := dt34 (by omega) hl (hl.Kd (a := 79) (c := 1) (n := 2) 1 rfl rfl (by decide)) hc3
      refine Q.callI (gC_vi zm122 (show zM122.2.2.2.2.2[13]? = some (23, 3, .invokevirtual 78, [0, 34, 1, 1]) from rfl) zm34 (hl.lt (a := 79) (by decide)) (hl.T (a := 79) (p := (1, 2)) 1 rfl rfl) rfl (show aCr 1 79 [.int x3, .ref 79, .ref 107] 2 = some ([some (.ref 79), some (.int x3)], [.ref 107]) from rfl)) hq2 ?_
      obtain ⟨r7, hc6, h⟩ := bu_so h
      have hq5 : Q 1 sio tt cc d 35 0 [some (.int r4)] [] s (.inl (some (.int r7)), s) := dt35 (by omega) hl  hc6
      refine Q.callI (gC_st zm122 (show zM122.2.2.2.2.2[14]? = some (26, 3, .invokestatic 209, [0, 35, 1]) from rfl) zm35 (show aC 1 [.int r4, .ref 107] 1 = some ([some (.int r4)], [.ref 107]) from rfl)) hq5 ?_
      obtain ⟨s10, hc9, h⟩ := bu_so h
      have hq8 : Q 1 sio tt cc d 29 0 [some (.ref 107), some (.int r7)] [] s (.inl none, s10) := dt29 (by omega) hl (hl.Kd (a := 107) (c := 1) (n := 2) 29 rfl rfl (by decide)) hc9
      refine Q.callV (gC_vi zm122 (show zM122.2.2.2.2.2[15]? = some (29, 3, .invokevirtual 219, [0, 29, 1, 1]) from rfl) zm29 (hl.lt (a := 107) (by decide)) (hl.T (a := 107) (p := (1, 2)) 29 rfl rfl) rfl (show aCr 1 107 [.int r7, .ref 107] 2 = some ([some (.ref 107), some (.int r7)], []) from rfl)) hq8 ?_
      refine Q.run zm122 2 (i' := 5) (ls' := [some (.ref 106), some (.int x1), some (.int x2), some (.int (x3 + 1))]) (st' := []) rfl ?_
      exact ih hq8.1  h
def dm122 (x1 : Int32) (x2 : Int32) (s : aS) : Option (aS) :=
  bu (dm26 107 s) fun s3 =>
  dm122_5 5000 x2 x1 s3
set_option maxRecDepth 100000 in
theorem dt122 {sio : Bool} {tt : Nat} {cc : Nat → Nat → Int32} {d : Nat} (hd : 1 ≤ d) {x1 : Int32} {x2 : Int32} {s : aS} (hl : Ly tt cc s) {o : aS} (h : dm122  x1 x2 s = some o) : Q 1 sio tt cc d 122 0 [some (.ref 106), some (.int x1), some (.int x2), none] [] s (.inl none, o) := by
  unfold dm122 at h
  obtain ⟨d, rfl⟩ : ∃ e, d = e + 1 := ⟨d - 1, by omega⟩
  refine Q.run zm122 1 (i' := 1) (ls' := [some (.ref 106), some (.int x1), some (.int x2), none]) (st' := [.ref 106]) rfl ?_
  refine Q.map (A.gf (gI_of zm122 (e := (1, 3, .getfield 14, [4, 2])) rfl) (hl.lt (a := 106) (by decide)) (hl.T (a := 106) (p := (4, 13)) 28 rfl rfl) (by decide) (hl.R 10 rfl)) ?_
  obtain ⟨s3, hc2, h⟩ := bu_so h
  have hq1 : Q 1 sio tt cc d 26 0 [some (.ref 107)] [] s (.inl none, s3) := dt26 (by omega) hl (hl.Kd (a := 107) (c := 1) (n := 2) 29 rfl rfl (by decide)) hc2
  refine Q.callV (gC_vi zm122 (show zM122.2.2.2.2.2[2]? = some (4, 3, .invokevirtual 218, [0, 26, 0, 1]) from rfl) zm26 (hl.lt (a := 107) (by decide)) (hl.T (a := 107) (p := (1, 2)) 29 rfl rfl) rfl (show aCr 0 107 [.ref 107] 1 = some ([some (.ref 107)], []) from rfl)) hq1 ?_
  refine Q.run zm122 2 (i' := 5) (ls' := [some (.ref 106), some (.int x1), some (.int x2), some (.int x1)]) (st' := []) rfl ?_
  exact dt122_5 hd _ hq1.1  h
/-! 120 FormulaTrees$Reader.readNumber()V -/
set_option maxRecDepth 100000 in
theorem zm120 : zP[120]? = some zM120 := rfl
def dm120_78 (x1 : Int32) (x3 : Int32) (s : aS) : Option (aS) :=
  if x3 = 0 then
    nx (wI s 106 8 (sI s 106 7)) fun s2 =>
    some s2
  else
    bu (dm122 x1 (sI s 106 7) s) fun s7 =>
    bu (dm106 0 x1 s7) fun s10 =>
    some s10
set_option maxRecDepth 100000 in
theorem dt120_78 {sio : Bool} {tt : Nat} {cc : Nat → Nat → Int32} {d : Nat} (hd : 3 ≤ d) {x1 : Int32} {x3 : Int32} {x2 : Int32} {s : aS} (hl : Ly tt cc s) {o : aS} (h : dm120_78  x1 x3 s = some o) : Q 1 sio tt cc d 120 78 [some (.ref 106), some (.int x1), some (.int x2), some (.int x3)] [] s (.inl none, o) := by
  unfold dm120_78 at h
  obtain ⟨d, rfl⟩ : ∃ e, d = e + 1 := ⟨d - 1, by omega⟩
  refine Q.run zm120 1 (i' := 79) (ls' := [some (.ref 106), some (.int x1), some (.int x2), some (.int x3)]) (st' := [.int x3]) rfl ?_
  by_cases hc1 : x3 = 0
  · rw [if_pos hc1] at h
    refine Q.map (A.zT (gI_of zm120 (e := (153, 3, .ifCond .eq 21, [90])) rfl) (decide_eq_true hc1)) ?_
    refine Q.run zm120 2 (i' := 92) (ls' := [some (.ref 106), some (.int x1), some (.int x2), some (.int x3)]) (st' := [.ref 106, .ref 106]) rfl ?_
    refine Q.map (A.gf (gI_of zm120 (e := (176, 3, .getfield 61, [4, 7])) rfl) (hl.lt (a := 106) (by decide)) (hl.T (a := 106) (p := (4, 13)) 28 rfl rfl) (by decide) rfl) ?_
    obtain ⟨s2, hs3, h⟩ := nx_so h
    refine Q.pf hs3 rfl (gI_of zm120 (e := (179, 3, .putfield 65, [4, 8, 0])) rfl) (hl.lt (a := 106) (by decide)) (by decide) (hl.T (a := 106) (p := (4, 13)) 28 rfl rfl) (by decide) rfl rfl ?_
    have hl4 : Ly tt cc s2 := by rw [hs3]; exact hl.wId (by decide)
    cases h
    exact Q.ret (A.rv zm120 (show zM120.2.2.2.2.2[94]? = some (182, 1, .return_, []) from rfl) rfl) hl4
  · rw [if_neg hc1] at h
    refine Q.map (A.zF (gI_of zm120 (e := (153, 3, .ifCond .eq 21, [90])) rfl) (fun q => hc1 (of_decide_eq_true q))) ?_
    refine Q.run zm120 3 (i' := 83) (ls' := [some (.ref 106), some (.int x1), some (.int x2), some (.int x3)]) (st' := [.ref 106, .int x1, .ref 106]) rfl ?_
    refine Q.map (A.gf (gI_of zm120 (e := (159, 3, .getfield 61, [4, 7])) rfl) (hl.lt (a := 106) (by decide)) (hl.T (a := 106) (p := (4, 13)) 28 rfl rfl) (by decide) rfl) ?_
    obtain ⟨s7, hc6, h⟩ := bu_so h
    have hq5 : Q 1 sio tt cc d 122 0 [some (.ref 106), some (.int x1), some (.int (sI s 106 7)), none] [] s (.inl none, s7) := dt122 (by omega) hl  hc6
    refine Q.callV (gC_vi zm120 (show zM120.2.2.2.2.2[84]? = some (162, 3, .invokevirtual 212, [0, 122, 2, 4]) from rfl) zm122 (hl.lt (a := 106) (by decide)) (hl.T (a := 106) (p := (4, 13)) 28 rfl rfl) rfl (show aCr 2 106 [.int (sI s 106 7), .int x1, .ref 106] 4 = some ([some (.ref 106), some (.int x1), some (.int (sI s 106 7)), none], []) from rfl)) hq5 ?_
    refine Q.run zm120 3 (i' := 88) (ls' := [some (.ref 106), some (.int x1), some (.int x2), some (.int x3)]) (st' := [.int x1, .int 0, .ref 106]) rfl ?_
    obtain ⟨s10, hc9, h⟩ := bu_so h
    have hq8 : Q 1 sio tt cc d 106 0 [some (.ref 106), some (.int 0), some (.int x1), none] [] s7 (.inl none, s10) := dt106 (by omega) hq5.1  hc9
    refine Q.callV (gC_vi zm120 (show zM120.2.2.2.2.2[88]? = some (168, 3, .invokevirtual 215, [0, 106, 2, 4]) from rfl) zm106 (hq5.1.lt (a := 106) (by decide)) (hq5.1.T (a := 106) (p := (4, 13)) 28 rfl rfl) rfl (show aCr 2 106 [.int x1, .int 0, .ref 106] 4 = some ([some (.ref 106), some (.int 0), some (.int x1), none], []) from rfl)) hq8 ?_
    refine Q.run zm120 1 (i' := 94) (ls' := [some (.ref 106), some (.int x1), some (.int x2), some (.int x3)]) (st' := []) rfl ?_
    cases h
    exact Q.ret (A.rv zm120 (show zM120.2.2.2.2.2[94]? = some (182, 1, .return_, []) from rfl) rfl) hq8.1
def dm120_77 (x1 : Int32) (y0 : Int32) (s : aS) : Option (aS) :=
  dm120_78 x1 y0 s
set_option maxRecDepth 100000 in
theorem dt120_77 {sio : Bool} {tt : Nat} {cc : Nat → Nat → Int32} {d : Nat} (hd : 3 ≤ d) {x1 : Int32} {y0 : Int32} {x2 : Int32} {x3 : Int32} {s : aS} (hl : Ly tt cc s) {o : aS} (h : dm120_77  x1 y0 s = some o) : Q 1 sio tt cc d 120 77 [some (.ref 106), some (.int x1), some (.int x2), some (.int x3)] [.int y0] s (.inl none, o) := by
  unfold dm120_77 at h
  obtain ⟨d, rfl⟩ : ∃ e, d = e + 1 := ⟨d - 1, by omega⟩
  refine Q.run zm120 1 (i' := 78) (ls' := [some (.ref 106), some (.int x1), some (.int x2), some (.int y0)]) (st' := []) rfl ?_
  exact dt120_78 hd hl  h
def dm120_68 (x1 : Int32) (y1 : Int32) (y2 : Int32) (s : aS) : Option (aS) :=
  nx (wI s 106 7 (y1 + y2)) fun s1 =>
  bv (dm121 3 s1) fun r7 s6 =>
  if r7 ≤ 0 then
    dm120_77 x1 0 s6
  else
    dm120_77 x1 1 s6
set_option maxRecDepth 100000 in
theorem dt120_68 {sio : Bool} {tt : Nat} {cc : Nat → Nat → Int32} {d : Nat} (hd : 3 ≤ d) {x1 : Int32} {y1 : Int32} {y2 : Int32} {x2 : Int32} {x3 : Int32} {s : aS} (hl : Ly tt cc s) {o : aS} (h : dm120_68  x1 y1 y2 s = some o) : Q 1 sio tt cc d 120 68 [some (.ref 106), some (.int x1), some (.int x2), some (.int x3)] [.int y2, .int y1, .ref 106] s (.inl none, o) := by
  unfold dm120_68 at h
  obtain ⟨d, rfl⟩ : ∃ e, d = e + 1 := ⟨d - 1, by omega⟩
  refine Q.run zm120 1 (i' := 69) (ls' := [some (.ref 106), some (.int x1), some (.int x2), some (.int x3)]) (st' := [.int (y1 + y2), .ref 106]) rfl ?_
  obtain ⟨s1, hs2, h⟩ := nx_so h
  refine Q.pf hs2 rfl (gI_of zm120 (e := (135, 3, .putfield 61, [4, 7, 0])) rfl) (hl.lt (a := 106) (by decide)) (by decide) (hl.T (a := 106) (p := (4, 13)) 28 rfl rfl) (by decide) rfl rfl ?_
  have hl3 : Ly tt cc s1 := by rw [hs2]; exact hl.wId (by decide)
  refine Q.run zm120 2 (i' := 72) (ls' := [some (.ref 106), some (.int x1), some (.int x2), some (.int x3)]) (st' := [.int 3, .ref 106]) rfl ?_
  obtain ⟨r7, s6, hc5, h⟩ := bv_so h
  have hq4 : Q 1 sio tt cc d 121 0 [some (.ref 106), some (.int 3), none] [] s1 (.inl (some (.int r7)), s6) := dt121 (by omega) hl3  hc5
  refine Q.callI (gC_vi zm120 (show zM120.2.2.2.2.2[72]? = some (140, 3, .invokevirtual 206, [0, 121, 1, 4]) from rfl) zm121 (hl3.lt (a := 106) (by decide)) (hl3.T (a := 106) (p := (4, 13)) 28 rfl rfl) rfl (show aCr 1 106 [.int 3, .ref 106] 3 = some ([some (.ref 106), some (.int 3), none], []) from rfl)) hq4 ?_
  by_cases hc8 : r7 ≤ 0
  · rw [if_pos hc8] at h
    refine Q.map (A.zT (gI_of zm120 (e := (143, 3, .ifCond .le 7, [76])) rfl) (decide_eq_true hc8)) ?_
    refine Q.run zm120 1 (i' := 77) (ls' := [some (.ref 106), some (.int x1), some (.int x2), some (.int x3)]) (st' := [.int 0]) rfl ?_
    exact dt120_77 hd hq4.1  h
  · rw [if_neg hc8] at h
    refine Q.map (A.zF (gI_of zm120 (e := (143, 3, .ifCond .le 7, [76])) rfl) (fun q => hc8 (of_decide_eq_true q))) ?_
    refine Q.run zm120 2 (i' := 77) (ls' := [some (.ref 106), some (.int x1), some (.int x2), some (.int x3)]) (st' := [.int 1]) rfl ?_
    exact dt120_77 hd hq4.1  h
def dm120_65 (x1 : Int32) (y1 : Int32) (s : aS) : Option (aS) :=
  dm120_68 x1 y1 1 s
set_option maxRecDepth 100000 in
theorem dt120_65 {sio : Bool} {tt : Nat} {cc : Nat → Nat → Int32} {d : Nat} (hd : 3 ≤ d) {x1 : Int32} {y1 : Int32} {x2 : Int32} {x3 : Int32} {s : aS} (hl : Ly tt cc s) {o : aS} (h : dm120_65  x1 y1 s = some o) : Q 1 sio tt cc d 120 65 [some (.ref 106), some (.int x1), some (.int x2), some (.int x3)] [.int y1, .ref 106] s (.inl none, o) := by
  unfold dm120_65 at h
  obtain ⟨d, rfl⟩ : ∃ e, d = e + 1 := ⟨d - 1, by omega⟩
  refine Q.run zm120 2 (i' := 68) (ls' := [some (.ref 106), some (.int x1), some (.int x2), some (.int x3)]) (st' := [.int 1, .int y1, .ref 106]) rfl ?_
  exact dt120_68 hd hl  h
def dm120_31 (x1 : Int32) (y0 : Int32) (s : aS) : Option (aS) :=
  if y0 = 0 then
    dm120_78 x1 y0 s
  else
    bu (dm34 79 (sI s 106 7) s) fun r4 =>
    bu (dm35 r4) fun r7 =>
    if r7 = 69 then
      nx (wI s 106 7 ((sI s 106 7) + 1)) fun s9 =>
      bu (dm34 79 (sI s9 106 7) s9) fun r14 =>
      if r14 = 43 then
        dm120_65 x1 (sI s9 106 7) s9
      else
        bu (dm34 79 (sI s9 106 7) s9) fun r18 =>
        if r18 = 45 then
          dm120_65 x1 (sI s9 106 7) s9
        else
          dm120_68 x1 (sI s9 106 7) 0 s9
    else
      dm120_78 x1 y0 s
set_option maxRecDepth 100000 in
theorem dt120_31 {sio : Bool} {tt : Nat} {cc : Nat → Nat → Int32} {d : Nat} (hd : 3 ≤ d) {x1 : Int32} {y0 : Int32} {x2 : Int32} {s : aS} (hl : Ly tt cc s) {o : aS} (h : dm120_31  x1 y0 s = some o) : Q 1 sio tt cc d 120 31 [some (.ref 106), some (.int x1), some (.int x2), none] [.int y0] s (.inl none, o) := by
  unfold dm120_31 at h
  obtain ⟨d, rfl⟩ : ∃ e, d = e + 1 := ⟨d - 1, by omega⟩
  refine Q.run zm120 2 (i' := 33) (ls' := [some (.ref 106), some (.int x1), some (.int x2), some (.int y0)]) (st' := [.int y0]) rfl ?_
  by_cases hc1 : y0 = 0
  · rw [if_pos hc1] at h
    refine Q.map (A.zT (gI_of zm120 (e := (60, 3, .ifCond .eq 92, [78])) rfl) (decide_eq_true hc1)) ?_
    exact dt120_78 hd hl  h
  · rw [if_neg hc1] at h
    refine Q.map (A.zF (gI_of zm120 (e := (60, 3, .ifCond .eq 92, [78])) rfl) (fun q => hc1 (of_decide_eq_true q))) ?_
    refine Q.run zm120 1 (i' := 35) (ls' := [some (.ref 106), some (.int x1), some (.int x2), some (.int y0)]) (st' := [.ref 106]) rfl ?_
    refine Q.map (A.gf (gI_of zm120 (e := (64, 3, .getfield 41, [4, 0])) rfl) (hl.lt (a := 106) (by decide)) (hl.T (a := 106) (p := (4, 13)) 28 rfl rfl) (by decide) (hl.R 8 rfl)) ?_
    refine Q.run zm120 1 (i' := 37) (ls' := [some (.ref 106), some (.int x1), some (.int x2), some (.int y0)]) (st' := [.ref 106, .ref 79]) rfl ?_
    refine Q.map (A.gf (gI_of zm120 (e := (68, 3, .getfield 61, [4, 7])) rfl) (hl.lt (a := 106) (by decide)) (hl.T (a := 106) (p := (4, 13)) 28 rfl rfl) (by decide) rfl) ?_
    obtain ⟨r4, hc3, h⟩ := bu_so h
    have hq2 : Q 1 sio tt cc d 34 0 [some (.ref 79), some (.int (sI s 106 7))] [] s (.inl (some (.int r4)), s) := dt34 (by omega) hl (hl.Kd (a := 79) (c := 1) (n := 2) 1 rfl rfl (by decide)) hc3
    refine Q.callI (gC_vi zm120 (show zM120.2.2.2.2.2[38]? = some (71, 3, .invokevirtual 78, [0, 34, 1, 1]) from rfl) zm34 (hl.lt (a := 79) (by decide)) (hl.T (a := 79) (p := (1, 2)) 1 rfl rfl) rfl (show aCr 1 79 [.int (sI s 106 7), .ref 79] 2 = some ([some (.ref 79), some (.int (sI s 106 7))], []) from rfl)) hq2 ?_
    obtain ⟨r7, hc6, h⟩ := bu_so h
    have hq5 : Q 1 sio tt cc d 35 0 [some (.int r4)] [] s (.inl (some (.int r7)), s) := dt35 (by omega) hl  hc6
    refine Q.callI (gC_st zm120 (show zM120.2.2.2.2.2[39]? = some (74, 3, .invokestatic 209, [0, 35, 1]) from rfl) zm35 (show aC 1 [.int r4] 1 = some ([some (.int r4)], []) from rfl)) hq5 ?_
    refine Q.run zm120 1 (i' := 41) (ls' := [some (.ref 106), some (.int x1), some (.int x2), some (.int y0)]) (st' := [.int 69, .int r7]) rfl ?_
    by_cases hc8 : r7 = 69
    · rw [if_pos hc8] at h
      refine Q.map (A.bF (gI_of zm120 (e := (79, 3, .if_icmp .ne 73, [78])) rfl) (fun q => of_decide_eq_true q hc8)) ?_
      refine Q.run zm120 2 (i' := 44) (ls' := [some (.ref 106), some (.int x1), some (.int x2), some (.int y0)]) (st' := [.ref 106, .ref 106]) rfl ?_
      refine Q.map (A.gf (gI_of zm120 (e := (84, 3, .getfield 61, [4, 7])) rfl) (hl.lt (a := 106) (by decide)) (hl.T (a := 106) (p := (4, 13)) 28 rfl rfl) (by decide) rfl) ?_
      refine Q.run zm120 2 (i' := 47) (ls' := [some (.ref 106), some (.int x1), some (.int x2), some (.int y0)]) (st' := [.int ((sI s 106 7) + 1), .ref 106]) rfl ?_
      obtain ⟨s9, hs10, h⟩ := nx_so h
      refine Q.pf hs10 rfl (gI_of zm120 (e := (89, 3, .putfield 61, [4, 7, 0])) rfl) (hl.lt (a := 106) (by decide)) (by decide) (hl.T (a := 106) (p := (4, 13)) 28 rfl rfl) (by decide) rfl rfl ?_
      have hl11 : Ly tt cc s9 := by rw [hs10]; exact hl.wId (by decide)
      refine Q.run zm120 2 (i' := 50) (ls' := [some (.ref 106), some (.int x1), some (.int x2), some (.int y0)]) (st' := [.ref 106, .ref 106]) rfl ?_
      refine Q.map (A.gf (gI_of zm120 (e := (94, 3, .getfield 61, [4, 7])) rfl) (hl11.lt (a := 106) (by decide)) (hl11.T (a := 106) (p := (4, 13)) 28 rfl rfl) (by decide) rfl) ?_
      refine Q.run zm120 1 (i' := 52) (ls' := [some (.ref 106), some (.int x1), some (.int x2), some (.int y0)]) (st' := [.ref 106, .int (sI s9 106 7), .ref 106]) rfl ?_
      refine Q.map (A.gf (gI_of zm120 (e := (98, 3, .getfield 41, [4, 0])) rfl) (hl11.lt (a := 106) (by decide)) (hl11.T (a := 106) (p := (4, 13)) 28 rfl rfl) (by decide) (hl11.R 8 rfl)) ?_
      refine Q.run zm120 1 (i' := 54) (ls' := [some (.ref 106), some (.int x1), some (.int x2), some (.int y0)]) (st' := [.ref 106, .ref 79, .int (sI s9 106 7), .ref 106]) rfl ?_
      refine Q.map (A.gf (gI_of zm120 (e := (102, 3, .getfield 61, [4, 7])) rfl) (hl11.lt (a := 106) (by decide)) (hl11.T (a := 106) (p := (4, 13)) 28 rfl rfl) (by decide) rfl) ?_
      obtain ⟨r14, hc13, h⟩ := bu_so h
      have hq12 : Q 1 sio tt cc d 34 0 [some (.ref 79), some (.int (sI s9 106 7))] [] s9 (.inl (some (.int r14)), s9) := dt34 (by omega) hl11 (hl11.Kd (a := 79) (c := 1) (n := 2) 1 rfl rfl (by decide)) hc13
      refine Q.callI (gC_vi zm120 (show zM120.2.2.2.2.2[55]? = some (105, 3, .invokevirtual 78, [0, 34, 1, 1]) from rfl) zm34 (hl11.lt (a := 79) (by decide)) (hl11.T (a := 79) (p := (1, 2)) 1 rfl rfl) rfl (show aCr 1 79 [.int (sI s9 106 7), .ref 79, .int (sI s9 106 7), .ref 106] 2 = some ([some (.ref 79), some (.int (sI s9 106 7))], [.int (sI s9 106 7), .ref 106]) from rfl)) hq12 ?_
      refine Q.run zm120 1 (i' := 57) (ls' := [some (.ref 106), some (.int x1), some (.int x2), some (.int y0)]) (st' := [.int 43, .int r14, .int (sI s9 106 7), .ref 106]) rfl ?_
      by_cases hc15 : r14 = 43
      · rw [if_pos hc15] at h
        refine Q.map (A.bT (gI_of zm120 (e := (110, 3, .if_icmp .eq 19, [65])) rfl) (decide_eq_true hc15)) ?_
        exact dt120_65 hd hl11  h
      · rw [if_neg hc15] at h
        refine Q.map (A.bF (gI_of zm120 (e := (110, 3, .if_icmp .eq 19, [65])) rfl) (fun q => hc15 (of_decide_eq_true q))) ?_
        refine Q.run zm120 1 (i' := 59) (ls' := [some (.ref 106), some (.int x1), some (.int x2), some (.int y0)]) (st' := [.ref 106, .int (sI s9 106 7), .ref 106]) rfl ?_
        refine Q.map (A.gf (gI_of zm120 (e := (114, 3, .getfield 41, [4, 0])) rfl) (hl11.lt (a := 106) (by decide)) (hl11.T (a := 106) (p := (4, 13)) 28 rfl rfl) (by decide) (hl11.R 8 rfl)) ?_
        refine Q.run zm120 1 (i' := 61) (ls' := [some (.ref 106), some (.int x1), some (.int x2), some (.int y0)]) (st' := [.ref 106, .ref 79, .int (sI s9 106 7), .ref 106]) rfl ?_
        refine Q.map (A.gf (gI_of zm120 (e := (118, 3, .getfield 61, [4, 7])) rfl) (hl11.lt (a := 106) (by decide)) (hl11.T (a := 106) (p := (4, 13)) 28 rfl rfl) (by decide) rfl) ?_
        obtain ⟨r18, hc17, h⟩ := bu_so h
        have hq16 : Q 1 sio tt cc d 34 0 [some (.ref 79), some (.int (sI s9 106 7))] [] s9 (.inl (some (.int r18)), s9) := dt34 (by omega) hl11 (hl11.Kd (a := 79) (c := 1) (n := 2) 1 rfl rfl (by decide)) hc17
        refine Q.callI (gC_vi zm120 (show zM120.2.2.2.2.2[62]? = some (121, 3, .invokevirtual 78, [0, 34, 1, 1]) from rfl) zm34 (hl11.lt (a := 79) (by decide)) (hl11.T (a := 79) (p := (1, 2)) 1 rfl rfl) rfl (show aCr 1 79 [.int (sI s9 106 7), .ref 79, .int (sI s9 106 7), .ref 106] 2 = some ([some (.ref 79), some (.int (sI s9 106 7))], [.int (sI s9 106 7), .ref 106]) from rfl)) hq16 ?_
        refine Q.run zm120 1 (i' := 64) (ls' := [some (.ref 106), some (.int x1), some (.int x2), some (.int y0)]) (st' := [.int 45, .int r18, .int (sI s9 106 7), .ref 106]) rfl ?_
        by_cases hc19 : r18 = 45
        · rw [if_pos hc19] at h
          refine Q.map (A.bF (gI_of zm120 (e := (126, 3, .if_icmp .ne 7, [67])) rfl) (fun q => of_decide_eq_true q hc19)) ?_
          exact dt120_65 hd hl11  h
        · rw [if_neg hc19] at h
          refine Q.map (A.bT (gI_of zm120 (e := (126, 3, .if_icmp .ne 7, [67])) rfl) (decide_eq_true hc19)) ?_
          refine Q.run zm120 1 (i' := 68) (ls' := [some (.ref 106), some (.int x1), some (.int x2), some (.int y0)]) (st' := [.int 0, .int (sI s9 106 7), .ref 106]) rfl ?_
          exact dt120_68 hd hl11  h
    · rw [if_neg hc8] at h
      refine Q.map (A.bT (gI_of zm120 (e := (79, 3, .if_icmp .ne 73, [78])) rfl) (decide_eq_true hc8)) ?_
      exact dt120_78 hd hl  h
def dm120_26 (x1 : Int32) (x2 : Int32) (s : aS) : Option (aS) :=
  if x2 ≤ 0 then
    dm120_31 x1 0 s
  else
    dm120_31 x1 1 s
set_option maxRecDepth 100000 in
theorem dt120_26 {sio : Bool} {tt : Nat} {cc : Nat → Nat → Int32} {d : Nat} (hd : 3 ≤ d) {x1 : Int32} {x2 : Int32} {s : aS} (hl : Ly tt cc s) {o : aS} (h : dm120_26  x1 x2 s = some o) : Q 1 sio tt cc d 120 26 [some (.ref 106), some (.int x1), some (.int x2), none] [] s (.inl none, o) := by
  unfold dm120_26 at h
  obtain ⟨d, rfl⟩ : ∃ e, d = e + 1 := ⟨d - 1, by omega⟩
  refine Q.run zm120 1 (i' := 27) (ls' := [some (.ref 106), some (.int x1), some (.int x2), none]) (st' := [.int x2]) rfl ?_
  by_cases hc1 : x2 ≤ 0
  · rw [if_pos hc1] at h
    refine Q.map (A.zT (gI_of zm120 (e := (50, 3, .ifCond .le 7, [30])) rfl) (decide_eq_true hc1)) ?_
    refine Q.run zm120 1 (i' := 31) (ls' := [some (.ref 106), some (.int x1), some (.int x2), none]) (st' := [.int 0]) rfl ?_
    exact dt120_31 hd hl  h
  · rw [if_neg hc1] at h
    refine Q.map (A.zF (gI_of zm120 (e := (50, 3, .ifCond .le 7, [30])) rfl) (fun q => hc1 (of_decide_eq_true q))) ?_
    refine Q.run zm120 2 (i' := 31) (ls' := [some (.ref 106), some (.int x1), some (.int x2), none]) (st' := [.int 1]) rfl ?_
    exact dt120_31 hd hl  h
def dm120 (s : aS) : Option (aS) :=
  bv (dm121 256 s) fun r4 s3 =>
  bu (dm34 79 (sI s3 106 7) s3) fun r7 =>
  if r7 = 46 then
    nx (wI s3 106 7 ((sI s3 106 7) + 1)) fun s9 =>
    bv (dm121 256 s9) fun r15 s14 =>
    dm120_26 (sI s 106 7) (r4 + r15) s14
  else
    dm120_26 (sI s 106 7) r4 s3
set_option maxRecDepth 100000 in
theorem dt120 {sio : Bool} {tt : Nat} {cc : Nat → Nat → Int32} {d : Nat} (hd : 3 ≤ d) {s : aS} (hl : Ly tt cc s) {o : aS} (h : dm120  s = some o) : Q 1 sio tt cc d 120 0 [some (.ref 106), none, none, none] [] s (.inl none, o) := by
  unfold dm120 at h
  obtain ⟨d, rfl⟩ : ∃ e, d = e + 1 := ⟨d - 1, by omega⟩
  refine Q.run zm120 1 (i' := 1) (ls' := [some (.ref 106), none, none, none]) (st' := [.ref 106]) rfl ?_
  refine Q.map (A.gf (gI_of zm120 (e := (1, 3, .getfield 61, [4, 7])) rfl) (hl.lt (a := 106) (by decide)) (hl.T (a := 106) (p := (4, 13)) 28 rfl rfl) (by decide) rfl) ?_
  refine Q.run zm120 3 (i' := 5) (ls' := [some (.ref 106), some (.int (sI s 106 7)), none, none]) (st' := [.int 256, .ref 106]) rfl ?_
  obtain ⟨r4, s3, hc2, h⟩ := bv_so h
  have hq1 : Q 1 sio tt cc d 121 0 [some (.ref 106), some (.int 256), none] [] s (.inl (some (.int r4)), s3) := dt121 (by omega) hl  hc2
  refine Q.callI (gC_vi zm120 (show zM120.2.2.2.2.2[5]? = some (9, 3, .invokevirtual 206, [0, 121, 1, 4]) from rfl) zm121 (hl.lt (a := 106) (by decide)) (hl.T (a := 106) (p := (4, 13)) 28 rfl rfl) rfl (show aCr 1 106 [.int 256, .ref 106] 3 = some ([some (.ref 106), some (.int 256), none], []) from rfl)) hq1 ?_
  refine Q.run zm120 2 (i' := 8) (ls' := [some (.ref 106), some (.int (sI s 106 7)), some (.int r4), none]) (st' := [.ref 106]) rfl ?_
  refine Q.map (A.gf (gI_of zm120 (e := (14, 3, .getfield 41, [4, 0])) rfl) (hq1.1.lt (a := 106) (by decide)) (hq1.1.T (a := 106) (p := (4, 13)) 28 rfl rfl) (by decide) (hq1.1.R 8 rfl)) ?_
  refine Q.run zm120 1 (i' := 10) (ls' := [some (.ref 106), some (.int (sI s 106 7)), some (.int r4), none]) (st' := [.ref 106, .ref 79]) rfl ?_
  refine Q.map (A.gf (gI_of zm120 (e := (18, 3, .getfield 61, [4, 7])) rfl) (hq1.1.lt (a := 106) (by decide)) (hq1.1.T (a := 106) (p := (4, 13)) 28 rfl rfl) (by decide) rfl) ?_
  obtain ⟨r7, hc6, h⟩ := bu_so h
  have hq5 : Q 1 sio tt cc d 34 0 [some (.ref 79), some (.int (sI s3 106 7))] [] s3 (.inl (some (.int r7)), s3) := dt34 (by omega) hq1.1 (hq1.1.Kd (a := 79) (c := 1) (n := 2) 1 rfl rfl (by decide)) hc6
  refine Q.callI (gC_vi zm120 (show zM120.2.2.2.2.2[11]? = some (21, 3, .invokevirtual 78, [0, 34, 1, 1]) from rfl) zm34 (hq1.1.lt (a := 79) (by decide)) (hq1.1.T (a := 79) (p := (1, 2)) 1 rfl rfl) rfl (show aCr 1 79 [.int (sI s3 106 7), .ref 79] 2 = some ([some (.ref 79), some (.int (sI s3 106 7))], []) from rfl)) hq5 ?_
  refine Q.run zm120 1 (i' := 13) (ls' := [some (.ref 106), some (.int (sI s 106 7)), some (.int r4), none]) (st' := [.int 46, .int r7]) rfl ?_
  by_cases hc8 : r7 = 46
  · rw [if_pos hc8] at h
    refine Q.map (A.bF (gI_of zm120 (e := (26, 3, .if_icmp .ne 23, [26])) rfl) (fun q => of_decide_eq_true q hc8)) ?_
    refine Q.run zm120 2 (i' := 16) (ls' := [some (.ref 106), some (.int (sI s 106 7)), some (.int r4), none]) (st' := [.ref 106, .ref 106]) rfl ?_
    refine Q.map (A.gf (gI_of zm120 (e := (31, 3, .getfield 61, [4, 7])) rfl) (hq1.1.lt (a := 106) (by decide)) (hq1.1.T (a := 106) (p := (4, 13)) 28 rfl rfl) (by decide) rfl) ?_
    refine Q.run zm120 2 (i' := 19) (ls' := [some (.ref 106), some (.int (sI s 106 7)), some (.int r4), none]) (st' := [.int ((sI s3 106 7) + 1), .ref 106]) rfl ?_
    obtain ⟨s9, hs10, h⟩ := nx_so h
    refine Q.pf hs10 rfl (gI_of zm120 (e := (36, 3, .putfield 61, [4, 7, 0])) rfl) (hq1.1.lt (a := 106) (by decide)) (by decide) (hq1.1.T (a := 106) (p := (4, 13)) 28 rfl rfl) (by decide) rfl rfl ?_
    have hl11 : Ly tt cc s9 := by rw [hs10]; exact hq1.1.wId (by decide)
    refine Q.run zm120 3 (i' := 23) (ls' := [some (.ref 106), some (.int (sI s 106 7)), some (.int r4), none]) (st' := [.int 256, .ref 106, .int r4]) rfl ?_
    obtain ⟨r15, s14, hc13, h⟩ := bv_so h
    have hq12 : Q 1 sio tt cc d 121 0 [some (.ref 106), some (.int 256), none] [] s9 (.inl (some (.int r15)), s14) := dt121 (by omega) hl11  hc13
    refine Q.callI (gC_vi zm120 (show zM120.2.2.2.2.2[23]? = some (44, 3, .invokevirtual 206, [0, 121, 1, 4]) from rfl) zm121 (hl11.lt (a := 106) (by decide)) (hl11.T (a := 106) (p := (4, 13)) 28 rfl rfl) rfl (show aCr 1 106 [.int 256, .ref 106, .int r4] 3 = some ([some (.ref 106), some (.int 256), none], [.int r4]) from rfl)) hq12 ?_
    refine Q.run zm120 2 (i' := 26) (ls' := [some (.ref 106), some (.int (sI s 106 7)), some (.int (r4 + r15)), none]) (st' := []) rfl ?_
    exact dt120_26 hd hq12.1  h
  · rw [if_neg hc8] at h
    refine Q.map (A.bT (gI_of zm120 (e := (26, 3, .if_icmp .ne 23, [26])) rfl) (decide_eq_true hc8)) ?_
    exact dt120_26 hd hq1.1  h
/-! 124 FormulaTrees$Reader.keepWord(IIZ)V -/
set_option maxRecDepth 100000 in
theorem zm124 : zP[124]? = some zM124 := rfl
def dm124_32 (x1 : Int32) (x3 : Int32) (y1 : Int32) (s : aS) : Option (aS) :=
  bu (dm106 y1 x1 s) fun s3 =>
  if x3 = 0 then
    some s3
  else
    if (sI s3 106 8) = (-1) then
      bu (dm115 (sI s3 106 10) 0 s3) fun s8 =>
      some s8
    else
      some s3
set_option maxRecDepth 100000 in
theorem dt124_32 {sio : Bool} {tt : Nat} {cc : Nat → Nat → Int32} {d : Nat} (hd : 6 ≤ d) {x1 : Int32} {x3 : Int32} {y1 : Int32} {x2 : Int32} {x4 : Int32} {s : aS} (hl : Ly tt cc s) {o : aS} (h : dm124_32  x1 x3 y1 s = some o) : Q 1 sio tt cc d 124 32 [some (.ref 106), some (.int x1), some (.int x2), some (.int x3), some (.int x4)] [.int y1, .ref 106] s (.inl none, o) := by
  unfold dm124_32 at h
  obtain ⟨d, rfl⟩ : ∃ e, d = e + 1 := ⟨d - 1, by omega⟩
  refine Q.run zm124 1 (i' := 33) (ls' := [some (.ref 106), some (.int x1), some (.int x2), some (.int x3), some (.int x4)]) (st' := [.int x1, .int y1, .ref 106]) rfl ?_
  obtain ⟨s3, hc2, h⟩ := bu_so h
  have hq1 : Q 1 sio tt cc d 106 0 [some (.ref 106), some (.int y1), some (.int x1), none] [] s (.inl none, s3) := dt106 (by omega) hl  hc2
  refine Q.callV (gC_vi zm124 (show zM124.2.2.2.2.2[33]? = some (58, 3, .invokevirtual 215, [0, 106, 2, 4]) from rfl) zm106 (hl.lt (a := 106) (by decide)) (hl.T (a := 106) (p := (4, 13)) 28 rfl rfl) rfl (show aCr 2 106 [.int x1, .int y1, .ref 106] 4 = some ([some (.ref 106), some (.int y1), some (.int x1), none], []) from rfl)) hq1 ?_
  refine Q.run zm124 1 (i' := 35) (ls' := [some (.ref 106), some (.int x1), some (.int x2), some (.int x3), some (.int x4)]) (st' := [.int x3]) rfl ?_
  by_cases hc4 : x3 = 0
  · rw [if_pos hc4] at h
    refine Q.map (A.zT (gI_of zm124 (e := (62, 3, .ifCond .eq 20, [45])) rfl) (decide_eq_true hc4)) ?_
    cases h
    exact Q.ret (A.rv zm124 (show zM124.2.2.2.2.2[45]? = some (82, 1, .return_, []) from rfl) rfl) hq1.1
  · rw [if_neg hc4] at h
    refine Q.map (A.zF (gI_of zm124 (e := (62, 3, .ifCond .eq 20, [45])) rfl) (fun q => hc4 (of_decide_eq_true q))) ?_
    refine Q.run zm124 1 (i' := 37) (ls' := [some (.ref 106), some (.int x1), some (.int x2), some (.int x3), some (.int x4)]) (st' := [.ref 106]) rfl ?_
    refine Q.map (A.gf (gI_of zm124 (e := (66, 3, .getfield 65, [4, 8])) rfl) (hq1.1.lt (a := 106) (by decide)) (hq1.1.T (a := 106) (p := (4, 13)) 28 rfl rfl) (by decide) rfl) ?_
    refine Q.run zm124 1 (i' := 39) (ls' := [some (.ref 106), some (.int x1), some (.int x2), some (.int x3), some (.int x4)]) (st' := [.int (-1), .int (sI s3 106 8)]) rfl ?_
    by_cases hc5 : (sI s3 106 8) = (-1)
    · rw [if_pos hc5] at h
      refine Q.map (A.bF (gI_of zm124 (e := (70, 3, .if_icmp .ne 12, [45])) rfl) (fun q => of_decide_eq_true q hc5)) ?_
      refine Q.run zm124 2 (i' := 42) (ls' := [some (.ref 106), some (.int x1), some (.int x2), some (.int x3), some (.int x4)]) (st' := [.ref 106, .ref 106]) rfl ?_
      refine Q.map (A.gf (gI_of zm124 (e := (75, 3, .getfield 100, [4, 10])) rfl) (hq1.1.lt (a := 106) (by decide)) (hq1.1.T (a := 106) (p := (4, 13)) 28 rfl rfl) (by decide) rfl) ?_
      refine Q.run zm124 1 (i' := 44) (ls' := [some (.ref 106), some (.int x1), some (.int x2), some (.int x3), some (.int x4)]) (st' := [.int 0, .int (sI s3 106 10), .ref 106]) rfl ?_
      obtain ⟨s8, hc7, h⟩ := bu_so h
      have hq6 : Q 1 sio tt cc d 115 0 [some (.ref 106), some (.int (sI s3 106 10)), some (.int 0)] [] s3 (.inl none, s8) := dt115 (by omega) hq1.1  hc7
      refine Q.callV (gC_vi zm124 (show zM124.2.2.2.2.2[44]? = some (79, 3, .invokevirtual 119, [0, 115, 2, 4]) from rfl) zm115 (hq1.1.lt (a := 106) (by decide)) (hq1.1.T (a := 106) (p := (4, 13)) 28 rfl rfl) rfl (show aCr 2 106 [.int 0, .int (sI s3 106 10), .ref 106] 3 = some ([some (.ref 106), some (.int (sI s3 106 10)), some (.int 0)], []) from rfl)) hq6 ?_
      cases h
      exact Q.ret (A.rv zm124 (show zM124.2.2.2.2.2[45]? = some (82, 1, .return_, []) from rfl) rfl) hq6.1
    · rw [if_neg hc5] at h
      refine Q.map (A.bT (gI_of zm124 (e := (70, 3, .if_icmp .ne 12, [45])) rfl) (decide_eq_true hc5)) ?_
      cases h
      exact Q.ret (A.rv zm124 (show zM124.2.2.2.2.2[45]? = some (82, 1, .return_, []) from rfl) rfl) hq1.1
def dm124_9 (x1 : Int32) (x2 : Int32) (x3 : Int32) (y0 : Int32) (s : aS) : Option (aS) :=
  nx (wI s 106 7 x2) fun s1 =>
  if y0 = (-1) then
    bu (dm122 x1 x2 s1) fun s7 =>
    if x3 = 0 then
      dm124_32 x1 x3 6 s7
    else
      dm124_32 x1 x3 7 s7
  else
    bu (dm111 3 y0 x1 s1) fun s11 =>
    some s11
set_option maxRecDepth 100000 in
theorem dt124_9 {sio : Bool} {tt : Nat} {cc : Nat → Nat → Int32} {d : Nat} (hd : 6 ≤ d) {x1 : Int32} {x2 : Int32} {x3 : Int32} {y0 : Int32} {s : aS} (hl : Ly tt cc s) {o : aS} (h : dm124_9  x1 x2 x3 y0 s = some o) : Q 1 sio tt cc d 124 9 [some (.ref 106), some (.int x1), some (.int x2), some (.int x3), none] [.int y0] s (.inl none, o) := by
  unfold dm124_9 at h
  obtain ⟨d, rfl⟩ : ∃ e, d = e + 1 := ⟨d - 1, by omega⟩
  refine Q.run zm124 3 (i' := 12) (ls' := [some (.ref 106), some (.int x1), some (.int x2), some (.int x3), some (.int y0)]) (st' := [.int x2, .ref 106]) rfl ?_
  obtain ⟨s1, hs2, h⟩ := nx_so h
  refine Q.pf hs2 rfl (gI_of zm124 (e := (21, 3, .putfield 61, [4, 7, 0])) rfl) (hl.lt (a := 106) (by decide)) (by decide) (hl.T (a := 106) (p := (4, 13)) 28 rfl rfl) (by decide) rfl rfl ?_
  have hl3 : Ly tt cc s1 := by rw [hs2]; exact hl.wId (by decide)
  refine Q.run zm124 2 (i' := 15) (ls' := [some (.ref 106), some (.int x1), some (.int x2), some (.int x3), some (.int y0)]) (st' := [.int (-1), .int y0]) rfl ?_
  by_cases hc4 : y0 = (-1)
  · rw [if_pos hc4] at h
    refine Q.map (A.bT (gI_of zm124 (e := (27, 3, .if_icmp .eq 12, [22])) rfl) (decide_eq_true hc4)) ?_
    refine Q.run zm124 3 (i' := 25) (ls' := [some (.ref 106), some (.int x1), some (.int x2), some (.int x3), some (.int y0)]) (st' := [.int x2, .int x1, .ref 106]) rfl ?_
    obtain ⟨s7, hc6, h⟩ := bu_so h
    have hq5 : Q 1 sio tt cc d 122 0 [some (.ref 106), some (.int x1), some (.int x2), none] [] s1 (.inl none, s7) := dt122 (by omega) hl3  hc6
    refine Q.callV (gC_vi zm124 (show zM124.2.2.2.2.2[25]? = some (42, 3, .invokevirtual 212, [0, 122, 2, 4]) from rfl) zm122 (hl3.lt (a := 106) (by decide)) (hl3.T (a := 106) (p := (4, 13)) 28 rfl rfl) rfl (show aCr 2 106 [.int x2, .int x1, .ref 106] 4 = some ([some (.ref 106), some (.int x1), some (.int x2), none], []) from rfl)) hq5 ?_
    refine Q.run zm124 2 (i' := 28) (ls' := [some (.ref 106), some (.int x1), some (.int x2), some (.int x3), some (.int y0)]) (st' := [.int x3, .ref 106]) rfl ?_
    by_cases hc8 : x3 = 0
    · rw [if_pos hc8] at h
      refine Q.map (A.zT (gI_of zm124 (e := (47, 3, .ifCond .eq 8, [31])) rfl) (decide_eq_true hc8)) ?_
      refine Q.run zm124 1 (i' := 32) (ls' := [some (.ref 106), some (.int x1), some (.int x2), some (.int x3), some (.int y0)]) (st' := [.int 6, .ref 106]) rfl ?_
      exact dt124_32 hd hq5.1  h
    · rw [if_neg hc8] at h
      refine Q.map (A.zF (gI_of zm124 (e := (47, 3, .ifCond .eq 8, [31])) rfl) (fun q => hc8 (of_decide_eq_true q))) ?_
      refine Q.run zm124 2 (i' := 32) (ls' := [some (.ref 106), some (.int x1), some (.int x2), some (.int x3), some (.int y0)]) (st' := [.int 7, .ref 106]) rfl ?_
      exact dt124_32 hd hq5.1  h
  · rw [if_neg hc4] at h
    refine Q.map (A.bF (gI_of zm124 (e := (27, 3, .if_icmp .eq 12, [22])) rfl) (fun q => hc4 (of_decide_eq_true q))) ?_
    refine Q.run zm124 4 (i' := 20) (ls' := [some (.ref 106), some (.int x1), some (.int x2), some (.int x3), some (.int y0)]) (st' := [.int x1, .int y0, .int 3, .ref 106]) rfl ?_
    obtain ⟨s11, hc10, h⟩ := bu_so h
    have hq9 : Q 1 sio tt cc d 111 0 [some (.ref 106), some (.int 3), some (.int y0), some (.int x1), none] [] s1 (.inl none, s11) := dt111 (by omega) hl3  hc10
    refine Q.callV (gC_vi zm124 (show zM124.2.2.2.2.2[20]? = some (35, 3, .invokevirtual 238, [0, 111, 3, 4]) from rfl) zm111 (hl3.lt (a := 106) (by decide)) (hl3.T (a := 106) (p := (4, 13)) 28 rfl rfl) rfl (show aCr 3 106 [.int x1, .int y0, .int 3, .ref 106] 5 = some ([some (.ref 106), some (.int 3), some (.int y0), some (.int x1), none], []) from rfl)) hq9 ?_
    cases h
    exact Q.ret (A.rv zm124 (show zM124.2.2.2.2.2[21]? = some (38, 1, .return_, []) from rfl) rfl) hq9.1
def dm124 (x1 : Int32) (x2 : Int32) (x3 : Int32) (s : aS) : Option (aS) :=
  if x3 = 0 then
    bv (dm48 79 x1 x2 s) fun r5 s4 =>
    dm124_9 x1 x2 x3 r5 s4
  else
    dm124_9 x1 x2 x3 (-1) s
set_option maxRecDepth 100000 in
theorem dt124 {sio : Bool} {tt : Nat} {cc : Nat → Nat → Int32} {d : Nat} (hd : 6 ≤ d) {x1 : Int32} {x2 : Int32} {x3 : Int32} {s : aS} (hl : Ly tt cc s) {o : aS} (h : dm124  x1 x2 x3 s = some o) : Q 1 sio tt cc d 124 0 [some (.ref 106), some (.int x1), some (.int x2), some (.int x3), none] [] s (.inl none, o) := by
  unfold dm124 at h
  obtain ⟨d, rfl⟩ : ∃ e, d = e + 1 := ⟨d - 1, by omega⟩
  refine Q.run zm124 1 (i' := 1) (ls' := [some (.ref 106), some (.int x1), some (.int x2), some (.int x3), none]) (st' := [.int x3]) rfl ?_
  by_cases hc1 : x3 = 0
  · rw [if_pos hc1] at h
    refine Q.map (A.zT (gI_of zm124 (e := (1, 3, .ifCond .eq 7, [4])) rfl) (decide_eq_true hc1)) ?_
    refine Q.run zm124 1 (i' := 5) (ls' := [some (.ref 106), some (.int x1), some (.int x2), some (.int x3), none]) (st' := [.ref 106]) rfl ?_
    refine Q.map (A.gf (gI_of zm124 (e := (9, 3, .getfield 41, [4, 0])) rfl) (hl.lt (a := 106) (by decide)) (hl.T (a := 106) (p := (4, 13)) 28 rfl rfl) (by decide) (hl.R 8 rfl)) ?_
    refine Q.run zm124 2 (i' := 8) (ls' := [some (.ref 106), some (.int x1), some (.int x2), some (.int x3), none]) (st' := [.int x2, .int x1, .ref 79]) rfl ?_
    obtain ⟨r5, s4, hc3, h⟩ := bv_so h
    have hq2 : Q 1 sio tt cc d 48 0 [some (.ref 79), some (.int x1), some (.int x2)] [] s (.inl (some (.int r5)), s4) := dt48 (by omega) hl (hl.Kd (a := 79) (c := 1) (n := 2) 1 rfl rfl (by decide)) hc3
    refine Q.callI (gC_vi zm124 (show zM124.2.2.2.2.2[8]? = some (14, 3, .invokevirtual 262, [0, 48, 2, 1]) from rfl) zm48 (hl.lt (a := 79) (by decide)) (hl.T (a := 79) (p := (1, 2)) 1 rfl rfl) rfl (show aCr 2 79 [.int x2, .int x1, .ref 79] 3 = some ([some (.ref 79), some (.int x1), some (.int x2)], []) from rfl)) hq2 ?_
    exact dt124_9 hd hq2.1  h
  · rw [if_neg hc1] at h
    refine Q.map (A.zF (gI_of zm124 (e := (1, 3, .ifCond .eq 7, [4])) rfl) (fun q => hc1 (of_decide_eq_true q))) ?_
    refine Q.run zm124 2 (i' := 9) (ls' := [some (.ref 106), some (.int x1), some (.int x2), some (.int x3), none]) (st' := [.int (-1)]) rfl ?_
    exact dt124_9 hd hl  h
end
section
/-! 123 FormulaTrees$Reader.readWord()V -/
set_option maxRecDepth 100000 in
theorem zm123 : zP[123]? = some zM123 := rfl
def dm123_70 (y1 : Int32) (y2 : Int32) (y3 : Int32) (s : aS) : Option (aS) :=
  bu (dm124 y1 y2 y3 s) fun s3 =>
  some s3
set_option maxRecDepth 100000 in
theorem dt123_70 {sio : Bool} {tt : Nat} {cc : Nat → Nat → Int32} {d : Nat} (hd : 7 ≤ d) {y1 : Int32} {y2 : Int32} {y3 : Int32} {x1 : Int32} {x2 : Int32} {x3 : Int32} {x4 : Int32} {s : aS} (hl : Ly tt cc s) {o : aS} (h : dm123_70  y1 y2 y3 s = some o) : Q 1 sio tt cc d 123 70 [some (.ref 106), some (.int x1), some (.int x2), some (.int x3), some (.int x4)] [.int y3, .int y2, .int y1, .ref 106] s (.inl none, o) := by
  unfold dm123_70 at h
  obtain ⟨d, rfl⟩ : ∃ e, d = e + 1 := ⟨d - 1, by omega⟩
  obtain ⟨s3, hc2, h⟩ := bu_so h
  have hq1 : Q 1 sio tt cc d 124 0 [some (.ref 106), some (.int y1), some (.int y2), some (.int y3), none] [] s (.inl none, s3) := dt124 (by omega) hl  hc2
  refine Q.callV (gC_vi zm123 (show zM123.2.2.2.2.2[70]? = some (134, 3, .invokevirtual 258, [0, 124, 3, 4]) from rfl) zm124 (hl.lt (a := 106) (by decide)) (hl.T (a := 106) (p := (4, 13)) 28 rfl rfl) rfl (show aCr 3 106 [.int y3, .int y2, .int y1, .ref 106] 5 = some ([some (.ref 106), some (.int y1), some (.int y2), some (.int y3), none], []) from rfl)) hq1 ?_
  cases h
  exact Q.ret (A.rv zm123 (show zM123.2.2.2.2.2[71]? = some (137, 1, .return_, []) from rfl) rfl) hq1.1
def dm123_61 (x1 : Int32) (x2 : Int32) (x3 : Int32) (s : aS) : Option (aS) :=
  if x3 = 40 then
    dm123_70 x1 x2 1 s
  else
    dm123_70 x1 x2 0 s
set_option maxRecDepth 100000 in
theorem dt123_61 {sio : Bool} {tt : Nat} {cc : Nat → Nat → Int32} {d : Nat} (hd : 7 ≤ d) {x1 : Int32} {x2 : Int32} {x3 : Int32} {x4 : Int32} {s : aS} (hl : Ly tt cc s) {o : aS} (h : dm123_61  x1 x2 x3 s = some o) : Q 1 sio tt cc d 123 61 [some (.ref 106), some (.int x1), some (.int x2), some (.int x3), some (.int x4)] [] s (.inl none, o) := by
  unfold dm123_61 at h
  obtain ⟨d, rfl⟩ : ∃ e, d = e + 1 := ⟨d - 1, by omega⟩
  refine Q.run zm123 5 (i' := 66) (ls' := [some (.ref 106), some (.int x1), some (.int x2), some (.int x3), some (.int x4)]) (st' := [.int 40, .int x3, .int x2, .int x1, .ref 106]) rfl ?_
  by_cases hc1 : x3 = 40
  · rw [if_pos hc1] at h
    refine Q.map (A.bF (gI_of zm123 (e := (126, 3, .if_icmp .ne 7, [69])) rfl) (fun q => of_decide_eq_true q hc1)) ?_
    refine Q.run zm123 2 (i' := 70) (ls' := [some (.ref 106), some (.int x1), some (.int x2), some (.int x3), some (.int x4)]) (st' := [.int 1, .int x2, .int x1, .ref 106]) rfl ?_
    exact dt123_70 hd hl  h
  · rw [if_neg hc1] at h
    refine Q.map (A.bT (gI_of zm123 (e := (126, 3, .if_icmp .ne 7, [69])) rfl) (decide_eq_true hc1)) ?_
    refine Q.run zm123 1 (i' := 70) (ls' := [some (.ref 106), some (.int x1), some (.int x2), some (.int x3), some (.int x4)]) (st' := [.int 0, .int x2, .int x1, .ref 106]) rfl ?_
    exact dt123_70 hd hl  h
def dm123_48 (x1 : Int32) (x2 : Int32) (x3 : Int32) (x4 : Int32) (s : aS) : Option (aS) :=
  if x4 = 0 then
    dm123_61 x1 x2 x3 s
  else
    bu (dm93 s) fun r4 =>
    if r4 ≤ x2 then
      dm123_61 x1 x2 x3 s
    else
      bu (dm93 s) fun r8 =>
      nx (wI s 106 8 r8) fun s9 =>
      some s9
set_option maxRecDepth 100000 in
theorem dt123_48 {sio : Bool} {tt : Nat} {cc : Nat → Nat → Int32} {d : Nat} (hd : 7 ≤ d) {x1 : Int32} {x2 : Int32} {x3 : Int32} {x4 : Int32} {s : aS} (hl : Ly tt cc s) {o : aS} (h : dm123_48  x1 x2 x3 x4 s = some o) : Q 1 sio tt cc d 123 48 [some (.ref 106), some (.int x1), some (.int x2), some (.int x3), some (.int x4)] [] s (.inl none, o) := by
  unfold dm123_48 at h
  obtain ⟨d, rfl⟩ : ∃ e, d = e + 1 := ⟨d - 1, by omega⟩
  refine Q.run zm123 1 (i' := 49) (ls' := [some (.ref 106), some (.int x1), some (.int x2), some (.int x3), some (.int x4)]) (st' := [.int x4]) rfl ?_
  by_cases hc1 : x4 = 0
  · rw [if_pos hc1] at h
    refine Q.map (A.zT (gI_of zm123 (e := (92, 3, .ifCond .eq 28, [61])) rfl) (decide_eq_true hc1)) ?_
    exact dt123_61 hd hl  h
  · rw [if_neg hc1] at h
    refine Q.map (A.zF (gI_of zm123 (e := (92, 3, .ifCond .eq 28, [61])) rfl) (fun q => hc1 (of_decide_eq_true q))) ?_
    refine Q.run zm123 1 (i' := 51) (ls' := [some (.ref 106), some (.int x1), some (.int x2), some (.int x3), some (.int x4)]) (st' := [.ref 106]) rfl ?_
    refine Q.map (A.gf (gI_of zm123 (e := (96, 3, .getfield 23, [4, 3])) rfl) (hl.lt (a := 106) (by decide)) (hl.T (a := 106) (p := (4, 13)) 28 rfl rfl) (by decide) (hl.R 11 rfl)) ?_
    obtain ⟨r4, hc3, h⟩ := bu_so h
    have hq2 : Q 1 sio tt cc d 93 0 [some (.ref 109)] [] s (.inl (some (.int r4)), s) := dt93 (by omega) hl  hc3
    refine Q.callI (gC_vi zm123 (show zM123.2.2.2.2.2[52]? = some (99, 3, .invokevirtual 255, [0, 93, 0, 5]) from rfl) zm93 (hl.lt (a := 109) (by decide)) (hl.T (a := 109) (p := (5, 4)) 31 rfl rfl) rfl (show aCr 0 109 [.ref 109] 1 = some ([some (.ref 109)], []) from rfl)) hq2 ?_
    refine Q.run zm123 1 (i' := 54) (ls' := [some (.ref 106), some (.int x1), some (.int x2), some (.int x3), some (.int x4)]) (st' := [.int x2, .int r4]) rfl ?_
    by_cases hc5 : r4 ≤ x2
    · rw [if_pos hc5] at h
      refine Q.map (A.bT (gI_of zm123 (e := (103, 3, .if_icmp .le 17, [61])) rfl) (decide_eq_true hc5)) ?_
      exact dt123_61 hd hl  h
    · rw [if_neg hc5] at h
      refine Q.map (A.bF (gI_of zm123 (e := (103, 3, .if_icmp .le 17, [61])) rfl) (fun q => hc5 (of_decide_eq_true q))) ?_
      refine Q.run zm123 2 (i' := 57) (ls' := [some (.ref 106), some (.int x1), some (.int x2), some (.int x3), some (.int x4)]) (st' := [.ref 106, .ref 106]) rfl ?_
      refine Q.map (A.gf (gI_of zm123 (e := (108, 3, .getfield 23, [4, 3])) rfl) (hl.lt (a := 106) (by decide)) (hl.T (a := 106) (p := (4, 13)) 28 rfl rfl) (by decide) (hl.R 11 rfl)) ?_
      obtain ⟨r8, hc7, h⟩ := bu_so h
      have hq6 : Q 1 sio tt cc d 93 0 [some (.ref 109)] [] s (.inl (some (.int r8)), s) := dt93 (by omega) hl  hc7
      refine Q.callI (gC_vi zm123 (show zM123.2.2.2.2.2[58]? = some (111, 3, .invokevirtual 255, [0, 93, 0, 5]) from rfl) zm93 (hl.lt (a := 109) (by decide)) (hl.T (a := 109) (p := (5, 4)) 31 rfl rfl) rfl (show aCr 0 109 [.ref 109, .ref 106] 1 = some ([some (.ref 109)], [.ref 106]) from rfl)) hq6 ?_
      obtain ⟨s9, hs10, h⟩ := nx_so h
      refine Q.pf hs10 rfl (gI_of zm123 (e := (114, 3, .putfield 65, [4, 8, 0])) rfl) (hl.lt (a := 106) (by decide)) (by decide) (hl.T (a := 106) (p := (4, 13)) 28 rfl rfl) (by decide) rfl rfl ?_
      have hl11 : Ly tt cc s9 := by rw [hs10]; exact hl.wId (by decide)
      refine Q.run zm123 1 (i' := 71) (ls' := [some (.ref 106), some (.int x1), some (.int x2), some (.int x3), some (.int x4)]) (st' := []) rfl ?_
      cases h
      exact Q.ret (A.rv zm123 (show zM123.2.2.2.2.2[71]? = some (137, 1, .return_, []) from rfl) rfl) hl11
def dm123_19 (x1 : Int32) (x2 : Int32) (x3 : Int32) (y0 : Int32) (s : aS) : Option (aS) :=
  if x3 = 33 then
    bu (dm122 x1 x2 s) fun s4 =>
    nx (wI s4 106 7 x2) fun s5 =>
    bu (dm114 x1 s5) fun s10 =>
    some s10
  else
    if y0 = 0 then
      dm123_48 x1 x2 x3 y0 s
    else
      bv (dm89 79 x1 s) fun r15 s14 =>
      if r15 = 0 then
        dm123_48 x1 x2 x3 y0 s14
      else
        bu (dm112 x1 (-1) s14) fun s19 =>
        some s19
set_option maxRecDepth 100000 in
theorem dt123_19 {sio : Bool} {tt : Nat} {cc : Nat → Nat → Int32} {d : Nat} (hd : 7 ≤ d) {x1 : Int32} {x2 : Int32} {x3 : Int32} {y0 : Int32} {s : aS} (hl : Ly tt cc s) {o : aS} (h : dm123_19  x1 x2 x3 y0 s = some o) : Q 1 sio tt cc d 123 19 [some (.ref 106), some (.int x1), some (.int x2), some (.int x3), none] [.int y0] s (.inl none, o) := by
  unfold dm123_19 at h
  obtain ⟨d, rfl⟩ : ∃ e, d = e + 1 := ⟨d - 1, by omega⟩
  refine Q.run zm123 3 (i' := 22) (ls' := [some (.ref 106), some (.int x1), some (.int x2), some (.int x3), some (.int y0)]) (st' := [.int 33, .int x3]) rfl ?_
  by_cases hc1 : x3 = 33
  · rw [if_pos hc1] at h
    refine Q.map (A.bF (gI_of zm123 (e := (39, 3, .if_icmp .ne 22, [34])) rfl) (fun q => of_decide_eq_true q hc1)) ?_
    refine Q.run zm123 3 (i' := 26) (ls' := [some (.ref 106), some (.int x1), some (.int x2), some (.int x3), some (.int y0)]) (st' := [.int x2, .int x1, .ref 106]) rfl ?_
    obtain ⟨s4, hc3, h⟩ := bu_so h
    have hq2 : Q 1 sio tt cc d 122 0 [some (.ref 106), some (.int x1), some (.int x2), none] [] s (.inl none, s4) := dt122 (by omega) hl  hc3
    refine Q.callV (gC_vi zm123 (show zM123.2.2.2.2.2[26]? = some (45, 3, .invokevirtual 212, [0, 122, 2, 4]) from rfl) zm122 (hl.lt (a := 106) (by decide)) (hl.T (a := 106) (p := (4, 13)) 28 rfl rfl) rfl (show aCr 2 106 [.int x2, .int x1, .ref 106] 4 = some ([some (.ref 106), some (.int x1), some (.int x2), none], []) from rfl)) hq2 ?_
    refine Q.run zm123 2 (i' := 29) (ls' := [some (.ref 106), some (.int x1), some (.int x2), some (.int x3), some (.int y0)]) (st' := [.int x2, .ref 106]) rfl ?_
    obtain ⟨s5, hs6, h⟩ := nx_so h
    refine Q.pf hs6 rfl (gI_of zm123 (e := (50, 3, .putfield 61, [4, 7, 0])) rfl) (hq2.1.lt (a := 106) (by decide)) (by decide) (hq2.1.T (a := 106) (p := (4, 13)) 28 rfl rfl) (by decide) rfl rfl ?_
    have hl7 : Ly tt cc s5 := by rw [hs6]; exact hq2.1.wId (by decide)
    refine Q.run zm123 2 (i' := 32) (ls' := [some (.ref 106), some (.int x1), some (.int x2), some (.int x3), some (.int y0)]) (st' := [.int x1, .ref 106]) rfl ?_
    obtain ⟨s10, hc9, h⟩ := bu_so h
    have hq8 : Q 1 sio tt cc d 114 0 [some (.ref 106), some (.int x1), none] [] s5 (.inl none, s10) := dt114 (by omega) hl7  hc9
    refine Q.callV (gC_vi zm123 (show zM123.2.2.2.2.2[32]? = some (55, 3, .invokevirtual 248, [0, 114, 1, 4]) from rfl) zm114 (hl7.lt (a := 106) (by decide)) (hl7.T (a := 106) (p := (4, 13)) 28 rfl rfl) rfl (show aCr 1 106 [.int x1, .ref 106] 3 = some ([some (.ref 106), some (.int x1), none], []) from rfl)) hq8 ?_
    refine Q.run zm123 1 (i' := 71) (ls' := [some (.ref 106), some (.int x1), some (.int x2), some (.int x3), some (.int y0)]) (st' := []) rfl ?_
    cases h
    exact Q.ret (A.rv zm123 (show zM123.2.2.2.2.2[71]? = some (137, 1, .return_, []) from rfl) rfl) hq8.1
  · rw [if_neg hc1] at h
    refine Q.map (A.bT (gI_of zm123 (e := (39, 3, .if_icmp .ne 22, [34])) rfl) (decide_eq_true hc1)) ?_
    refine Q.run zm123 1 (i' := 35) (ls' := [some (.ref 106), some (.int x1), some (.int x2), some (.int x3), some (.int y0)]) (st' := [.int y0]) rfl ?_
    by_cases hc11 : y0 = 0
    · rw [if_pos hc11] at h
      refine Q.map (A.zT (gI_of zm123 (e := (63, 3, .ifCond .eq 27, [48])) rfl) (decide_eq_true hc11)) ?_
      exact dt123_48 hd hl  h
    · rw [if_neg hc11] at h
      refine Q.map (A.zF (gI_of zm123 (e := (63, 3, .ifCond .eq 27, [48])) rfl) (fun q => hc11 (of_decide_eq_true q))) ?_
      refine Q.run zm123 1 (i' := 37) (ls' := [some (.ref 106), some (.int x1), some (.int x2), some (.int x3), some (.int y0)]) (st' := [.ref 106]) rfl ?_
      refine Q.map (A.gf (gI_of zm123 (e := (67, 3, .getfield 23, [4, 3])) rfl) (hl.lt (a := 106) (by decide)) (hl.T (a := 106) (p := (4, 13)) 28 rfl rfl) (by decide) (hl.R 11 rfl)) ?_
      refine Q.run zm123 1 (i' := 39) (ls' := [some (.ref 106), some (.int x1), some (.int x2), some (.int x3), some (.int y0)]) (st' := [.ref 106, .ref 109]) rfl ?_
      refine Q.map (A.gf (gI_of zm123 (e := (71, 3, .getfield 41, [4, 0])) rfl) (hl.lt (a := 106) (by decide)) (hl.T (a := 106) (p := (4, 13)) 28 rfl rfl) (by decide) (hl.R 8 rfl)) ?_
      refine Q.run zm123 1 (i' := 41) (ls' := [some (.ref 106), some (.int x1), some (.int x2), some (.int x3), some (.int y0)]) (st' := [.int x1, .ref 79, .ref 109]) rfl ?_
      obtain ⟨r15, s14, hc13, h⟩ := bv_so h
      have hq12 : Q 1 sio tt cc d 89 0 [some (.ref 109), some (.ref 79), some (.int x1)] [] s (.inl (some (.int r15)), s14) := dt89 (by omega) hl (hl.Kd (a := 79) (c := 1) (n := 2) 1 rfl rfl (by decide)) hc13
      refine Q.callI (gC_vi zm123 (show zM123.2.2.2.2.2[41]? = some (75, 3, .invokevirtual 251, [0, 89, 2, 5]) from rfl) zm89 (hl.lt (a := 109) (by decide)) (hl.T (a := 109) (p := (5, 4)) 31 rfl rfl) rfl (show aCr 2 109 [.int x1, .ref 79, .ref 109] 3 = some ([some (.ref 109), some (.ref 79), some (.int x1)], []) from rfl)) hq12 ?_
      by_cases hc16 : r15 = 0
      · rw [if_pos hc16] at h
        refine Q.map (A.zT (gI_of zm123 (e := (78, 3, .ifCond .eq 12, [48])) rfl) (decide_eq_true hc16)) ?_
        exact dt123_48 hd hq12.1  h
      · rw [if_neg hc16] at h
        refine Q.map (A.zF (gI_of zm123 (e := (78, 3, .ifCond .eq 12, [48])) rfl) (fun q => hc16 (of_decide_eq_true q))) ?_
        refine Q.run zm123 3 (i' := 46) (ls' := [some (.ref 106), some (.int x1), some (.int x2), some (.int x3), some (.int y0)]) (st' := [.int (-1), .int x1, .ref 106]) rfl ?_
        obtain ⟨s19, hc18, h⟩ := bu_so h
        have hq17 : Q 1 sio tt cc d 112 0 [some (.ref 106), some (.int x1), some (.int (-1))] [] s14 (.inl none, s19) := dt112 (by omega) hq12.1  hc18
        refine Q.callV (gC_vi zm123 (show zM123.2.2.2.2.2[46]? = some (84, 3, .invokevirtual 109, [0, 112, 2, 4]) from rfl) zm112 (hq12.1.lt (a := 106) (by decide)) (hq12.1.T (a := 106) (p := (4, 13)) 28 rfl rfl) rfl (show aCr 2 106 [.int (-1), .int x1, .ref 106] 3 = some ([some (.ref 106), some (.int x1), some (.int (-1))], []) from rfl)) hq17 ?_
        refine Q.run zm123 1 (i' := 71) (ls' := [some (.ref 106), some (.int x1), some (.int x2), some (.int x3), some (.int y0)]) (st' := []) rfl ?_
        cases h
        exact Q.ret (A.rv zm123 (show zM123.2.2.2.2.2[71]? = some (137, 1, .return_, []) from rfl) rfl) hq17.1
def dm123 (s : aS) : Option (aS) :=
  bu (dm43 79 (sI s 106 7) s) fun r3 =>
  bu (dm34 79 r3 s) fun r6 =>
  if r6 = 40 then
    dm123_19 (sI s 106 7) r3 r6 0 s
  else
    dm123_19 (sI s 106 7) r3 r6 1 s
set_option maxRecDepth 100000 in
theorem dt123 {sio : Bool} {tt : Nat} {cc : Nat → Nat → Int32} {d : Nat} (hd : 7 ≤ d) {s : aS} (hl : Ly tt cc s) {o : aS} (h : dm123  s = some o) : Q 1 sio tt cc d 123 0 [some (.ref 106), none, none, none, none] [] s (.inl none, o) := by
  unfold dm123 at h
  obtain ⟨d, rfl⟩ : ∃ e, d = e + 1 := ⟨d - 1, by omega⟩
  refine Q.run zm123 1 (i' := 1) (ls' := [some (.ref 106), none, none, none, none]) (st' := [.ref 106]) rfl ?_
  refine Q.map (A.gf (gI_of zm123 (e := (1, 3, .getfield 61, [4, 7])) rfl) (hl.lt (a := 106) (by decide)) (hl.T (a := 106) (p := (4, 13)) 28 rfl rfl) (by decide) rfl) ?_
  refine Q.run zm123 2 (i' := 4) (ls' := [some (.ref 106), some (.int (sI s 106 7)), none, none, none]) (st' := [.ref 106]) rfl ?_
  refine Q.map (A.gf (gI_of zm123 (e := (6, 3, .getfield 41, [4, 0])) rfl) (hl.lt (a := 106) (by decide)) (hl.T (a := 106) (p := (4, 13)) 28 rfl rfl) (by decide) (hl.R 8 rfl)) ?_
  refine Q.run zm123 1 (i' := 6) (ls' := [some (.ref 106), some (.int (sI s 106 7)), none, none, none]) (st' := [.int (sI s 106 7), .ref 79]) rfl ?_
  obtain ⟨r3, hc2, h⟩ := bu_so h
  have hq1 : Q 1 sio tt cc d 43 0 [some (.ref 79), some (.int (sI s 106 7)), none] [] s (.inl (some (.int r3)), s) := dt43 (by omega) hl (hl.Kd (a := 79) (c := 1) (n := 2) 1 rfl rfl (by decide)) hc2
  refine Q.callI (gC_vi zm123 (show zM123.2.2.2.2.2[6]? = some (10, 3, .invokevirtual 245, [0, 43, 1, 1]) from rfl) zm43 (hl.lt (a := 79) (by decide)) (hl.T (a := 79) (p := (1, 2)) 1 rfl rfl) rfl (show aCr 1 79 [.int (sI s 106 7), .ref 79] 3 = some ([some (.ref 79), some (.int (sI s 106 7)), none], []) from rfl)) hq1 ?_
  refine Q.run zm123 2 (i' := 9) (ls' := [some (.ref 106), some (.int (sI s 106 7)), some (.int r3), none, none]) (st' := [.ref 106]) rfl ?_
  refine Q.map (A.gf (gI_of zm123 (e := (15, 3, .getfield 41, [4, 0])) rfl) (hl.lt (a := 106) (by decide)) (hl.T (a := 106) (p := (4, 13)) 28 rfl rfl) (by decide) (hl.R 8 rfl)) ?_
  refine Q.run zm123 1 (i' := 11) (ls' := [some (.ref 106), some (.int (sI s 106 7)), some (.int r3), none, none]) (st' := [.int r3, .ref 79]) rfl ?_
  obtain ⟨r6, hc5, h⟩ := bu_so h
  have hq4 : Q 1 sio tt cc d 34 0 [some (.ref 79), some (.int r3)] [] s (.inl (some (.int r6)), s) := dt34 (by omega) hl (hl.Kd (a := 79) (c := 1) (n := 2) 1 rfl rfl (by decide)) hc5
  refine Q.callI (gC_vi zm123 (show zM123.2.2.2.2.2[11]? = some (19, 3, .invokevirtual 78, [0, 34, 1, 1]) from rfl) zm34 (hl.lt (a := 79) (by decide)) (hl.T (a := 79) (p := (1, 2)) 1 rfl rfl) rfl (show aCr 1 79 [.int r3, .ref 79] 2 = some ([some (.ref 79), some (.int r3)], []) from rfl)) hq4 ?_
  refine Q.run zm123 3 (i' := 15) (ls' := [some (.ref 106), some (.int (sI s 106 7)), some (.int r3), some (.int r6), none]) (st' := [.int 40, .int r6]) rfl ?_
  by_cases hc7 : r6 = 40
  · rw [if_pos hc7] at h
    refine Q.map (A.bT (gI_of zm123 (e := (26, 3, .if_icmp .eq 7, [18])) rfl) (decide_eq_true hc7)) ?_
    refine Q.run zm123 1 (i' := 19) (ls' := [some (.ref 106), some (.int (sI s 106 7)), some (.int r3), some (.int r6), none]) (st' := [.int 0]) rfl ?_
    exact dt123_19 hd hl  h
  · rw [if_neg hc7] at h
    refine Q.map (A.bF (gI_of zm123 (e := (26, 3, .if_icmp .eq 7, [18])) rfl) (fun q => hc7 (of_decide_eq_true q))) ?_
    refine Q.run zm123 2 (i' := 19) (ls' := [some (.ref 106), some (.int (sI s 106 7)), some (.int r3), some (.int r6), none]) (st' := [.int 1]) rfl ?_
    exact dt123_19 hd hl  h
/-! 103 FormulaTrees$Reader.readOperand(I)V -/
set_option maxRecDepth 100000 in
theorem zm103 : zP[103]? = some zM103 := rfl
def dm103_52 (s : aS) : Option (aS) :=
  bu (dm120 s) fun s3 =>
  some s3
set_option maxRecDepth 100000 in
theorem dt103_52 {sio : Bool} {tt : Nat} {cc : Nat → Nat → Int32} {d : Nat} (hd : 8 ≤ d) {x1 : Int32} {s : aS} (hl : Ly tt cc s) {o : aS} (h : dm103_52  s = some o) : Q 1 sio tt cc d 103 52 [some (.ref 106), some (.int x1)] [] s (.inl none, o) := by
  unfold dm103_52 at h
  obtain ⟨d, rfl⟩ : ∃ e, d = e + 1 := ⟨d - 1, by omega⟩
  refine Q.run zm103 1 (i' := 53) (ls' := [some (.ref 106), some (.int x1)]) (st' := [.ref 106]) rfl ?_
  obtain ⟨s3, hc2, h⟩ := bu_so h
  have hq1 : Q 1 sio tt cc d 120 0 [some (.ref 106), none, none, none] [] s (.inl none, s3) := dt120 (by omega) hl  hc2
  refine Q.callV (gC_vi zm103 (show zM103.2.2.2.2.2[53]? = some (169, 3, .invokevirtual 135, [0, 120, 0, 4]) from rfl) zm120 (hl.lt (a := 106) (by decide)) (hl.T (a := 106) (p := (4, 13)) 28 rfl rfl) rfl (show aCr 0 106 [.ref 106] 4 = some ([some (.ref 106), none, none, none], []) from rfl)) hq1 ?_
  refine Q.run zm103 1 (i' := 65) (ls' := [some (.ref 106), some (.int x1)]) (st' := []) rfl ?_
  cases h
  exact Q.ret (A.rv zm103 (show zM103.2.2.2.2.2[65]? = some (197, 1, .return_, []) from rfl) rfl) hq1.1
def dm103_44 (y1 : Int32) (s : aS) : Option (aS) :=
  bu (dm119 y1 s) fun s3 =>
  some s3
set_option maxRecDepth 100000 in
theorem dt103_44 {sio : Bool} {tt : Nat} {cc : Nat → Nat → Int32} {d : Nat} (hd : 8 ≤ d) {y1 : Int32} {x1 : Int32} {s : aS} (hl : Ly tt cc s) {o : aS} (h : dm103_44  y1 s = some o) : Q 1 sio tt cc d 103 44 [some (.ref 106), some (.int x1)] [.int y1, .ref 106] s (.inl none, o) := by
  unfold dm103_44 at h
  obtain ⟨d, rfl⟩ : ∃ e, d = e + 1 := ⟨d - 1, by omega⟩
  obtain ⟨s3, hc2, h⟩ := bu_so h
  have hq1 : Q 1 sio tt cc d 119 0 [some (.ref 106), some (.int y1)] [] s (.inl none, s3) := dt119 (by omega) hl  hc2
  refine Q.callV (gC_vi zm103 (show zM103.2.2.2.2.2[44]? = some (149, 3, .invokevirtual 125, [0, 119, 1, 4]) from rfl) zm119 (hl.lt (a := 106) (by decide)) (hl.T (a := 106) (p := (4, 13)) 28 rfl rfl) rfl (show aCr 1 106 [.int y1, .ref 106] 2 = some ([some (.ref 106), some (.int y1)], []) from rfl)) hq1 ?_
  refine Q.run zm103 1 (i' := 65) (ls' := [some (.ref 106), some (.int x1)]) (st' := []) rfl ?_
  cases h
  exact Q.ret (A.rv zm103 (show zM103.2.2.2.2.2[65]? = some (197, 1, .return_, []) from rfl) rfl) hq1.1
def dm103 (x1 : Int32) (s : aS) : Option (aS) :=
  if x1 = 34 then
    bu (dm104 s) fun s4 =>
    some s4
  else
    if x1 = 35 then
      bu (dm108 s) fun s8 =>
      some s8
    else
      if x1 = 36 then
        bu (dm112 (sI s 106 7) (-1) s) fun s12 =>
        some s12
      else
        if x1 = 37 then
          bu (dm47 x1) fun r16 =>
          if r16 = 0 then
            if x1 = 46 then
              dm103_52 s
            else
              bu (dm44 x1) fun r21 =>
              if r21 = 0 then
                nx (wI s 106 8 (sI s 106 7)) fun s23 =>
                some s23
              else
                bu (dm123 s) fun s28 =>
                some s28
          else
            dm103_52 s
        else
          if x1 = 38 then
            bu (dm47 x1) fun r32 =>
            if r32 = 0 then
              if x1 = 46 then
                dm103_52 s
              else
                bu (dm44 x1) fun r37 =>
                if r37 = 0 then
                  nx (wI s 106 8 (sI s 106 7)) fun s39 =>
                  some s39
                else
                  bu (dm123 s) fun s44 =>
                  some s44
            else
              dm103_52 s
          else
            if x1 = 39 then
              bu (dm113 s) fun s48 =>
              some s48
            else
              if x1 = 40 then
                vN (sR s 106 6) (
                  none
                ) fun b51 =>
                  if aK s b51 3 then
                    bu (dm94 b51 s) fun r55 =>
                    bu (dm115 r55 (-1) s) fun s58 =>
                    some s58
                  else none
              else
                if x1 = 41 then
                  if x1 = 41 then
                    dm103_44 1 s
                  else
                    dm103_44 0 s
                else
                  if x1 = 42 then
                    bu (dm47 x1) fun r65 =>
                    if r65 = 0 then
                      if x1 = 46 then
                        dm103_52 s
                      else
                        bu (dm44 x1) fun r70 =>
                        if r70 = 0 then
                          nx (wI s 106 8 (sI s 106 7)) fun s72 =>
                          some s72
                        else
                          bu (dm123 s) fun s77 =>
                          some s77
                    else
                      dm103_52 s
                  else
                    if x1 = 43 then
                      nx (wI s 106 7 ((sI s 106 7) + 1)) fun s79 =>
                      nx (wI s79 106 9 1) fun s82 =>
                      some s82
                    else
                      if x1 = 44 then
                        if x1 = 41 then
                          dm103_44 1 s
                        else
                          dm103_44 0 s
                      else
                        if x1 = 45 then
                          bu (dm118 s) fun s90 =>
                          some s90
                        else
                          bu (dm47 x1) fun r93 =>
                          if r93 = 0 then
                            if x1 = 46 then
                              dm103_52 s
                            else
                              bu (dm44 x1) fun r98 =>
                              if r98 = 0 then
                                nx (wI s 106 8 (sI s 106 7)) fun s100 =>
                                some s100
                              else
                                bu (dm123 s) fun s105 =>
                                some s105
                          else
                            dm103_52 s
set_option maxRecDepth 100000 in
theorem dt103 {sio : Bool} {tt : Nat} {cc : Nat → Nat → Int32} {d : Nat} (hd : 8 ≤ d) {x1 : Int32} {s : aS} (hl : Ly tt cc s) {o : aS} (h : dm103  x1 s = some o) : Q 1 sio tt cc d 103 0 [some (.ref 106), some (.int x1)] [] s (.inl none, o) := by
  unfold dm103 at h
  obtain ⟨d, rfl⟩ : ∃ e, d = e + 1 := ⟨d - 1, by omega⟩
  refine Q.run zm103 1 (i' := 1) (ls' := [some (.ref 106), some (.int x1)]) (st' := [.int x1]) rfl ?_
  by_cases hc1 : x1 = 34
  · rw [if_pos hc1] at h
    refine Q.map (A.ts (gI_of zm103 (e := (1, 63, .tableswitch 154 34 45 #[63, 70, 77, 154, 154, 89, 96, 136, 154, 111, 136, 129], [46, 2, 5, 8, 46, 46, 14, 17, 37, 46, 24, 37, 34])) rfl) (t := 2) (by rw [hc1] <;> decide)) ?_
    refine Q.run zm103 1 (i' := 3) (ls' := [some (.ref 106), some (.int x1)]) (st' := [.ref 106]) rfl ?_
    obtain ⟨s4, hc3, h⟩ := bu_so h
    have hq2 : Q 1 sio tt cc d 104 0 [some (.ref 106), none] [] s (.inl none, s4) := dt104 (by omega) hl  hc3
    refine Q.callV (gC_vi zm103 (show zM103.2.2.2.2.2[3]? = some (65, 3, .invokevirtual 103, [0, 104, 0, 4]) from rfl) zm104 (hl.lt (a := 106) (by decide)) (hl.T (a := 106) (p := (4, 13)) 28 rfl rfl) rfl (show aCr 0 106 [.ref 106] 2 = some ([some (.ref 106), none], []) from rfl)) hq2 ?_
    refine Q.run zm103 1 (i' := 65) (ls' := [some (.ref 106), some (.int x1)]) (st' := []) rfl ?_
    cases h
    exact Q.ret (A.rv zm103 (show zM103.2.2.2.2.2[65]? = some (197, 1, .return_, []) from rfl) rfl) hq2.1
  · rw [if_neg hc1] at h
    by_cases hc5 : x1 = 35
    · rw [if_pos hc5] at h
      refine Q.map (A.ts (gI_of zm103 (e := (1, 63, .tableswitch 154 34 45 #[63, 70, 77, 154, 154, 89, 96, 136, 154, 111, 136, 129], [46, 2, 5, 8, 46, 46, 14, 17, 37, 46, 24, 37, 34])) rfl) (t := 5) (by rw [hc5] <;> decide)) ?_
      refine Q.run zm103 1 (i' := 6) (ls' := [some (.ref 106), some (.int x1)]) (st' := [.ref 106]) rfl ?_
      obtain ⟨s8, hc7, h⟩ := bu_so h
      have hq6 : Q 1 sio tt cc d 108 0 [some (.ref 106), none, none, none, none] [] s (.inl none, s8) := dt108 (by omega) hl  hc7
      refine Q.callV (gC_vi zm103 (show zM103.2.2.2.2.2[6]? = some (72, 3, .invokevirtual 106, [0, 108, 0, 4]) from rfl) zm108 (hl.lt (a := 106) (by decide)) (hl.T (a := 106) (p := (4, 13)) 28 rfl rfl) rfl (show aCr 0 106 [.ref 106] 5 = some ([some (.ref 106), none, none, none, none], []) from rfl)) hq6 ?_
      refine Q.run zm103 1 (i' := 65) (ls' := [some (.ref 106), some (.int x1)]) (st' := []) rfl ?_
      cases h
      exact Q.ret (A.rv zm103 (show zM103.2.2.2.2.2[65]? = some (197, 1, .return_, []) from rfl) rfl) hq6.1
    · rw [if_neg hc5] at h
      by_cases hc9 : x1 = 36
      · rw [if_pos hc9] at h
        refine Q.map (A.ts (gI_of zm103 (e := (1, 63, .tableswitch 154 34 45 #[63, 70, 77, 154, 154, 89, 96, 136, 154, 111, 136, 129], [46, 2, 5, 8, 46, 46, 14, 17, 37, 46, 24, 37, 34])) rfl) (t := 8) (by rw [hc9] <;> decide)) ?_
        refine Q.run zm103 2 (i' := 10) (ls' := [some (.ref 106), some (.int x1)]) (st' := [.ref 106, .ref 106]) rfl ?_
        refine Q.map (A.gf (gI_of zm103 (e := (80, 3, .getfield 61, [4, 7])) rfl) (hl.lt (a := 106) (by decide)) (hl.T (a := 106) (p := (4, 13)) 28 rfl rfl) (by decide) rfl) ?_
        refine Q.run zm103 1 (i' := 12) (ls' := [some (.ref 106), some (.int x1)]) (st' := [.int (-1), .int (sI s 106 7), .ref 106]) rfl ?_
        obtain ⟨s12, hc11, h⟩ := bu_so h
        have hq10 : Q 1 sio tt cc d 112 0 [some (.ref 106), some (.int (sI s 106 7)), some (.int (-1))] [] s (.inl none, s12) := dt112 (by omega) hl  hc11
        refine Q.callV (gC_vi zm103 (show zM103.2.2.2.2.2[12]? = some (84, 3, .invokevirtual 109, [0, 112, 2, 4]) from rfl) zm112 (hl.lt (a := 106) (by decide)) (hl.T (a := 106) (p := (4, 13)) 28 rfl rfl) rfl (show aCr 2 106 [.int (-1), .int (sI s 106 7), .ref 106] 3 = some ([some (.ref 106), some (.int (sI s 106 7)), some (.int (-1))], []) from rfl)) hq10 ?_
        refine Q.run zm103 1 (i' := 65) (ls' := [some (.ref 106), some (.int x1)]) (st' := []) rfl ?_
        cases h
        exact Q.ret (A.rv zm103 (show zM103.2.2.2.2.2[65]? = some (197, 1, .return_, []) from rfl) rfl) hq10.1
      · rw [if_neg hc9] at h
        by_cases hc13 : x1 = 37
        · rw [if_pos hc13] at h
          refine Q.map (A.ts (gI_of zm103 (e := (1, 63, .tableswitch 154 34 45 #[63, 70, 77, 154, 154, 89, 96, 136, 154, 111, 136, 129], [46, 2, 5, 8, 46, 46, 14, 17, 37, 46, 24, 37, 34])) rfl) (t := 46) (by rw [hc13] <;> decide)) ?_
          refine Q.run zm103 1 (i' := 47) (ls' := [some (.ref 106), some (.int x1)]) (st' := [.int x1]) rfl ?_
          obtain ⟨r16, hc15, h⟩ := bu_so h
          have hq14 : Q 1 sio tt cc d 47 0 [some (.int x1)] [] s (.inl (some (.int r16)), s) := dt47 (by omega) hl  hc15
          refine Q.callI (gC_st zm103 (show zM103.2.2.2.2.2[47]? = some (156, 3, .invokestatic 129, [0, 47, 1]) from rfl) zm47 (show aC 1 [.int x1] 1 = some ([some (.int x1)], []) from rfl)) hq14 ?_
          by_cases hc17 : r16 = 0
          · rw [if_pos hc17] at h
            refine Q.map (A.zF (gI_of zm103 (e := (159, 3, .ifCond .ne 9, [52])) rfl) (fun q => of_decide_eq_true q hc17)) ?_
            refine Q.run zm103 2 (i' := 51) (ls' := [some (.ref 106), some (.int x1)]) (st' := [.int 46, .int x1]) rfl ?_
            by_cases hc18 : x1 = 46
            · rw [if_pos hc18] at h
              refine Q.map (A.bF (gI_of zm103 (e := (165, 3, .if_icmp .ne 10, [55])) rfl) (fun q => of_decide_eq_true q hc18)) ?_
              exact dt103_52 hd hl  h
            · rw [if_neg hc18] at h
              refine Q.map (A.bT (gI_of zm103 (e := (165, 3, .if_icmp .ne 10, [55])) rfl) (decide_eq_true hc18)) ?_
              refine Q.run zm103 1 (i' := 56) (ls' := [some (.ref 106), some (.int x1)]) (st' := [.int x1]) rfl ?_
              obtain ⟨r21, hc20, h⟩ := bu_so h
              have hq19 : Q 1 sio tt cc d 44 0 [some (.int x1)] [] s (.inl (some (.int r21)), s) := dt44 (by omega) hl  hc20
              refine Q.callI (gC_st zm103 (show zM103.2.2.2.2.2[56]? = some (176, 3, .invokestatic 138, [0, 44, 1]) from rfl) zm44 (show aC 1 [.int x1] 1 = some ([some (.int x1)], []) from rfl)) hq19 ?_
              by_cases hc22 : r21 = 0
              · rw [if_pos hc22] at h
                refine Q.map (A.zT (gI_of zm103 (e := (179, 3, .ifCond .eq 10, [61])) rfl) (decide_eq_true hc22)) ?_
                refine Q.run zm103 2 (i' := 63) (ls' := [some (.ref 106), some (.int x1)]) (st' := [.ref 106, .ref 106]) rfl ?_
                refine Q.map (A.gf (gI_of zm103 (e := (191, 3, .getfield 61, [4, 7])) rfl) (hl.lt (a := 106) (by decide)) (hl.T (a := 106) (p := (4, 13)) 28 rfl rfl) (by decide) rfl) ?_
                obtain ⟨s23, hs24, h⟩ := nx_so h
                refine Q.pf hs24 rfl (gI_of zm103 (e := (194, 3, .putfield 65, [4, 8, 0])) rfl) (hl.lt (a := 106) (by decide)) (by decide) (hl.T (a := 106) (p := (4, 13)) 28 rfl rfl) (by decide) rfl rfl ?_
                have hl25 : Ly tt cc s23 := by rw [hs24]; exact hl.wId (by decide)
                cases h
                exact Q.ret (A.rv zm103 (show zM103.2.2.2.2.2[65]? = some (197, 1, .return_, []) from rfl) rfl) hl25
              · rw [if_neg hc22] at h
                refine Q.map (A.zF (gI_of zm103 (e := (179, 3, .ifCond .eq 10, [61])) rfl) (fun q => hc22 (of_decide_eq_true q))) ?_
                refine Q.run zm103 1 (i' := 59) (ls' := [some (.ref 106), some (.int x1)]) (st' := [.ref 106]) rfl ?_
                obtain ⟨s28, hc27, h⟩ := bu_so h
                have hq26 : Q 1 sio tt cc d 123 0 [some (.ref 106), none, none, none, none] [] s (.inl none, s28) := dt123 (by omega) hl  hc27
                refine Q.callV (gC_vi zm103 (show zM103.2.2.2.2.2[59]? = some (183, 3, .invokevirtual 141, [0, 123, 0, 4]) from rfl) zm123 (hl.lt (a := 106) (by decide)) (hl.T (a := 106) (p := (4, 13)) 28 rfl rfl) rfl (show aCr 0 106 [.ref 106] 5 = some ([some (.ref 106), none, none, none, none], []) from rfl)) hq26 ?_
                refine Q.run zm103 1 (i' := 65) (ls' := [some (.ref 106), some (.int x1)]) (st' := []) rfl ?_
                cases h
                exact Q.ret (A.rv zm103 (show zM103.2.2.2.2.2[65]? = some (197, 1, .return_, []) from rfl) rfl) hq26.1
          · rw [if_neg hc17] at h
            refine Q.map (A.zT (gI_of zm103 (e := (159, 3, .ifCond .ne 9, [52])) rfl) (decide_eq_true hc17)) ?_
            exact dt103_52 hd hl  h
        · rw [if_neg hc13] at h
          by_cases hc29 : x1 = 38
          · rw [if_pos hc29] at h
            refine Q.map (A.ts (gI_of zm103 (e := (1, 63, .tableswitch 154 34 45 #[63, 70, 77, 154, 154, 89, 96, 136, 154, 111, 136, 129], [46, 2, 5, 8, 46, 46, 14, 17, 37, 46, 24, 37, 34])) rfl) (t := 46) (by rw [hc29] <;> decide)) ?_
            refine Q.run zm103 1 (i' := 47) (ls' := [some (.ref 106), some (.int x1)]) (st' := [.int x1]) rfl ?_
            obtain ⟨r32, hc31, h⟩ := bu_so h
            have hq30 : Q 1 sio tt cc d 47 0 [some (.int x1)] [] s (.inl (some (.int r32)), s) := dt47 (by omega) hl  hc31
            refine Q.callI (gC_st zm103 (show zM103.2.2.2.2.2[47]? = some (156, 3, .invokestatic 129, [0, 47, 1]) from rfl) zm47 (show aC 1 [.int x1] 1 = some ([some (.int x1)], []) from rfl)) hq30 ?_
            by_cases hc33 : r32 = 0
            · rw [if_pos hc33] at h
              refine Q.map (A.zF (gI_of zm103 (e := (159, 3, .ifCond .ne 9, [52])) rfl) (fun q => of_decide_eq_true q hc33)) ?_
              refine Q.run zm103 2 (i' := 51) (ls' := [some (.ref 106), some (.int x1)]) (st' := [.int 46, .int x1]) rfl ?_
              by_cases hc34 : x1 = 46
              · rw [if_pos hc34] at h
                refine Q.map (A.bF (gI_of zm103 (e := (165, 3, .if_icmp .ne 10, [55])) rfl) (fun q => of_decide_eq_true q hc34)) ?_
                exact dt103_52 hd hl  h
              · rw [if_neg hc34] at h
                refine Q.map (A.bT (gI_of zm103 (e := (165, 3, .if_icmp .ne 10, [55])) rfl) (decide_eq_true hc34)) ?_
                refine Q.run zm103 1 (i' := 56) (ls' := [some (.ref 106), some (.int x1)]) (st' := [.int x1]) rfl ?_
                obtain ⟨r37, hc36, h⟩ := bu_so h
                have hq35 : Q 1 sio tt cc d 44 0 [some (.int x1)] [] s (.inl (some (.int r37)), s) := dt44 (by omega) hl  hc36
                refine Q.callI (gC_st zm103 (show zM103.2.2.2.2.2[56]? = some (176, 3, .invokestatic 138, [0, 44, 1]) from rfl) zm44 (show aC 1 [.int x1] 1 = some ([some (.int x1)], []) from rfl)) hq35 ?_
                by_cases hc38 : r37 = 0
                · rw [if_pos hc38] at h
                  refine Q.map (A.zT (gI_of zm103 (e := (179, 3, .ifCond .eq 10, [61])) rfl) (decide_eq_true hc38)) ?_
                  refine Q.run zm103 2 (i' := 63) (ls' := [some (.ref 106), some (.int x1)]) (st' := [.ref 106, .ref 106]) rfl ?_
                  refine Q.map (A.gf (gI_of zm103 (e := (191, 3, .getfield 61, [4, 7])) rfl) (hl.lt (a := 106) (by decide)) (hl.T (a := 106) (p := (4, 13)) 28 rfl rfl) (by decide) rfl) ?_
                  obtain ⟨s39, hs40, h⟩ := nx_so h
                  refine Q.pf hs40 rfl (gI_of zm103 (e := (194, 3, .putfield 65, [4, 8, 0])) rfl) (hl.lt (a := 106) (by decide)) (by decide) (hl.T (a := 106) (p := (4, 13)) 28 rfl rfl) (by decide) rfl rfl ?_
                  have hl41 : Ly tt cc s39 := by rw [hs40]; exact hl.wId (by decide)
                  cases h
                  exact Q.ret (A.rv zm103 (show zM103.2.2.2.2.2[65]? = some (197, 1, .return_, []) from rfl) rfl) hl41
                · rw [if_neg hc38] at h
                  refine Q.map (A.zF (gI_of zm103 (e := (179, 3, .ifCond .eq 10, [61])) rfl) (fun q => hc38 (of_decide_eq_true q))) ?_
                  refine Q.run zm103 1 (i' := 59) (ls' := [some (.ref 106), some (.int x1)]) (st' := [.ref 106]) rfl ?_
                  obtain ⟨s44, hc43, h⟩ := bu_so h
                  have hq42 : Q 1 sio tt cc d 123 0 [some (.ref 106), none, none, none, none] [] s (.inl none, s44) := dt123 (by omega) hl  hc43
                  refine Q.callV (gC_vi zm103 (show zM103.2.2.2.2.2[59]? = some (183, 3, .invokevirtual 141, [0, 123, 0, 4]) from rfl) zm123 (hl.lt (a := 106) (by decide)) (hl.T (a := 106) (p := (4, 13)) 28 rfl rfl) rfl (show aCr 0 106 [.ref 106] 5 = some ([some (.ref 106), none, none, none, none], []) from rfl)) hq42 ?_
                  refine Q.run zm103 1 (i' := 65) (ls' := [some (.ref 106), some (.int x1)]) (st' := []) rfl ?_
                  cases h
                  exact Q.ret (A.rv zm103 (show zM103.2.2.2.2.2[65]? = some (197, 1, .return_, []) from rfl) rfl) hq42.1
            · rw [if_neg hc33] at h
              refine Q.map (A.zT (gI_of zm103 (e := (159, 3, .ifCond .ne 9, [52])) rfl) (decide_eq_true hc33)) ?_
              exact dt103_52 hd hl  h
          · rw [if_neg hc29] at h
            by_cases hc45 : x1 = 39
            · rw [if_pos hc45] at h
              refine Q.map (A.ts (gI_of zm103 (e := (1, 63, .tableswitch 154 34 45 #[63, 70, 77, 154, 154, 89, 96, 136, 154, 111, 136, 129], [46, 2, 5, 8, 46, 46, 14, 17, 37, 46, 24, 37, 34])) rfl) (t := 14) (by rw [hc45] <;> decide)) ?_
              refine Q.run zm103 1 (i' := 15) (ls' := [some (.ref 106), some (.int x1)]) (st' := [.ref 106]) rfl ?_
              obtain ⟨s48, hc47, h⟩ := bu_so h
              have hq46 : Q 1 sio tt cc d 113 0 [some (.ref 106), none] [] s (.inl none, s48) := dt113 (by omega) hl  hc47
              refine Q.callV (gC_vi zm103 (show zM103.2.2.2.2.2[15]? = some (91, 3, .invokevirtual 113, [0, 113, 0, 4]) from rfl) zm113 (hl.lt (a := 106) (by decide)) (hl.T (a := 106) (p := (4, 13)) 28 rfl rfl) rfl (show aCr 0 106 [.ref 106] 2 = some ([some (.ref 106), none], []) from rfl)) hq46 ?_
              refine Q.run zm103 1 (i' := 65) (ls' := [some (.ref 106), some (.int x1)]) (st' := []) rfl ?_
              cases h
              exact Q.ret (A.rv zm103 (show zM103.2.2.2.2.2[65]? = some (197, 1, .return_, []) from rfl) rfl) hq46.1
            · rw [if_neg hc45] at h
              by_cases hc49 : x1 = 40
              · rw [if_pos hc49] at h
                refine Q.map (A.ts (gI_of zm103 (e := (1, 63, .tableswitch 154 34 45 #[63, 70, 77, 154, 154, 89, 96, 136, 154, 111, 136, 129], [46, 2, 5, 8, 46, 46, 14, 17, 37, 46, 24, 37, 34])) rfl) (t := 17) (by rw [hc49] <;> decide)) ?_
                refine Q.run zm103 2 (i' := 19) (ls' := [some (.ref 106), some (.int x1)]) (st' := [.ref 106, .ref 106]) rfl ?_
                rcases vN_so h with ⟨hv50, h⟩ | ⟨b51, hv50, h⟩
                · refine Q.map (A.gf (gI_of zm103 (e := (99, 3, .getfield 48, [4, 6])) rfl) (hl.lt (a := 106) (by decide)) (hl.T (a := 106) (p := (4, 13)) 28 rfl rfl) (by decide) hv50) ?_
                  cases h
                · obtain ⟨hr52, h⟩ := ite_so h
                  refine Q.map (A.gf (gI_of zm103 (e := (99, 3, .getfield 48, [4, 6])) rfl) (hl.lt (a := 106) (by decide)) (hl.T (a := 106) (p := (4, 13)) 28 rfl rfl) (by decide) hv50) ?_
                  obtain ⟨r55, hc54, h⟩ := bu_so h
                  have hq53 : Q 1 sio tt cc d 94 0 [some (.ref b51)] [] s (.inl (some (.int r55)), s) := dt94 (by omega) hl hr52 hc54
                  refine Q.callI (gC_vi zm103 (show zM103.2.2.2.2.2[20]? = some (102, 3, .invokevirtual 116, [0, 94, 0, 3]) from rfl) zm94 hr52.1 (hl.tr hr52).1 rfl (show aCr 0 b51 [.ref b51, .ref 106] 1 = some ([some (.ref b51)], [.ref 106]) from rfl)) hq53 ?_
                  refine Q.run zm103 1 (i' := 22) (ls' := [some (.ref 106), some (.int x1)]) (st' := [.int (-1), .int r55, .ref 106]) rfl ?_
                  obtain ⟨s58, hc57, h⟩ := bu_so h
                  have hq56 : Q 1 sio tt cc d 115 0 [some (.ref 106), some (.int r55), some (.int (-1))] [] s (.inl none, s58) := dt115 (by omega) hl  hc57
                  refine Q.callV (gC_vi zm103 (show zM103.2.2.2.2.2[22]? = some (106, 3, .invokevirtual 119, [0, 115, 2, 4]) from rfl) zm115 (hl.lt (a := 106) (by decide)) (hl.T (a := 106) (p := (4, 13)) 28 rfl rfl) rfl (show aCr 2 106 [.int (-1), .int r55, .ref 106] 3 = some ([some (.ref 106), some (.int r55), some (.int (-1))], []) from rfl)) hq56 ?_
                  have hr59 : aK s58 b51 3 := hq56.2.1.k hr52
                  refine Q.run zm103 1 (i' := 65) (ls' := [some (.ref 106), some (.int x1)]) (st' := []) rfl ?_
                  cases h
                  exact Q.ret (A.rv zm103 (show zM103.2.2.2.2.2[65]? = some (197, 1, .return_, []) from rfl) rfl) hq56.1
              · rw [if_neg hc49] at h
                by_cases hc60 : x1 = 41
                · rw [if_pos hc60] at h
                  refine Q.map (A.ts (gI_of zm103 (e := (1, 63, .tableswitch 154 34 45 #[63, 70, 77, 154, 154, 89, 96, 136, 154, 111, 136, 129], [46, 2, 5, 8, 46, 46, 14, 17, 37, 46, 24, 37, 34])) rfl) (t := 37) (by rw [hc60] <;> decide)) ?_
                  refine Q.run zm103 3 (i' := 40) (ls' := [some (.ref 106), some (.int x1)]) (st' := [.int 41, .int x1, .ref 106]) rfl ?_
                  by_cases hc61 : x1 = 41
                  · rw [if_pos hc61] at h
                    refine Q.map (A.bF (gI_of zm103 (e := (141, 3, .if_icmp .ne 7, [43])) rfl) (fun q => of_decide_eq_true q hc61)) ?_
                    refine Q.run zm103 2 (i' := 44) (ls' := [some (.ref 106), some (.int x1)]) (st' := [.int 1, .ref 106]) rfl ?_
                    exact dt103_44 hd hl  h
                  · rw [if_neg hc61] at h
                    refine Q.map (A.bT (gI_of zm103 (e := (141, 3, .if_icmp .ne 7, [43])) rfl) (decide_eq_true hc61)) ?_
                    refine Q.run zm103 1 (i' := 44) (ls' := [some (.ref 106), some (.int x1)]) (st' := [.int 0, .ref 106]) rfl ?_
                    exact dt103_44 hd hl  h
                · rw [if_neg hc60] at h
                  by_cases hc62 : x1 = 42
                  · rw [if_pos hc62] at h
                    refine Q.map (A.ts (gI_of zm103 (e := (1, 63, .tableswitch 154 34 45 #[63, 70, 77, 154, 154, 89, 96, 136, 154, 111, 136, 129], [46, 2, 5, 8, 46, 46, 14, 17, 37, 46, 24, 37, 34])) rfl) (t := 46) (by rw [hc62] <;> decide)) ?_
                    refine Q.run zm103 1 (i' := 47) (ls' := [some (.ref 106), some (.int x1)]) (st' := [.int x1]) rfl ?_
                    obtain ⟨r65, hc64, h⟩ := bu_so h
                    have hq63 : Q 1 sio tt cc d 47 0 [some (.int x1)] [] s (.inl (some (.int r65)), s) := dt47 (by omega) hl  hc64
                    refine Q.callI (gC_st zm103 (show zM103.2.2.2.2.2[47]? = some (156, 3, .invokestatic 129, [0, 47, 1]) from rfl) zm47 (show aC 1 [.int x1] 1 = some ([some (.int x1)], []) from rfl)) hq63 ?_
                    by_cases hc66 : r65 = 0
                    · rw [if_pos hc66] at h
                      refine Q.map (A.zF (gI_of zm103 (e := (159, 3, .ifCond .ne 9, [52])) rfl) (fun q => of_decide_eq_true q hc66)) ?_
                      refine Q.run zm103 2 (i' := 51) (ls' := [some (.ref 106), some (.int x1)]) (st' := [.int 46, .int x1]) rfl ?_
                      by_cases hc67 : x1 = 46
                      · rw [if_pos hc67] at h
                        refine Q.map (A.bF (gI_of zm103 (e := (165, 3, .if_icmp .ne 10, [55])) rfl) (fun q => of_decide_eq_true q hc67)) ?_
                        exact dt103_52 hd hl  h
                      · rw [if_neg hc67] at h
                        refine Q.map (A.bT (gI_of zm103 (e := (165, 3, .if_icmp .ne 10, [55])) rfl) (decide_eq_true hc67)) ?_
                        refine Q.run zm103 1 (i' := 56) (ls' := [some (.ref 106), some (.int x1)]) (st' := [.int x1]) rfl ?_
                        obtain ⟨r70, hc69, h⟩ := bu_so h
                        have hq68 : Q 1 sio tt cc d 44 0 [some (.int x1)] [] s (.inl (some (.int r70)), s) := dt44 (by omega) hl  hc69
                        refine Q.callI (gC_st zm103 (show zM103.2.2.2.2.2[56]? = some (176, 3, .invokestatic 138, [0, 44, 1]) from rfl) zm44 (show aC 1 [.int x1] 1 = some ([some (.int x1)], []) from rfl)) hq68 ?_
                        by_cases hc71 : r70 = 0
                        · rw [if_pos hc71] at h
                          refine Q.map (A.zT (gI_of zm103 (e := (179, 3, .ifCond .eq 10, [61])) rfl) (decide_eq_true hc71)) ?_
                          refine Q.run zm103 2 (i' := 63) (ls' := [some (.ref 106), some (.int x1)]) (st' := [.ref 106, .ref 106]) rfl ?_
                          refine Q.map (A.gf (gI_of zm103 (e := (191, 3, .getfield 61, [4, 7])) rfl) (hl.lt (a := 106) (by decide)) (hl.T (a := 106) (p := (4, 13)) 28 rfl rfl) (by decide) rfl) ?_
                          obtain ⟨s72, hs73, h⟩ := nx_so h
                          refine Q.pf hs73 rfl (gI_of zm103 (e := (194, 3, .putfield 65, [4, 8, 0])) rfl) (hl.lt (a := 106) (by decide)) (by decide) (hl.T (a := 106) (p := (4, 13)) 28 rfl rfl) (by decide) rfl rfl ?_
                          have hl74 : Ly tt cc s72 := by rw [hs73]; exact hl.wId (by decide)
                          cases h
                          exact Q.ret (A.rv zm103 (show zM103.2.2.2.2.2[65]? = some (197, 1, .return_, []) from rfl) rfl) hl74
                        · rw [if_neg hc71] at h
                          refine Q.map (A.zF (gI_of zm103 (e := (179, 3, .ifCond .eq 10, [61])) rfl) (fun q => hc71 (of_decide_eq_true q))) ?_
                          refine Q.run zm103 1 (i' := 59) (ls' := [some (.ref 106), some (.int x1)]) (st' := [.ref 106]) rfl ?_
                          obtain ⟨s77, hc76, h⟩ := bu_so h
                          have hq75 : Q 1 sio tt cc d 123 0 [some (.ref 106), none, none, none, none] [] s (.inl none, s77) := dt123 (by omega) hl  hc76
                          refine Q.callV (gC_vi zm103 (show zM103.2.2.2.2.2[59]? = some (183, 3, .invokevirtual 141, [0, 123, 0, 4]) from rfl) zm123 (hl.lt (a := 106) (by decide)) (hl.T (a := 106) (p := (4, 13)) 28 rfl rfl) rfl (show aCr 0 106 [.ref 106] 5 = some ([some (.ref 106), none, none, none, none], []) from rfl)) hq75 ?_
                          refine Q.run zm103 1 (i' := 65) (ls' := [some (.ref 106), some (.int x1)]) (st' := []) rfl ?_
                          cases h
                          exact Q.ret (A.rv zm103 (show zM103.2.2.2.2.2[65]? = some (197, 1, .return_, []) from rfl) rfl) hq75.1
                    · rw [if_neg hc66] at h
                      refine Q.map (A.zT (gI_of zm103 (e := (159, 3, .ifCond .ne 9, [52])) rfl) (decide_eq_true hc66)) ?_
                      exact dt103_52 hd hl  h
                  · rw [if_neg hc62] at h
                    by_cases hc78 : x1 = 43
                    · rw [if_pos hc78] at h
                      refine Q.map (A.ts (gI_of zm103 (e := (1, 63, .tableswitch 154 34 45 #[63, 70, 77, 154, 154, 89, 96, 136, 154, 111, 136, 129], [46, 2, 5, 8, 46, 46, 14, 17, 37, 46, 24, 37, 34])) rfl) (t := 24) (by rw [hc78] <;> decide)) ?_
                      refine Q.run zm103 2 (i' := 26) (ls' := [some (.ref 106), some (.int x1)]) (st' := [.ref 106, .ref 106]) rfl ?_
                      refine Q.map (A.gf (gI_of zm103 (e := (114, 3, .getfield 61, [4, 7])) rfl) (hl.lt (a := 106) (by decide)) (hl.T (a := 106) (p := (4, 13)) 28 rfl rfl) (by decide) rfl) ?_
                      refine Q.run zm103 2 (i' := 29) (ls' := [some (.ref 106), some (.int x1)]) (st' := [.int ((sI s 106 7) + 1), .ref 106]) rfl ?_
                      obtain ⟨s79, hs80, h⟩ := nx_so h
                      refine Q.pf hs80 rfl (gI_of zm103 (e := (119, 3, .putfield 61, [4, 7, 0])) rfl) (hl.lt (a := 106) (by decide)) (by decide) (hl.T (a := 106) (p := (4, 13)) 28 rfl rfl) (by decide) rfl rfl ?_
                      have hl81 : Ly tt cc s79 := by rw [hs80]; exact hl.wId (by decide)
                      refine Q.run zm103 2 (i' := 32) (ls' := [some (.ref 106), some (.int x1)]) (st' := [.int 1, .ref 106]) rfl ?_
                      obtain ⟨s82, hs83, h⟩ := nx_so h
                      refine Q.pf hs83 rfl (gI_of zm103 (e := (124, 3, .putfield 68, [4, 9, 0])) rfl) (hl81.lt (a := 106) (by decide)) (by decide) (hl81.T (a := 106) (p := (4, 13)) 28 rfl rfl) (by decide) rfl rfl ?_
                      have hl84 : Ly tt cc s82 := by rw [hs83]; exact hl81.wId (by decide)
                      refine Q.run zm103 1 (i' := 65) (ls' := [some (.ref 106), some (.int x1)]) (st' := []) rfl ?_
                      cases h
                      exact Q.ret (A.rv zm103 (show zM103.2.2.2.2.2[65]? = some (197, 1, .return_, []) from rfl) rfl) hl84
                    · rw [if_neg hc78] at h
                      by_cases hc85 : x1 = 44
                      · rw [if_pos hc85] at h
                        refine Q.map (A.ts (gI_of zm103 (e := (1, 63, .tableswitch 154 34 45 #[63, 70, 77, 154, 154, 89, 96, 136, 154, 111, 136, 129], [46, 2, 5, 8, 46, 46, 14, 17, 37, 46, 24, 37, 34])) rfl) (t := 37) (by rw [hc85] <;> decide)) ?_
                        refine Q.run zm103 3 (i' := 40) (ls' := [some (.ref 106), some (.int x1)]) (st' := [.int 41, .int x1, .ref 106]) rfl ?_
                        by_cases hc86 : x1 = 41
                        · rw [if_pos hc86] at h
                          refine Q.map (A.bF (gI_of zm103 (e := (141, 3, .if_icmp .ne 7, [43])) rfl) (fun q => of_decide_eq_true q hc86)) ?_
                          refine Q.run zm103 2 (i' := 44) (ls' := [some (.ref 106), some (.int x1)]) (st' := [.int 1, .ref 106]) rfl ?_
                          exact dt103_44 hd hl  h
                        · rw [if_neg hc86] at h
                          refine Q.map (A.bT (gI_of zm103 (e := (141, 3, .if_icmp .ne 7, [43])) rfl) (decide_eq_true hc86)) ?_
                          refine Q.run zm103 1 (i' := 44) (ls' := [some (.ref 106), some (.int x1)]) (st' := [.int 0, .ref 106]) rfl ?_
                          exact dt103_44 hd hl  h
                      · rw [if_neg hc85] at h
                        by_cases hc87 : x1 = 45
                        · rw [if_pos hc87] at h
                          refine Q.map (A.ts (gI_of zm103 (e := (1, 63, .tableswitch 154 34 45 #[63, 70, 77, 154, 154, 89, 96, 136, 154, 111, 136, 129], [46, 2, 5, 8, 46, 46, 14, 17, 37, 46, 24, 37, 34])) rfl) (t := 34) (by rw [hc87] <;> decide)) ?_
                          refine Q.run zm103 1 (i' := 35) (ls' := [some (.ref 106), some (.int x1)]) (st' := [.ref 106]) rfl ?_
                          obtain ⟨s90, hc89, h⟩ := bu_so h
                          have hq88 : Q 1 sio tt cc d 118 0 [some (.ref 106)] [] s (.inl none, s90) := dt118 (by omega) hl  hc89
                          refine Q.callV (gC_vi zm103 (show zM103.2.2.2.2.2[35]? = some (131, 3, .invokevirtual 122, [0, 118, 0, 4]) from rfl) zm118 (hl.lt (a := 106) (by decide)) (hl.T (a := 106) (p := (4, 13)) 28 rfl rfl) rfl (show aCr 0 106 [.ref 106] 1 = some ([some (.ref 106)], []) from rfl)) hq88 ?_
                          refine Q.run zm103 1 (i' := 65) (ls' := [some (.ref 106), some (.int x1)]) (st' := []) rfl ?_
                          cases h
                          exact Q.ret (A.rv zm103 (show zM103.2.2.2.2.2[65]? = some (197, 1, .return_, []) from rfl) rfl) hq88.1
                        · rw [if_neg hc87] at h
                          refine Q.map (A.ts (gI_of zm103 (e := (1, 63, .tableswitch 154 34 45 #[63, 70, 77, 154, 154, 89, 96, 136, 154, 111, 136, 129], [46, 2, 5, 8, 46, 46, 14, 17, 37, 46, 24, 37, 34])) rfl) (t := 46) (by have := (show x1.toInt ≠ 34 ∧ x1.toInt ≠ 35 ∧ x1.toInt ≠ 36 ∧ x1.toInt ≠ 37 ∧ x1.toInt ≠ 38 ∧ x1.toInt ≠ 39 ∧ x1.toInt ≠ 40 ∧ x1.toInt ≠ 41 ∧ x1.toInt ≠ 42 ∧ x1.toInt ≠ 43 ∧ x1.toInt ≠ 44 ∧ x1.toInt ≠ 45 from ⟨i32_ne (n := 34) hc1 (by decide), i32_ne (n := 35) hc5 (by decide), i32_ne (n := 36) hc9 (by decide), i32_ne (n := 37) hc13 (by decide), i32_ne (n := 38) hc29 (by decide), i32_ne (n := 39) hc45 (by decide), i32_ne (n := 40) hc49 (by decide), i32_ne (n := 41) hc60 (by decide), i32_ne (n := 42) hc62 (by decide), i32_ne (n := 43) hc78 (by decide), i32_ne (n := 44) hc85 (by decide), i32_ne (n := 45) hc87 (by decide)⟩); rw [if_pos]; omega)) ?_
                          refine Q.run zm103 1 (i' := 47) (ls' := [some (.ref 106), some (.int x1)]) (st' := [.int x1]) rfl ?_
                          obtain ⟨r93, hc92, h⟩ := bu_so h
                          have hq91 : Q 1 sio tt cc d 47 0 [some (.int x1)] [] s (.inl (some (.int r93)), s) := dt47 (by omega) hl  hc92
                          refine Q.callI (gC_st zm103 (show zM103.2.2.2.2.2[47]? = some (156, 3, .invokestatic 129, [0, 47, 1]) from rfl) zm47 (show aC 1 [.int x1] 1 = some ([some (.int x1)], []) from rfl)) hq91 ?_
                          by_cases hc94 : r93 = 0
                          · rw [if_pos hc94] at h
                            refine Q.map (A.zF (gI_of zm103 (e := (159, 3, .ifCond .ne 9, [52])) rfl) (fun q => of_decide_eq_true q hc94)) ?_
                            refine Q.run zm103 2 (i' := 51) (ls' := [some (.ref 106), some (.int x1)]) (st' := [.int 46, .int x1]) rfl ?_
                            by_cases hc95 : x1 = 46
                            · rw [if_pos hc95] at h
                              refine Q.map (A.bF (gI_of zm103 (e := (165, 3, .if_icmp .ne 10, [55])) rfl) (fun q => of_decide_eq_true q hc95)) ?_
                              exact dt103_52 hd hl  h
                            · rw [if_neg hc95] at h
                              refine Q.map (A.bT (gI_of zm103 (e := (165, 3, .if_icmp .ne 10, [55])) rfl) (decide_eq_true hc95)) ?_
                              refine Q.run zm103 1 (i' := 56) (ls' := [some (.ref 106), some (.int x1)]) (st' := [.int x1]) rfl ?_
                              obtain ⟨r98, hc97, h⟩ := bu_so h
                              have hq96 : Q 1 sio tt cc d 44 0 [some (.int x1)] [] s (.inl (some (.int r98)), s) := dt44 (by omega) hl  hc97
                              refine Q.callI (gC_st zm103 (show zM103.2.2.2.2.2[56]? = some (176, 3, .invokestatic 138, [0, 44, 1]) from rfl) zm44 (show aC 1 [.int x1] 1 = some ([some (.int x1)], []) from rfl)) hq96 ?_
                              by_cases hc99 : r98 = 0
                              · rw [if_pos hc99] at h
                                refine Q.map (A.zT (gI_of zm103 (e := (179, 3, .ifCond .eq 10, [61])) rfl) (decide_eq_true hc99)) ?_
                                refine Q.run zm103 2 (i' := 63) (ls' := [some (.ref 106), some (.int x1)]) (st' := [.ref 106, .ref 106]) rfl ?_
                                refine Q.map (A.gf (gI_of zm103 (e := (191, 3, .getfield 61, [4, 7])) rfl) (hl.lt (a := 106) (by decide)) (hl.T (a := 106) (p := (4, 13)) 28 rfl rfl) (by decide) rfl) ?_
                                obtain ⟨s100, hs101, h⟩ := nx_so h
                                refine Q.pf hs101 rfl (gI_of zm103 (e := (194, 3, .putfield 65, [4, 8, 0])) rfl) (hl.lt (a := 106) (by decide)) (by decide) (hl.T (a := 106) (p := (4, 13)) 28 rfl rfl) (by decide) rfl rfl ?_
                                have hl102 : Ly tt cc s100 := by rw [hs101]; exact hl.wId (by decide)
                                cases h
                                exact Q.ret (A.rv zm103 (show zM103.2.2.2.2.2[65]? = some (197, 1, .return_, []) from rfl) rfl) hl102
                              · rw [if_neg hc99] at h
                                refine Q.map (A.zF (gI_of zm103 (e := (179, 3, .ifCond .eq 10, [61])) rfl) (fun q => hc99 (of_decide_eq_true q))) ?_
                                refine Q.run zm103 1 (i' := 59) (ls' := [some (.ref 106), some (.int x1)]) (st' := [.ref 106]) rfl ?_
                                obtain ⟨s105, hc104, h⟩ := bu_so h
                                have hq103 : Q 1 sio tt cc d 123 0 [some (.ref 106), none, none, none, none] [] s (.inl none, s105) := dt123 (by omega) hl  hc104
                                refine Q.callV (gC_vi zm103 (show zM103.2.2.2.2.2[59]? = some (183, 3, .invokevirtual 141, [0, 123, 0, 4]) from rfl) zm123 (hl.lt (a := 106) (by decide)) (hl.T (a := 106) (p := (4, 13)) 28 rfl rfl) rfl (show aCr 0 106 [.ref 106] 5 = some ([some (.ref 106), none, none, none, none], []) from rfl)) hq103 ?_
                                refine Q.run zm103 1 (i' := 65) (ls' := [some (.ref 106), some (.int x1)]) (st' := []) rfl ?_
                                cases h
                                exact Q.ret (A.rv zm103 (show zM103.2.2.2.2.2[65]? = some (197, 1, .return_, []) from rfl) rfl) hq103.1
                          · rw [if_neg hc94] at h
                            refine Q.map (A.zT (gI_of zm103 (e := (159, 3, .ifCond .ne 9, [52])) rfl) (decide_eq_true hc94)) ?_
                            exact dt103_52 hd hl  h
/-! 63 FormulaTrees$Reader.readInto(LFormulaTrees$Tree;)I -/
set_option maxRecDepth 100000 in
theorem zm63 : zP[63]? = some zM63 := rfl
def dm63_92 (s : aS) : Option (Int32 × aS) :=
  bu (dm28 79 s) fun r3 =>
  nx (wI s 106 8 r3) fun s4 =>
  some (sI s4 106 8, s4)
set_option maxRecDepth 100000 in
theorem dt63_92 {sio : Bool} {tt : Nat} {cc : Nat → Nat → Int32} {d : Nat} (hd : 9 ≤ d) {b1 : Nat} {x2 : Int32} {s : aS} (hl : Ly tt cc s) {o : Int32 × aS} (h : dm63_92  s = some o) : Q 1 sio tt cc d 63 92 [some (.ref 106), some (.ref b1), some (.int x2)] [] s (.inl (some (.int o.1)), o.2) := by
  unfold dm63_92 at h
  obtain ⟨d, rfl⟩ : ∃ e, d = e + 1 := ⟨d - 1, by omega⟩
  refine Q.run zm63 2 (i' := 94) (ls' := [some (.ref 106), some (.ref b1), some (.int x2)]) (st' := [.ref 106, .ref 106]) rfl ?_
  refine Q.map (A.gf (gI_of zm63 (e := (194, 3, .getfield 41, [4, 0])) rfl) (hl.lt (a := 106) (by decide)) (hl.T (a := 106) (p := (4, 13)) 28 rfl rfl) (by decide) (hl.R 8 rfl)) ?_
  obtain ⟨r3, hc2, h⟩ := bu_so h
  have hq1 : Q 1 sio tt cc d 28 0 [some (.ref 79)] [] s (.inl (some (.int r3)), s) := dt28 (by omega) hl (hl.Kd (a := 79) (c := 1) (n := 2) 1 rfl rfl (by decide)) hc2
  refine Q.callI (gC_vi zm63 (show zM63.2.2.2.2.2[95]? = some (197, 3, .invokevirtual 74, [0, 28, 0, 1]) from rfl) zm28 (hl.lt (a := 79) (by decide)) (hl.T (a := 79) (p := (1, 2)) 1 rfl rfl) rfl (show aCr 0 79 [.ref 79, .ref 106] 1 = some ([some (.ref 79)], [.ref 106]) from rfl)) hq1 ?_
  obtain ⟨s4, hs5, h⟩ := nx_so h
  refine Q.pf hs5 rfl (gI_of zm63 (e := (200, 3, .putfield 65, [4, 8, 0])) rfl) (hl.lt (a := 106) (by decide)) (by decide) (hl.T (a := 106) (p := (4, 13)) 28 rfl rfl) (by decide) rfl rfl ?_
  have hl6 : Ly tt cc s4 := by rw [hs5]; exact hl.wId (by decide)
  refine Q.run zm63 1 (i' := 98) (ls' := [some (.ref 106), some (.ref b1), some (.int x2)]) (st' := [.ref 106]) rfl ?_
  refine Q.map (A.gf (gI_of zm63 (e := (204, 3, .getfield 65, [4, 8])) rfl) (hl6.lt (a := 106) (by decide)) (hl6.T (a := 106) (p := (4, 13)) 28 rfl rfl) (by decide) rfl) ?_
  cases h
  exact Q.ret (A.ri zm63 (show zM63.2.2.2.2.2[99]? = some (207, 1, .ireturn, []) from rfl) rfl rfl) hl6
def dm63_78 (k26 : Int32 → aS → Option (Int32 × aS)) (x2 : Int32) (s : aS) : Option (Int32 × aS) :=
  k26 (x2 + 1) s
set_option maxRecDepth 100000 in
theorem dt63_78 {sio : Bool} {tt : Nat} {cc : Nat → Nat → Int32} {d : Nat} (hd : 9 ≤ d) {k26 : Int32 → aS → Option (Int32 × aS)} (hk26 : ∀ {x2 : Int32} {b1 : Nat} {s : aS}, Ly tt cc s → ∀ {o : Int32 × aS}, k26 x2 s = some o → Q 1 sio tt cc d 63 26 [some (.ref 106), some (.ref b1), some (.int x2)] [] s (.inl (some (.int o.1)), o.2)) {x2 : Int32} {b1 : Nat} {s : aS} (hl : Ly tt cc s) {o : Int32 × aS} (h : dm63_78 k26 x2 s = some o) : Q 1 sio tt cc d 63 78 [some (.ref 106), some (.ref b1), some (.int x2)] [] s (.inl (some (.int o.1)), o.2) := by
  unfold dm63_78 at h
  obtain ⟨d, rfl⟩ : ∃ e, d = e + 1 := ⟨d - 1, by omega⟩
  refine Q.run zm63 2 (i' := 26) (ls' := [some (.ref 106), some (.ref b1), some (.int (x2 + 1))]) (st' := []) rfl ?_
  exact hk26 hl  h
def dm63_80 (s : aS) : Option (Int32 × aS) :=
  if (sI s 106 8) = (-1) then
    if (sI s 106 9) < 4 then
      dm63_92 s
    else
      bu (dm82 s) fun r5 =>
      if r5 ≤ 0 then
        some (sI s 106 8, s)
      else
        dm63_92 s
  else
    some (sI s 106 8, s)
set_option maxRecDepth 100000 in
theorem dt63_80 {sio : Bool} {tt : Nat} {cc : Nat → Nat → Int32} {d : Nat} (hd : 9 ≤ d) {b1 : Nat} {x2 : Int32} {s : aS} (hl : Ly tt cc s) {o : Int32 × aS} (h : dm63_80  s = some o) : Q 1 sio tt cc d 63 80 [some (.ref 106), some (.ref b1), some (.int x2)] [] s (.inl (some (.int o.1)), o.2) := by
  unfold dm63_80 at h
  obtain ⟨d, rfl⟩ : ∃ e, d = e + 1 := ⟨d - 1, by omega⟩
  refine Q.run zm63 1 (i' := 81) (ls' := [some (.ref 106), some (.ref b1), some (.int x2)]) (st' := [.ref 106]) rfl ?_
  refine Q.map (A.gf (gI_of zm63 (e := (167, 3, .getfield 65, [4, 8])) rfl) (hl.lt (a := 106) (by decide)) (hl.T (a := 106) (p := (4, 13)) 28 rfl rfl) (by decide) rfl) ?_
  refine Q.run zm63 1 (i' := 83) (ls' := [some (.ref 106), some (.ref b1), some (.int x2)]) (st' := [.int (-1), .int (sI s 106 8)]) rfl ?_
  by_cases hc1 : (sI s 106 8) = (-1)
  · rw [if_pos hc1] at h
    refine Q.map (A.bF (gI_of zm63 (e := (171, 3, .if_icmp .ne 32, [97])) rfl) (fun q => of_decide_eq_true q hc1)) ?_
    refine Q.run zm63 1 (i' := 85) (ls' := [some (.ref 106), some (.ref b1), some (.int x2)]) (st' := [.ref 106]) rfl ?_
    refine Q.map (A.gf (gI_of zm63 (e := (175, 3, .getfield 68, [4, 9])) rfl) (hl.lt (a := 106) (by decide)) (hl.T (a := 106) (p := (4, 13)) 28 rfl rfl) (by decide) rfl) ?_
    refine Q.run zm63 1 (i' := 87) (ls' := [some (.ref 106), some (.ref b1), some (.int x2)]) (st' := [.int 4, .int (sI s 106 9)]) rfl ?_
    by_cases hc2 : (sI s 106 9) < 4
    · rw [if_pos hc2] at h
      refine Q.map (A.bT (gI_of zm63 (e := (179, 3, .if_icmp .lt 13, [92])) rfl) (decide_eq_true hc2)) ?_
      exact dt63_92 hd hl  h
    · rw [if_neg hc2] at h
      refine Q.map (A.bF (gI_of zm63 (e := (179, 3, .if_icmp .lt 13, [92])) rfl) (fun q => hc2 (of_decide_eq_true q))) ?_
      refine Q.run zm63 1 (i' := 89) (ls' := [some (.ref 106), some (.ref b1), some (.int x2)]) (st' := [.ref 106]) rfl ?_
      refine Q.map (A.gf (gI_of zm63 (e := (183, 3, .getfield 37, [4, 5])) rfl) (hl.lt (a := 106) (by decide)) (hl.T (a := 106) (p := (4, 13)) 28 rfl rfl) (by decide) (hl.R 13 rfl)) ?_
      obtain ⟨r5, hc4, h⟩ := bu_so h
      have hq3 : Q 1 sio tt cc d 82 0 [some (.ref 113)] [] s (.inl (some (.int r5)), s) := dt82 (by omega) hl  hc4
      refine Q.callI (gC_vi zm63 (show zM63.2.2.2.2.2[90]? = some (186, 3, .invokevirtual 93, [0, 82, 0, 7]) from rfl) zm82 (hl.lt (a := 113) (by decide)) (hl.T (a := 113) (p := (7, 4)) 35 rfl rfl) rfl (show aCr 0 113 [.ref 113] 1 = some ([some (.ref 113)], []) from rfl)) hq3 ?_
      by_cases hc6 : r5 ≤ 0
      · rw [if_pos hc6] at h
        refine Q.map (A.zT (gI_of zm63 (e := (189, 3, .ifCond .le 14, [97])) rfl) (decide_eq_true hc6)) ?_
        refine Q.run zm63 1 (i' := 98) (ls' := [some (.ref 106), some (.ref b1), some (.int x2)]) (st' := [.ref 106]) rfl ?_
        refine Q.map (A.gf (gI_of zm63 (e := (204, 3, .getfield 65, [4, 8])) rfl) (hl.lt (a := 106) (by decide)) (hl.T (a := 106) (p := (4, 13)) 28 rfl rfl) (by decide) rfl) ?_
        cases h
        exact Q.ret (A.ri zm63 (show zM63.2.2.2.2.2[99]? = some (207, 1, .ireturn, []) from rfl) rfl rfl) hl
      · rw [if_neg hc6] at h
        refine Q.map (A.zF (gI_of zm63 (e := (189, 3, .ifCond .le 14, [97])) rfl) (fun q => hc6 (of_decide_eq_true q))) ?_
        exact dt63_92 hd hl  h
  · rw [if_neg hc1] at h
    refine Q.map (A.bT (gI_of zm63 (e := (171, 3, .if_icmp .ne 32, [97])) rfl) (decide_eq_true hc1)) ?_
    refine Q.run zm63 1 (i' := 98) (ls' := [some (.ref 106), some (.ref b1), some (.int x2)]) (st' := [.ref 106]) rfl ?_
    refine Q.map (A.gf (gI_of zm63 (e := (204, 3, .getfield 65, [4, 8])) rfl) (hl.lt (a := 106) (by decide)) (hl.T (a := 106) (p := (4, 13)) 28 rfl rfl) (by decide) rfl) ?_
    cases h
    exact Q.ret (A.ri zm63 (show zM63.2.2.2.2.2[99]? = some (207, 1, .ireturn, []) from rfl) rfl rfl) hl
def dm63_72 (k26 : Int32 → aS → Option (Int32 × aS)) (x2 : Int32) (s : aS) : Option (Int32 × aS) :=
  if (sI s 106 9) = 2 then
    dm63_78 k26 x2 s
  else
    bu (dm67 s) fun s4 =>
    dm63_78 k26 x2 s4
set_option maxRecDepth 100000 in
theorem dt63_72 {sio : Bool} {tt : Nat} {cc : Nat → Nat → Int32} {d : Nat} (hd : 9 ≤ d) {k26 : Int32 → aS → Option (Int32 × aS)} (hk26 : ∀ {x2 : Int32} {b1 : Nat} {s : aS}, Ly tt cc s → ∀ {o : Int32 × aS}, k26 x2 s = some o → Q 1 sio tt cc d 63 26 [some (.ref 106), some (.ref b1), some (.int x2)] [] s (.inl (some (.int o.1)), o.2)) {x2 : Int32} {b1 : Nat} {s : aS} (hl : Ly tt cc s) {o : Int32 × aS} (h : dm63_72 k26 x2 s = some o) : Q 1 sio tt cc d 63 72 [some (.ref 106), some (.ref b1), some (.int x2)] [] s (.inl (some (.int o.1)), o.2) := by
  unfold dm63_72 at h
  obtain ⟨d, rfl⟩ : ∃ e, d = e + 1 := ⟨d - 1, by omega⟩
  refine Q.run zm63 1 (i' := 73) (ls' := [some (.ref 106), some (.ref b1), some (.int x2)]) (st' := [.ref 106]) rfl ?_
  refine Q.map (A.gf (gI_of zm63 (e := (149, 3, .getfield 68, [4, 9])) rfl) (hl.lt (a := 106) (by decide)) (hl.T (a := 106) (p := (4, 13)) 28 rfl rfl) (by decide) rfl) ?_
  refine Q.run zm63 1 (i' := 75) (ls' := [some (.ref 106), some (.ref b1), some (.int x2)]) (st' := [.int 2, .int (sI s 106 9)]) rfl ?_
  by_cases hc1 : (sI s 106 9) = 2
  · rw [if_pos hc1] at h
    refine Q.map (A.bT (gI_of zm63 (e := (153, 3, .if_icmp .eq 7, [78])) rfl) (decide_eq_true hc1)) ?_
    exact dt63_78 hd hk26 hl  h
  · rw [if_neg hc1] at h
    refine Q.map (A.bF (gI_of zm63 (e := (153, 3, .if_icmp .eq 7, [78])) rfl) (fun q => hc1 (of_decide_eq_true q))) ?_
    refine Q.run zm63 1 (i' := 77) (ls' := [some (.ref 106), some (.ref b1), some (.int x2)]) (st' := [.ref 106]) rfl ?_
    obtain ⟨s4, hc3, h⟩ := bu_so h
    have hq2 : Q 1 sio tt cc d 67 0 [some (.ref 106)] [] s (.inl none, s4) := dt67 (by omega) hl  hc3
    refine Q.callV (gC_vi zm63 (show zM63.2.2.2.2.2[77]? = some (157, 3, .invokevirtual 71, [0, 67, 0, 4]) from rfl) zm67 (hl.lt (a := 106) (by decide)) (hl.T (a := 106) (p := (4, 13)) 28 rfl rfl) rfl (show aCr 0 106 [.ref 106] 1 = some ([some (.ref 106)], []) from rfl)) hq2 ?_
    exact dt63_78 hd hk26 hq2.1  h
def dm63_26 : Nat → Int32 → aS → Option (Int32 × aS)
  | 0, _, _ => none
  | n + 1, x2, s =>
    if 512 ≤ x2 then
      dm63_80 s
    else
      bu (dm28 79 s) fun r4 =>
      if r4 ≤ (sI s 106 7) then
        dm63_80 s
      else
        if (sI s 106 8) = (-1) then
          if (sI s 106 9) < 4 then
            if (sI s 106 9) = 2 then
              bu (dm88 s) fun s11 =>
              dm63_72 (dm63_26 n) x2 s11
            else
              if (sI s 106 9) = 3 then
                bu (dm99 s) fun s15 =>
                dm63_72 (dm63_26 n) x2 s15
              else
                bu (dm34 79 (sI s 106 7) s) fun r18 =>
                bu (dm103 r18 s) fun s21 =>
                dm63_72 (dm63_26 n) x2 s21
          else
            bu (dm34 79 (sI s 106 7) s) fun r24 =>
            bu (dm68 r24 s) fun s27 =>
            dm63_72 (dm63_26 n) x2 s27
        else
          dm63_80 s
set_option maxRecDepth 100000 in
theorem dt63_26 {sio : Bool} {tt : Nat} {cc : Nat → Nat → Int32} {d : Nat} (hd : 9 ≤ d) : ∀ (n : Nat) {x2 : Int32} {b1 : Nat} {s : aS} (_ : Ly tt cc s) {o : Int32 × aS} (_ : dm63_26  n x2 s = some o), Q 1 sio tt cc d 63 26 [some (.ref 106), some (.ref b1), some (.int x2)] [] s (.inl (some (.int o.1)), o.2) := by
  obtain ⟨d, rfl⟩ : ∃ e, d = e + 1 := ⟨d - 1, by omega⟩
  intro n
  induction n with
  | zero => intro x2 b1 s hl o h; rw [dm63_26] at h; cases h
  | succ n ih =>
    intro x2 b1 s hl o h
    rw [dm63_26] at h
    refine Q.run zm63 2 (i' := 28) (ls' := [some (.ref 106), some (.ref b1), some (.int x2)]) (st' := [.int 512, .int x2]) rfl ?_
    by_cases hc1 : 512 ≤ x2
    · rw [if_pos hc1] at h
      refine Q.map (A.bT (gI_of zm63 (e := (52, 3, .if_icmp .ge 114, [80])) rfl) (decide_eq_true hc1)) ?_
      exact dt63_80 hd hl  h
    · rw [if_neg hc1] at h
      refine Q.map (A.bF (gI_of zm63 (e := (52, 3, .if_icmp .ge 114, [80])) rfl) (fun q => hc1 (of_decide_eq_true q))) ?_
      refine Q.run zm63 1 (i' := 30) (ls' := [some (.ref 106), some (.ref b1), some (.int x2)]) (st' := [.ref 106]) rfl ?_
      refine Q.map (A.gf (gI_of zm63 (e := (56, 3, .getfield 61, [4, 7])) rfl) (hl.lt (a := 106) (by decide)) (hl.T (a := 106) (p := (4, 13)) 28 rfl rfl) (by decide) rfl) ?_
      refine Q.run zm63 1 (i' := 32) (ls' := [some (.ref 106), some (.ref b1), some (.int x2)]) (st' := [.ref 106, .int (sI s 106 7)]) rfl ?_
      refine Q.map (A.gf (gI_of zm63 (e := (60, 3, .getfield 41, [4, 0])) rfl) (hl.lt (a := 106) (by decide)) (hl.T (a := 106) (p := (4, 13)) 28 rfl rfl) (by decide) (hl.R 8 rfl)) ?_
      obtain ⟨r4, hc3, h⟩ := bu_so h
      have hq2 : Q 1 sio tt cc d 28 0 [some (.ref 79)] [] s (.inl (some (.int r4)), s) := dt28 (by omega) hl (hl.Kd (a := 79) (c := 1) (n := 2) 1 rfl rfl (by decide)) hc3
      refine Q.callI (gC_vi zm63 (show zM63.2.2.2.2.2[33]? = some (63, 3, .invokevirtual 74, [0, 28, 0, 1]) from rfl) zm28 (hl.lt (a := 79) (by decide)) (hl.T (a := 79) (p := (1, 2)) 1 rfl rfl) rfl (show aCr 0 79 [.ref 79, .int (sI s 106 7)] 1 = some ([some (.ref 79)], [.int (sI s 106 7)]) from rfl)) hq2 ?_
      by_cases hc5 : r4 ≤ (sI s 106 7)
      · rw [if_pos hc5] at h
        refine Q.map (A.bT (gI_of zm63 (e := (66, 3, .if_icmp .ge 100, [80])) rfl) (decide_eq_true hc5)) ?_
        exact dt63_80 hd hl  h
      · rw [if_neg hc5] at h
        refine Q.map (A.bF (gI_of zm63 (e := (66, 3, .if_icmp .ge 100, [80])) rfl) (fun q => hc5 (of_decide_eq_true q))) ?_
        refine Q.run zm63 1 (i' := 36) (ls' := [some (.ref 106), some (.ref b1), some (.int x2)]) (st' := [.ref 106]) rfl ?_
        refine Q.map (A.gf (gI_of zm63 (e := (70, 3, .getfield 65, [4, 8])) rfl) (hl.lt (a := 106) (by decide)) (hl.T (a := 106) (p := (4, 13)) 28 rfl rfl) (by decide) rfl) ?_
        refine Q.run zm63 1 (i' := 38) (ls' := [some (.ref 106), some (.ref b1), some (.int x2)]) (st' := [.int (-1), .int (sI s 106 8)]) rfl ?_
        by_cases hc6 : (sI s 106 8) = (-1)
        · rw [if_pos hc6] at h
          refine Q.map (A.bF (gI_of zm63 (e := (74, 3, .if_icmp .ne 92, [80])) rfl) (fun q => of_decide_eq_true q hc6)) ?_
          refine Q.run zm63 1 (i' := 40) (ls' := [some (.ref 106), some (.ref b1), some (.int x2)]) (st' := [.ref 106]) rfl ?_
          refine Q.map (A.gf (gI_of zm63 (e := (78, 3, .getfield 68, [4, 9])) rfl) (hl.lt (a := 106) (by decide)) (hl.T (a := 106) (p := (4, 13)) 28 rfl rfl) (by decide) rfl) ?_
          refine Q.run zm63 1 (i' := 42) (ls' := [some (.ref 106), some (.ref b1), some (.int x2)]) (st' := [.int 4, .int (sI s 106 9)]) rfl ?_
          by_cases hc7 : (sI s 106 9) < 4
          · rw [if_pos hc7] at h
            refine Q.map (A.bT (gI_of zm63 (e := (82, 3, .if_icmp .lt 21, [51])) rfl) (decide_eq_true hc7)) ?_
            refine Q.run zm63 1 (i' := 52) (ls' := [some (.ref 106), some (.ref b1), some (.int x2)]) (st' := [.ref 106]) rfl ?_
            refine Q.map (A.gf (gI_of zm63 (e := (104, 3, .getfield 68, [4, 9])) rfl) (hl.lt (a := 106) (by decide)) (hl.T (a := 106) (p := (4, 13)) 28 rfl rfl) (by decide) rfl) ?_
            refine Q.run zm63 1 (i' := 54) (ls' := [some (.ref 106), some (.ref b1), some (.int x2)]) (st' := [.int 2, .int (sI s 106 9)]) rfl ?_
            by_cases hc8 : (sI s 106 9) = 2
            · rw [if_pos hc8] at h
              refine Q.map (A.bF (gI_of zm63 (e := (108, 3, .if_icmp .ne 10, [58])) rfl) (fun q => of_decide_eq_true q hc8)) ?_
              refine Q.run zm63 1 (i' := 56) (ls' := [some (.ref 106), some (.ref b1), some (.int x2)]) (st' := [.ref 106]) rfl ?_
              obtain ⟨s11, hc10, h⟩ := bu_so h
              have hq9 : Q 1 sio tt cc d 88 0 [some (.ref 106), none] [] s (.inl none, s11) := dt88 (by omega) hl  hc10
              refine Q.callV (gC_vi zm63 (show zM63.2.2.2.2.2[56]? = some (112, 3, .invokevirtual 84, [0, 88, 0, 4]) from rfl) zm88 (hl.lt (a := 106) (by decide)) (hl.T (a := 106) (p := (4, 13)) 28 rfl rfl) rfl (show aCr 0 106 [.ref 106] 2 = some ([some (.ref 106), none], []) from rfl)) hq9 ?_
              refine Q.run zm63 1 (i' := 72) (ls' := [some (.ref 106), some (.ref b1), some (.int x2)]) (st' := []) rfl ?_
              exact dt63_72 hd ih hq9.1  h
            · rw [if_neg hc8] at h
              refine Q.map (A.bT (gI_of zm63 (e := (108, 3, .if_icmp .ne 10, [58])) rfl) (decide_eq_true hc8)) ?_
              refine Q.run zm63 1 (i' := 59) (ls' := [some (.ref 106), some (.ref b1), some (.int x2)]) (st' := [.ref 106]) rfl ?_
              refine Q.map (A.gf (gI_of zm63 (e := (119, 3, .getfield 68, [4, 9])) rfl) (hl.lt (a := 106) (by decide)) (hl.T (a := 106) (p := (4, 13)) 28 rfl rfl) (by decide) rfl) ?_
              refine Q.run zm63 1 (i' := 61) (ls' := [some (.ref 106), some (.ref b1), some (.int x2)]) (st' := [.int 3, .int (sI s 106 9)]) rfl ?_
              by_cases hc12 : (sI s 106 9) = 3
              · rw [if_pos hc12] at h
                refine Q.map (A.bF (gI_of zm63 (e := (123, 3, .if_icmp .ne 10, [65])) rfl) (fun q => of_decide_eq_true q hc12)) ?_
                refine Q.run zm63 1 (i' := 63) (ls' := [some (.ref 106), some (.ref b1), some (.int x2)]) (st' := [.ref 106]) rfl ?_
                obtain ⟨s15, hc14, h⟩ := bu_so h
                have hq13 : Q 1 sio tt cc d 99 0 [some (.ref 106)] [] s (.inl none, s15) := dt99 (by omega) hl  hc14
                refine Q.callV (gC_vi zm63 (show zM63.2.2.2.2.2[63]? = some (127, 3, .invokevirtual 87, [0, 99, 0, 4]) from rfl) zm99 (hl.lt (a := 106) (by decide)) (hl.T (a := 106) (p := (4, 13)) 28 rfl rfl) rfl (show aCr 0 106 [.ref 106] 1 = some ([some (.ref 106)], []) from rfl)) hq13 ?_
                refine Q.run zm63 1 (i' := 72) (ls' := [some (.ref 106), some (.ref b1), some (.int x2)]) (st' := []) rfl ?_
                exact dt63_72 hd ih hq13.1  h
              · rw [if_neg hc12] at h
                refine Q.map (A.bT (gI_of zm63 (e := (123, 3, .if_icmp .ne 10, [65])) rfl) (decide_eq_true hc12)) ?_
                refine Q.run zm63 2 (i' := 67) (ls' := [some (.ref 106), some (.ref b1), some (.int x2)]) (st' := [.ref 106, .ref 106]) rfl ?_
                refine Q.map (A.gf (gI_of zm63 (e := (135, 3, .getfield 41, [4, 0])) rfl) (hl.lt (a := 106) (by decide)) (hl.T (a := 106) (p := (4, 13)) 28 rfl rfl) (by decide) (hl.R 8 rfl)) ?_
                refine Q.run zm63 1 (i' := 69) (ls' := [some (.ref 106), some (.ref b1), some (.int x2)]) (st' := [.ref 106, .ref 79, .ref 106]) rfl ?_
                refine Q.map (A.gf (gI_of zm63 (e := (139, 3, .getfield 61, [4, 7])) rfl) (hl.lt (a := 106) (by decide)) (hl.T (a := 106) (p := (4, 13)) 28 rfl rfl) (by decide) rfl) ?_
                obtain ⟨r18, hc17, h⟩ := bu_so h
                have hq16 : Q 1 sio tt cc d 34 0 [some (.ref 79), some (.int (sI s 106 7))] [] s (.inl (some (.int r18)), s) := dt34 (by omega) hl (hl.Kd (a := 79) (c := 1) (n := 2) 1 rfl rfl (by decide)) hc17
                refine Q.callI (gC_vi zm63 (show zM63.2.2.2.2.2[70]? = some (142, 3, .invokevirtual 78, [0, 34, 1, 1]) from rfl) zm34 (hl.lt (a := 79) (by decide)) (hl.T (a := 79) (p := (1, 2)) 1 rfl rfl) rfl (show aCr 1 79 [.int (sI s 106 7), .ref 79, .ref 106] 2 = some ([some (.ref 79), some (.int (sI s 106 7))], [.ref 106]) from rfl)) hq16 ?_
                obtain ⟨s21, hc20, h⟩ := bu_so h
                have hq19 : Q 1 sio tt cc d 103 0 [some (.ref 106), some (.int r18)] [] s (.inl none, s21) := dt103 (by omega) hl  hc20
                refine Q.callV (gC_vi zm63 (show zM63.2.2.2.2.2[71]? = some (145, 3, .invokevirtual 90, [0, 103, 1, 4]) from rfl) zm103 (hl.lt (a := 106) (by decide)) (hl.T (a := 106) (p := (4, 13)) 28 rfl rfl) rfl (show aCr 1 106 [.int r18, .ref 106] 2 = some ([some (.ref 106), some (.int r18)], []) from rfl)) hq19 ?_
                exact dt63_72 hd ih hq19.1  h
          · rw [if_neg hc7] at h
            refine Q.map (A.bF (gI_of zm63 (e := (82, 3, .if_icmp .lt 21, [51])) rfl) (fun q => hc7 (of_decide_eq_true q))) ?_
            refine Q.run zm63 2 (i' := 45) (ls' := [some (.ref 106), some (.ref b1), some (.int x2)]) (st' := [.ref 106, .ref 106]) rfl ?_
            refine Q.map (A.gf (gI_of zm63 (e := (87, 3, .getfield 41, [4, 0])) rfl) (hl.lt (a := 106) (by decide)) (hl.T (a := 106) (p := (4, 13)) 28 rfl rfl) (by decide) (hl.R 8 rfl)) ?_
            refine Q.run zm63 1 (i' := 47) (ls' := [some (.ref 106), some (.ref b1), some (.int x2)]) (st' := [.ref 106, .ref 79, .ref 106]) rfl ?_
            refine Q.map (A.gf (gI_of zm63 (e := (91, 3, .getfield 61, [4, 7])) rfl) (hl.lt (a := 106) (by decide)) (hl.T (a := 106) (p := (4, 13)) 28 rfl rfl) (by decide) rfl) ?_
            obtain ⟨r24, hc23, h⟩ := bu_so h
            have hq22 : Q 1 sio tt cc d 34 0 [some (.ref 79), some (.int (sI s 106 7))] [] s (.inl (some (.int r24)), s) := dt34 (by omega) hl (hl.Kd (a := 79) (c := 1) (n := 2) 1 rfl rfl (by decide)) hc23
            refine Q.callI (gC_vi zm63 (show zM63.2.2.2.2.2[48]? = some (94, 3, .invokevirtual 78, [0, 34, 1, 1]) from rfl) zm34 (hl.lt (a := 79) (by decide)) (hl.T (a := 79) (p := (1, 2)) 1 rfl rfl) rfl (show aCr 1 79 [.int (sI s 106 7), .ref 79, .ref 106] 2 = some ([some (.ref 79), some (.int (sI s 106 7))], [.ref 106]) from rfl)) hq22 ?_
            obtain ⟨s27, hc26, h⟩ := bu_so h
            have hq25 : Q 1 sio tt cc d 68 0 [some (.ref 106), some (.int r24)] [] s (.inl none, s27) := dt68 (by omega) hl  hc26
            refine Q.callV (gC_vi zm63 (show zM63.2.2.2.2.2[49]? = some (97, 3, .invokevirtual 81, [0, 68, 1, 4]) from rfl) zm68 (hl.lt (a := 106) (by decide)) (hl.T (a := 106) (p := (4, 13)) 28 rfl rfl) rfl (show aCr 1 106 [.int r24, .ref 106] 2 = some ([some (.ref 106), some (.int r24)], []) from rfl)) hq25 ?_
            refine Q.run zm63 1 (i' := 72) (ls' := [some (.ref 106), some (.ref b1), some (.int x2)]) (st' := []) rfl ?_
            exact dt63_72 hd ih hq25.1  h
        · rw [if_neg hc6] at h
          refine Q.map (A.bT (gI_of zm63 (e := (74, 3, .if_icmp .ne 92, [80])) rfl) (decide_eq_true hc6)) ?_
          exact dt63_80 hd hl  h
def dm63 (b1 : Nat) (s : aS) : Option (Int32 × aS) :=
  nx (wR s 106 6 (.ref b1)) fun s1 =>
  vN (sR s1 106 6) (
    none
  ) fun b6 =>
    if aK s1 b6 3 then
      bu (dm64 b6 s1) fun s10 =>
      bu (dm65 0 s10) fun s15 =>
      bu (dm66 s15) fun s20 =>
      nx (wI s20 106 7 0) fun s23 =>
      nx (wI s23 106 8 (-1)) fun s28 =>
      nx (wI s28 106 9 1) fun s33 =>
      bu (dm67 s33) fun s40 =>
      dm63_26 5000 0 s40
    else none
set_option maxRecDepth 100000 in
theorem dt63 {sio : Bool} {tt : Nat} {cc : Nat → Nat → Int32} {d : Nat} (hd : 9 ≤ d) {b1 : Nat} {s : aS} (hl : Ly tt cc s) (hk_b1 : aK s b1 3) {o : Int32 × aS} (h : dm63  b1 s = some o) : Q 1 sio tt cc d 63 0 [some (.ref 106), some (.ref b1), none] [] s (.inl (some (.int o.1)), o.2) := by
  unfold dm63 at h
  obtain ⟨d, rfl⟩ : ∃ e, d = e + 1 := ⟨d - 1, by omega⟩
  refine Q.run zm63 2 (i' := 2) (ls' := [some (.ref 106), some (.ref b1), none]) (st' := [.ref b1, .ref 106]) rfl ?_
  obtain ⟨s1, hs2, h⟩ := nx_so h
  refine Q.pr hs2 rfl (gI_of zm63 (e := (2, 3, .putfield 48, [4, 6, 2])) rfl) (hl.lt (a := 106) (by decide)) (by decide) (hl.T (a := 106) (p := (4, 13)) 28 rfl rfl) (by decide) rfl rfl ?_
  have hl3 : Ly tt cc s1 := by rw [hs2]; exact hl.wRd (hl.T (a := 106) (p := (4, 13)) 28 rfl rfl) (by decide) (by decide)
  have hr4 : aK s1 b1 3 := by rw [hs2]; exact hk_b1
  refine Q.run zm63 1 (i' := 4) (ls' := [some (.ref 106), some (.ref b1), none]) (st' := [.ref 106]) rfl ?_
  rcases vN_so h with ⟨hv5, h⟩ | ⟨b6, hv5, h⟩
  · refine Q.map (A.gf (gI_of zm63 (e := (6, 3, .getfield 48, [4, 6])) rfl) (hl3.lt (a := 106) (by decide)) (hl3.T (a := 106) (p := (4, 13)) 28 rfl rfl) (by decide) hv5) ?_
    cases h
  · obtain ⟨hr7, h⟩ := ite_so h
    refine Q.map (A.gf (gI_of zm63 (e := (6, 3, .getfield 48, [4, 6])) rfl) (hl3.lt (a := 106) (by decide)) (hl3.T (a := 106) (p := (4, 13)) 28 rfl rfl) (by decide) hv5) ?_
    obtain ⟨s10, hc9, h⟩ := bu_so h
    have hq8 : Q 1 sio tt cc d 64 0 [some (.ref b6)] [] s1 (.inl none, s10) := dt64 (by omega) hl3 hr7 hc9
    refine Q.callV (gC_vi zm63 (show zM63.2.2.2.2.2[5]? = some (9, 3, .invokevirtual 52, [0, 64, 0, 3]) from rfl) zm64 hr7.1 (hl3.tr hr7).1 rfl (show aCr 0 b6 [.ref b6] 1 = some ([some (.ref b6)], []) from rfl)) hq8 ?_
    have hr11 : aK s10 b1 3 := hq8.2.1.k hr4
    have hr12 : aK s10 b6 3 := hq8.2.1.k hr7
    refine Q.run zm63 1 (i' := 7) (ls' := [some (.ref 106), some (.ref b1), none]) (st' := [.ref 106]) rfl ?_
    refine Q.map (A.gf (gI_of zm63 (e := (13, 3, .getfield 30, [4, 4])) rfl) (hq8.1.lt (a := 106) (by decide)) (hq8.1.T (a := 106) (p := (4, 13)) 28 rfl rfl) (by decide) (hq8.1.R 12 rfl)) ?_
    refine Q.run zm63 1 (i' := 9) (ls' := [some (.ref 106), some (.ref b1), none]) (st' := [.int 0, .ref 110]) rfl ?_
    obtain ⟨s15, hc14, h⟩ := bu_so h
    have hq13 : Q 1 sio tt cc d 65 0 [some (.ref 110), some (.int 0)] [] s10 (.inl none, s15) := dt65 (by omega) hq8.1  hc14
    refine Q.callV (gC_vi zm63 (show zM63.2.2.2.2.2[9]? = some (17, 3, .invokevirtual 57, [0, 65, 1, 6]) from rfl) zm65 (hq8.1.lt (a := 110) (by decide)) (hq8.1.T (a := 110) (p := (6, 3)) 32 rfl rfl) rfl (show aCr 1 110 [.int 0, .ref 110] 2 = some ([some (.ref 110), some (.int 0)], []) from rfl)) hq13 ?_
    have hr16 : aK s15 b1 3 := hq13.2.1.k hr11
    have hr17 : aK s15 b6 3 := hq13.2.1.k hr12
    refine Q.run zm63 1 (i' := 11) (ls' := [some (.ref 106), some (.ref b1), none]) (st' := [.ref 106]) rfl ?_
    refine Q.map (A.gf (gI_of zm63 (e := (21, 3, .getfield 37, [4, 5])) rfl) (hq13.1.lt (a := 106) (by decide)) (hq13.1.T (a := 106) (p := (4, 13)) 28 rfl rfl) (by decide) (hq13.1.R 13 rfl)) ?_
    obtain ⟨s20, hc19, h⟩ := bu_so h
    have hq18 : Q 1 sio tt cc d 66 0 [some (.ref 113)] [] s15 (.inl none, s20) := dt66 (by omega) hq13.1  hc19
    refine Q.callV (gC_vi zm63 (show zM63.2.2.2.2.2[12]? = some (24, 3, .invokevirtual 60, [0, 66, 0, 7]) from rfl) zm66 (hq13.1.lt (a := 113) (by decide)) (hq13.1.T (a := 113) (p := (7, 4)) 35 rfl rfl) rfl (show aCr 0 113 [.ref 113] 1 = some ([some (.ref 113)], []) from rfl)) hq18 ?_
    have hr21 : aK s20 b1 3 := hq18.2.1.k hr16
    have hr22 : aK s20 b6 3 := hq18.2.1.k hr17
    refine Q.run zm63 2 (i' := 15) (ls' := [some (.ref 106), some (.ref b1), none]) (st' := [.int 0, .ref 106]) rfl ?_
    obtain ⟨s23, hs24, h⟩ := nx_so h
    refine Q.pf hs24 rfl (gI_of zm63 (e := (29, 3, .putfield 61, [4, 7, 0])) rfl) (hq18.1.lt (a := 106) (by decide)) (by decide) (hq18.1.T (a := 106) (p := (4, 13)) 28 rfl rfl) (by decide) rfl rfl ?_
    have hl25 : Ly tt cc s23 := by rw [hs24]; exact hq18.1.wId (by decide)
    have hr26 : aK s23 b1 3 := by rw [hs24]; exact hr21
    have hr27 : aK s23 b6 3 := by rw [hs24]; exact hr22
    refine Q.run zm63 2 (i' := 18) (ls' := [some (.ref 106), some (.ref b1), none]) (st' := [.int (-1), .ref 106]) rfl ?_
    obtain ⟨s28, hs29, h⟩ := nx_so h
    refine Q.pf hs29 rfl (gI_of zm63 (e := (34, 3, .putfield 65, [4, 8, 0])) rfl) (hl25.lt (a := 106) (by decide)) (by decide) (hl25.T (a := 106) (p := (4, 13)) 28 rfl rfl) (by decide) rfl rfl ?_
    have hl30 : Ly tt cc s28 := by rw [hs29]; exact hl25.wId (by decide)
    have hr31 : aK s28 b1 3 := by rw [hs29]; exact hr26
    have hr32 : aK s28 b6 3 := by rw [hs29]; exact hr27
    refine Q.run zm63 2 (i' := 21) (ls' := [some (.ref 106), some (.ref b1), none]) (st' := [.int 1, .ref 106]) rfl ?_
    obtain ⟨s33, hs34, h⟩ := nx_so h
    refine Q.pf hs34 rfl (gI_of zm63 (e := (39, 3, .putfield 68, [4, 9, 0])) rfl) (hl30.lt (a := 106) (by decide)) (by decide) (hl30.T (a := 106) (p := (4, 13)) 28 rfl rfl) (by decide) rfl rfl ?_
    have hl35 : Ly tt cc s33 := by rw [hs34]; exact hl30.wId (by decide)
    have hr36 : aK s33 b1 3 := by rw [hs34]; exact hr31
    have hr37 : aK s33 b6 3 := by rw [hs34]; exact hr32
    refine Q.run zm63 1 (i' := 23) (ls' := [some (.ref 106), some (.ref b1), none]) (st' := [.ref 106]) rfl ?_
    obtain ⟨s40, hc39, h⟩ := bu_so h
    have hq38 : Q 1 sio tt cc d 67 0 [some (.ref 106)] [] s33 (.inl none, s40) := dt67 (by omega) hl35  hc39
    refine Q.callV (gC_vi zm63 (show zM63.2.2.2.2.2[23]? = some (43, 3, .invokevirtual 71, [0, 67, 0, 4]) from rfl) zm67 (hl35.lt (a := 106) (by decide)) (hl35.T (a := 106) (p := (4, 13)) 28 rfl rfl) rfl (show aCr 0 106 [.ref 106] 1 = some ([some (.ref 106)], []) from rfl)) hq38 ?_
    have hr41 : aK s40 b1 3 := hq38.2.1.k hr36
    have hr42 : aK s40 b6 3 := hq38.2.1.k hr37
    refine Q.run zm63 2 (i' := 26) (ls' := [some (.ref 106), some (.ref b1), some (.int 0)]) (st' := []) rfl ?_
    exact dt63_26 hd _ hq38.1  h
end
section
/-! 62 FormulaTrees.read(II)I -/
set_option maxRecDepth 100000 in
theorem zm62 : zP[62]? = some zM62 := rfl
def dm62_46 (x3 : Int32) (c1 : Nat) (s : aS) : Option (xZ × aS) :=
  nx (wR s 78 6 (.ref c1)) fun s1 =>
  some (.inl (some (.int x3)), s1)
set_option maxRecDepth 100000 in
theorem dt62_46 {sio : Bool} {tt : Nat} {cc : Nat → Nat → Int32} {d : Nat} (hd : 10 ≤ d) {x3 : Int32} {c1 : Nat} {x1 : Int32} {x2 : Int32} {g4 : Option Value} {s : aS} (hl : Ly tt cc s) (hk_c1 : aK s c1 3) {o : xZ × aS} (h : dm62_46  x3 c1 s = some o) : Q 1 sio tt cc d 62 46 [some (.ref 78), some (.int x1), some (.int x2), some (.int x3), g4] [.ref c1, .ref 78] s o := by
  unfold dm62_46 at h
  obtain ⟨d, rfl⟩ : ∃ e, d = e + 1 := ⟨d - 1, by omega⟩
  obtain ⟨s1, hs2, h⟩ := nx_so h
  refine Q.pr hs2 rfl (gI_of zm62 (e := (88, 3, .putfield 36, [0, 6, 2])) rfl) (hl.lt (a := 78) (by decide)) (by decide) (hl.T (a := 78) (p := (0, 7)) 0 rfl rfl) (by decide) rfl rfl ?_
  have hl3 : Ly tt cc s1 := by rw [hs2]; exact hl.wRd (hl.T (a := 78) (p := (0, 7)) 0 rfl rfl) (by decide) (by decide)
  have hr4 : aK s1 c1 3 := by rw [hs2]; exact hk_c1
  refine Q.run zm62 1 (i' := 48) (ls' := [some (.ref 78), some (.int x1), some (.int x2), some (.int x3), g4]) (st' := [.int x3]) rfl ?_
  cases h
  exact Q.ret (A.ri zm62 (show zM62.2.2.2.2.2[48]? = some (92, 1, .ireturn, []) from rfl) rfl rfl) hl3
def dm62_8 (s : aS) : Option (xZ × aS) :=
  some (.inr 2, nw s 82 0)
set_option maxRecDepth 100000 in
theorem dt62_8 {sio : Bool} {tt : Nat} {cc : Nat → Nat → Int32} {d : Nat} (hd : 10 ≤ d) {x1 : Int32} {x2 : Int32} {s : aS} (hl : Ly tt cc s) {o : xZ × aS} (h : dm62_8  s = some o) : Q 1 sio tt cc d 62 8 [some (.ref 78), some (.int x1), some (.int x2), none, none] [] s o := by
  unfold dm62_8 at h
  obtain ⟨d, rfl⟩ : ∃ e, d = e + 1 := ⟨d - 1, by omega⟩
  cases h
  exact Q.t zm62 (show zM62.2.2.2.2.2[8]? = some (18, 3, .new 100, [202]) from rfl) rfl rfl hl.gL (by omega) hl
def dm62 (x1 : Int32) (x2 : Int32) (s : aS) : Option (xZ × aS) :=
  bu (dm55 x1) fun r3 =>
  if r3 = 0 then
    dm62_8 s
  else
    bu (dm40 x2 s) fun r7 =>
    if r7 = 0 then
      dm62_8 s
    else
      vN (sR s 78 6) (
        none
      ) fun b10 =>
        if aK s b10 3 then
          bv (dm63 b10 s) fun r15 s14 =>
          if r15 = (-1) then
            if aB x1 8 then
              vN (sR s14 100 (jN x1)) (
                vN (sR s14 78 6) (
                  none
                ) fun b23 =>
                  if aK s14 b23 3 then
                    if aB x1 8 then
                      nx (wR s14 100 (jN x1) (.ref b23)) fun s26 =>
                      if aB x1 8 then
                        nx (wI s26 101 (jN x1) x2) fun s32 =>
                        nx (nTree s32) fun s37 => nx (sL s32) fun b40 =>
                        dm62_46 r15 b40 s37
                      else none
                    else none
                  else none
              ) fun b20 =>
                if aK s14 b20 3 then
                  vN (sR s14 78 6) (
                    none
                  ) fun b47 =>
                    if aK s14 b47 3 then
                      if aB x1 8 then
                        nx (wR s14 100 (jN x1) (.ref b47)) fun s50 =>
                        if aB x1 8 then
                          nx (wI s50 101 (jN x1) x2) fun s57 =>
                          dm62_46 r15 b20 s57
                        else none
                      else none
                    else none
                else none
            else none
          else
            some (.inl (some (.int r15)), s14)
        else none
set_option maxRecDepth 100000 in
theorem dt62 {sio : Bool} {tt : Nat} {cc : Nat → Nat → Int32} {d : Nat} (hd : 10 ≤ d) {x1 : Int32} {x2 : Int32} {s : aS} (hl : Ly tt cc s) {o : xZ × aS} (h : dm62  x1 x2 s = some o) : Q 1 sio tt cc d 62 0 [some (.ref 78), some (.int x1), some (.int x2), none, none] [] s o := by
  unfold dm62 at h
  obtain ⟨d, rfl⟩ : ∃ e, d = e + 1 := ⟨d - 1, by omega⟩
  refine Q.run zm62 1 (i' := 1) (ls' := [some (.ref 78), some (.int x1), some (.int x2), none, none]) (st' := [.int x1]) rfl ?_
  obtain ⟨r3, hc2, h⟩ := bu_so h
  have hq1 : Q 1 sio tt cc d 55 0 [some (.int x1)] [] s (.inl (some (.int r3)), s) := dt55 (by omega) hl  hc2
  refine Q.callI (gC_st zm62 (show zM62.2.2.2.2.2[1]? = some (1, 3, .invokestatic 125, [0, 55, 1]) from rfl) zm55 (show aC 1 [.int x1] 1 = some ([some (.int x1)], []) from rfl)) hq1 ?_
  by_cases hc4 : r3 = 0
  · rw [if_pos hc4] at h
    refine Q.map (A.zT (gI_of zm62 (e := (4, 3, .ifCond .eq 14, [8])) rfl) (decide_eq_true hc4)) ?_
    exact dt62_8 hd hl  h
  · rw [if_neg hc4] at h
    refine Q.map (A.zF (gI_of zm62 (e := (4, 3, .ifCond .eq 14, [8])) rfl) (fun q => hc4 (of_decide_eq_true q))) ?_
    refine Q.run zm62 1 (i' := 4) (ls' := [some (.ref 78), some (.int x1), some (.int x2), none, none]) (st' := [.ref 78]) rfl ?_
    refine Q.map (A.gf (gI_of zm62 (e := (8, 3, .getfield 21, [0, 1])) rfl) (hl.lt (a := 78) (by decide)) (hl.T (a := 78) (p := (0, 7)) 0 rfl rfl) (by decide) (hl.R 1 rfl)) ?_
    refine Q.run zm62 1 (i' := 6) (ls' := [some (.ref 78), some (.int x1), some (.int x2), none, none]) (st' := [.int x2, .ref 81]) rfl ?_
    obtain ⟨r7, hc6, h⟩ := bu_so h
    have hq5 : Q 1 sio tt cc d 40 0 [some (.ref 81), some (.int x2)] [] s (.inl (some (.int r7)), s) := dt40 (by omega) hl  hc6
    refine Q.callI (gC_vi zm62 (show zM62.2.2.2.2.2[6]? = some (12, 3, .invokevirtual 96, [0, 40, 1, 2]) from rfl) zm40 (hl.lt (a := 81) (by decide)) (hl.T (a := 81) (p := (2, 3)) 3 rfl rfl) rfl (show aCr 1 81 [.int x2, .ref 81] 2 = some ([some (.ref 81), some (.int x2)], []) from rfl)) hq5 ?_
    by_cases hc8 : r7 = 0
    · rw [if_pos hc8] at h
      refine Q.map (A.zF (gI_of zm62 (e := (15, 3, .ifCond .ne 13, [13])) rfl) (fun q => of_decide_eq_true q hc8)) ?_
      exact dt62_8 hd hl  h
    · rw [if_neg hc8] at h
      refine Q.map (A.zT (gI_of zm62 (e := (15, 3, .ifCond .ne 13, [13])) rfl) (decide_eq_true hc8)) ?_
      refine Q.run zm62 1 (i' := 14) (ls' := [some (.ref 78), some (.int x1), some (.int x2), none, none]) (st' := [.ref 78]) rfl ?_
      refine Q.map (A.gf (gI_of zm62 (e := (29, 3, .getfield 45, [0, 4])) rfl) (hl.lt (a := 78) (by decide)) (hl.T (a := 78) (p := (0, 7)) 0 rfl rfl) (by decide) (hl.R 4 rfl)) ?_
      refine Q.run zm62 1 (i' := 16) (ls' := [some (.ref 78), some (.int x1), some (.int x2), none, none]) (st' := [.ref 78, .ref 106]) rfl ?_
      rcases vN_so h with ⟨hv9, h⟩ | ⟨b10, hv9, h⟩
      · refine Q.map (A.gf (gI_of zm62 (e := (33, 3, .getfield 36, [0, 6])) rfl) (hl.lt (a := 78) (by decide)) (hl.T (a := 78) (p := (0, 7)) 0 rfl rfl) (by decide) hv9) ?_
        cases h
      · obtain ⟨hr11, h⟩ := ite_so h
        refine Q.map (A.gf (gI_of zm62 (e := (33, 3, .getfield 36, [0, 6])) rfl) (hl.lt (a := 78) (by decide)) (hl.T (a := 78) (p := (0, 7)) 0 rfl rfl) (by decide) hv9) ?_
        obtain ⟨r15, s14, hc13, h⟩ := bv_so h
        have hq12 : Q 1 sio tt cc d 63 0 [some (.ref 106), some (.ref b10), none] [] s (.inl (some (.int r15)), s14) := dt63 (by omega) hl hr11 hc13
        refine Q.callI (gC_vi zm62 (show zM62.2.2.2.2.2[17]? = some (36, 3, .invokevirtual 130, [0, 63, 1, 4]) from rfl) zm63 (hl.lt (a := 106) (by decide)) (hl.T (a := 106) (p := (4, 13)) 28 rfl rfl) rfl (show aCr 1 106 [.ref b10, .ref 106] 3 = some ([some (.ref 106), some (.ref b10), none], []) from rfl)) hq12 ?_
        have hr16 : aK s14 b10 3 := hq12.2.1.k hr11
        refine Q.run zm62 3 (i' := 21) (ls' := [some (.ref 78), some (.int x1), some (.int x2), some (.int r15), none]) (st' := [.int (-1), .int r15]) rfl ?_
        by_cases hc17 : r15 = (-1)
        · rw [if_pos hc17] at h
          refine Q.map (A.bF (gI_of zm62 (e := (42, 3, .if_icmp .ne 49, [47])) rfl) (fun q => of_decide_eq_true q hc17)) ?_
          refine Q.run zm62 1 (i' := 23) (ls' := [some (.ref 78), some (.int x1), some (.int x2), some (.int r15), none]) (st' := [.ref 78]) rfl ?_
          refine Q.map (A.gf (gI_of zm62 (e := (46, 3, .getfield 27, [0, 2])) rfl) (hq12.1.lt (a := 78) (by decide)) (hq12.1.T (a := 78) (p := (0, 7)) 0 rfl rfl) (by decide) (hq12.1.R 2 rfl)) ?_
          refine Q.run zm62 1 (i' := 25) (ls' := [some (.ref 78), some (.int x1), some (.int x2), some (.int r15), none]) (st' := [.int x1, .ref 100]) rfl ?_
          obtain ⟨hc18, h⟩ := ite_so h
          rcases vN_so h with ⟨hv19, h⟩ | ⟨b20, hv19, h⟩
          · refine Q.map (A.aa (gI_of zm62 (e := (50, 1, .aaload, [])) rfl) (hq12.1.lt (a := 100) (by decide)) (hq12.1.T (a := 100) (p := (113, 8)) 22 rfl rfl) (by decide) hc18 hv19) ?_
            refine Q.run zm62 2 (i' := 28) (ls' := [some (.ref 78), some (.int x1), some (.int x2), some (.int r15), some (.null)]) (st' := [.ref 78]) rfl ?_
            refine Q.map (A.gf (gI_of zm62 (e := (54, 3, .getfield 27, [0, 2])) rfl) (hq12.1.lt (a := 78) (by decide)) (hq12.1.T (a := 78) (p := (0, 7)) 0 rfl rfl) (by decide) (hq12.1.R 2 rfl)) ?_
            refine Q.run zm62 2 (i' := 31) (ls' := [some (.ref 78), some (.int x1), some (.int x2), some (.int r15), some (.null)]) (st' := [.ref 78, .int x1, .ref 100]) rfl ?_
            rcases vN_so h with ⟨hv22, h⟩ | ⟨b23, hv22, h⟩
            · refine Q.map (A.gf (gI_of zm62 (e := (59, 3, .getfield 36, [0, 6])) rfl) (hq12.1.lt (a := 78) (by decide)) (hq12.1.T (a := 78) (p := (0, 7)) 0 rfl rfl) (by decide) hv22) ?_
              cases h
            · obtain ⟨hr24, h⟩ := ite_so h
              refine Q.map (A.gf (gI_of zm62 (e := (59, 3, .getfield 36, [0, 6])) rfl) (hq12.1.lt (a := 78) (by decide)) (hq12.1.T (a := 78) (p := (0, 7)) 0 rfl rfl) (by decide) hv22) ?_
              obtain ⟨hc25, h⟩ := ite_so h
              obtain ⟨s26, hs27, h⟩ := nx_so h
              refine Q.as hs27 rfl (gI_of zm62 (e := (62, 1, .aastore, [3])) rfl) (hq12.1.lt (a := 100) (by decide)) (by decide) (by decide) (hq12.1.T (a := 100) (p := (113, 8)) 22 rfl rfl) hr24.1 (hq12.1.tr hr24).1 hc25 ?_
              have hl28 : Ly tt cc s26 := by rw [hs27]; exact hq12.1.wRd (hq12.1.T (a := 100) (p := (113, 8)) 22 rfl rfl) (by decide) (lay_noR _)
              have hr29 : aK s26 b10 3 := by rw [hs27]; exact hr16
              have hr30 : aK s26 b23 3 := by rw [hs27]; exact hr24
              refine Q.run zm62 1 (i' := 34) (ls' := [some (.ref 78), some (.int x1), some (.int x2), some (.int r15), some (.null)]) (st' := [.ref 78]) rfl ?_
              refine Q.map (A.gf (gI_of zm62 (e := (64, 3, .getfield 31, [0, 3])) rfl) (hl28.lt (a := 78) (by decide)) (hl28.T (a := 78) (p := (0, 7)) 0 rfl rfl) (by decide) (hl28.R 3 rfl)) ?_
              refine Q.run zm62 2 (i' := 37) (ls' := [some (.ref 78), some (.int x1), some (.int x2), some (.int r15), some (.null)]) (st' := [.int x2, .int x1, .ref 101]) rfl ?_
              obtain ⟨hc31, h⟩ := ite_so h
              obtain ⟨s32, hs33, h⟩ := nx_so h
              refine Q.is hs33 rfl (gI_of zm62 (e := (69, 1, .iastore, [])) rfl) (hl28.lt (a := 101) (by decide)) (by decide) (hl28.T (a := 101) (p := (100, 8)) 23 rfl rfl) hc31 ?_
              have hl34 : Ly tt cc s32 := by rw [hs33]; exact hl28.wId (by decide)
              have hr35 : aK s32 b10 3 := by rw [hs33]; exact hr29
              have hr36 : aK s32 b23 3 := by rw [hs33]; exact hr30
              refine Q.run zm62 3 (i' := 41) (ls' := [some (.ref 78), some (.int x1), some (.int x2), some (.int r15), some (.null)]) (st' := [.ref 78]) rfl ?_
              obtain ⟨s37, hs38, h⟩ := nx_so h
              obtain ⟨b40, hb41, h⟩ := nx_so h
              have hq42 := lay_tree hl34.gL hl34
              refine Q.tree hs38 hl34.gL hb41 zm62 (gI_of zm62 (e := (76, 3, .new 25, [3, 2, 2, 0])) rfl) (gI_of zm62 (e := (79, 1, .dup, [])) rfl) (show zM62.2.2.2.2.2[43]? = some (80, 3, .invokespecial 35, [0, 19, 0]) from rfl) (eq_true (show 2 ≤ 8 by decide)) (by omega) hl34 ?_
              have hl39 : Ly tt cc s37 := by rw [hs38]; exact hq42.1
              have hr43 : aK s37 b10 3 := by rw [hs38]; exact hq42.2.1.k hr35
              have hr44 : aK s37 b23 3 := by rw [hs38]; exact hq42.2.1.k hr36
              have hr45 : aK s37 b40 3 := by rw [hs38, hb41]; exact hq42.2.2
              refine Q.run zm62 1 (i' := 46) (ls' := [some (.ref 78), some (.int x1), some (.int x2), some (.int r15), some (.null)]) (st' := [.ref b40, .ref 78]) rfl ?_
              exact dt62_46 hd hl39 hr45 h
          · obtain ⟨hr21, h⟩ := ite_so h
            refine Q.map (A.aa (gI_of zm62 (e := (50, 1, .aaload, [])) rfl) (hq12.1.lt (a := 100) (by decide)) (hq12.1.T (a := 100) (p := (113, 8)) 22 rfl rfl) (by decide) hc18 hv19) ?_
            refine Q.run zm62 2 (i' := 28) (ls' := [some (.ref 78), some (.int x1), some (.int x2), some (.int r15), some (.ref b20)]) (st' := [.ref 78]) rfl ?_
            refine Q.map (A.gf (gI_of zm62 (e := (54, 3, .getfield 27, [0, 2])) rfl) (hq12.1.lt (a := 78) (by decide)) (hq12.1.T (a := 78) (p := (0, 7)) 0 rfl rfl) (by decide) (hq12.1.R 2 rfl)) ?_
            refine Q.run zm62 2 (i' := 31) (ls' := [some (.ref 78), some (.int x1), some (.int x2), some (.int r15), some (.ref b20)]) (st' := [.ref 78, .int x1, .ref 100]) rfl ?_
            rcases vN_so h with ⟨hv46, h⟩ | ⟨b47, hv46, h⟩
            · refine Q.map (A.gf (gI_of zm62 (e := (59, 3, .getfield 36, [0, 6])) rfl) (hq12.1.lt (a := 78) (by decide)) (hq12.1.T (a := 78) (p := (0, 7)) 0 rfl rfl) (by decide) hv46) ?_
              cases h
            · obtain ⟨hr48, h⟩ := ite_so h
              refine Q.map (A.gf (gI_of zm62 (e := (59, 3, .getfield 36, [0, 6])) rfl) (hq12.1.lt (a := 78) (by decide)) (hq12.1.T (a := 78) (p := (0, 7)) 0 rfl rfl) (by decide) hv46) ?_
              obtain ⟨hc49, h⟩ := ite_so h
              obtain ⟨s50, hs51, h⟩ := nx_so h
              refine Q.as hs51 rfl (gI_of zm62 (e := (62, 1, .aastore, [3])) rfl) (hq12.1.lt (a := 100) (by decide)) (by decide) (by decide) (hq12.1.T (a := 100) (p := (113, 8)) 22 rfl rfl) hr48.1 (hq12.1.tr hr48).1 hc49 ?_
              have hl52 : Ly tt cc s50 := by rw [hs51]; exact hq12.1.wRd (hq12.1.T (a := 100) (p := (113, 8)) 22 rfl rfl) (by decide) (lay_noR _)
              have hr53 : aK s50 b10 3 := by rw [hs51]; exact hr16
              have hr54 : aK s50 b20 3 := by rw [hs51]; exact hr21
              have hr55 : aK s50 b47 3 := by rw [hs51]; exact hr48
              refine Q.run zm62 1 (i' := 34) (ls' := [some (.ref 78), some (.int x1), some (.int x2), some (.int r15), some (.ref b20)]) (st' := [.ref 78]) rfl ?_
              refine Q.map (A.gf (gI_of zm62 (e := (64, 3, .getfield 31, [0, 3])) rfl) (hl52.lt (a := 78) (by decide)) (hl52.T (a := 78) (p := (0, 7)) 0 rfl rfl) (by decide) (hl52.R 3 rfl)) ?_
              refine Q.run zm62 2 (i' := 37) (ls' := [some (.ref 78), some (.int x1), some (.int x2), some (.int r15), some (.ref b20)]) (st' := [.int x2, .int x1, .ref 101]) rfl ?_
              obtain ⟨hc56, h⟩ := ite_so h
              obtain ⟨s57, hs58, h⟩ := nx_so h
              refine Q.is hs58 rfl (gI_of zm62 (e := (69, 1, .iastore, [])) rfl) (hl52.lt (a := 101) (by decide)) (by decide) (hl52.T (a := 101) (p := (100, 8)) 23 rfl rfl) hc56 ?_
              have hl59 : Ly tt cc s57 := by rw [hs58]; exact hl52.wId (by decide)
              have hr60 : aK s57 b10 3 := by rw [hs58]; exact hr53
              have hr61 : aK s57 b20 3 := by rw [hs58]; exact hr54
              have hr62 : aK s57 b47 3 := by rw [hs58]; exact hr55
              refine Q.run zm62 4 (i' := 46) (ls' := [some (.ref 78), some (.int x1), some (.int x2), some (.int r15), some (.ref b20)]) (st' := [.ref b20, .ref 78]) rfl ?_
              exact dt62_46 hd hl59 hr61 h
        · rw [if_neg hc17] at h
          refine Q.map (A.bT (gI_of zm62 (e := (42, 3, .if_icmp .ne 49, [47])) rfl) (decide_eq_true hc17)) ?_
          refine Q.run zm62 1 (i' := 48) (ls' := [some (.ref 78), some (.int x1), some (.int x2), some (.int r15), none]) (st' := [.int r15]) rfl ?_
          cases h
          exact Q.ret (A.ri zm62 (show zM62.2.2.2.2.2[48]? = some (92, 1, .ireturn, []) from rfl) rfl rfl) hq12.1
/-! 5 FormulaTreesLaw.read(LFormulaTrees;II[J)I -/
set_option maxRecDepth 100000 in
theorem zm5 : zP[5]? = some zM5 := rfl
def dm5 (x1 : Int32) (x2 : Int32) (s : aS) : Option (Int32 × aS) :=
  bv (dm62 x1 x2 s) fun z4 s3 =>
  zN z4 (fun v5 =>
    vI v5 fun r7 =>
    if aB 0 1 then
      nx (wJ s3 148 (jN 0) r7.toInt64) fun s10 =>
      some (0, s10)
    else none
  ) fun e6 =>
    if e6 = 2 then
      some (1, s3)
    else
      none
set_option maxRecDepth 100000 in
theorem dt5 {sio : Bool} {tt : Nat} {cc : Nat → Nat → Int32} {d : Nat} (hd : 11 ≤ d) {x1 : Int32} {x2 : Int32} {s : aS} (hl : Ly tt cc s) {o : Int32 × aS} (h : dm5  x1 x2 s = some o) : Q 1 sio tt cc d 5 0 [some (.ref 78), some (.int x1), some (.int x2), some (.ref 148), none] [] s (.inl (some (.int o.1)), o.2) := by
  unfold dm5 at h
  obtain ⟨d, rfl⟩ : ∃ e, d = e + 1 := ⟨d - 1, by omega⟩
  refine Q.run zm5 5 (i' := 5) (ls' := [some (.ref 78), some (.int x1), some (.int x2), some (.ref 148), none]) (st' := [.int x2, .int x1, .ref 78, .int 0, .ref 148]) rfl ?_
  obtain ⟨z4, s3, hc2, h⟩ := bv_so h
  have hq1 : Q 1 sio tt cc d 62 0 [some (.ref 78), some (.int x1), some (.int x2), none, none] [] s (z4, s3) := dt62 (by omega) hl  hc2
  rcases zN_so h with ⟨v5, hz13, h8⟩ | ⟨e6, hz13, h8⟩
  · clear h
    subst hz13
    have h := h8
    obtain ⟨r7, hv8, h9⟩ := vI_so h
    clear h
    subst hv8
    have h := h9
    refine Q.callI (gC_vi zm5 (show zM5.2.2.2.2.2[5]? = some (5, 3, .invokevirtual 30, [0, 62, 2, 0]) from rfl) zm62 (hl.lt (a := 78) (by decide)) (hl.T (a := 78) (p := (0, 7)) 0 rfl rfl) rfl (show aCr 2 78 [.int x2, .int x1, .ref 78, .int 0, .ref 148] 5 = some ([some (.ref 78), some (.int x1), some (.int x2), none, none], [.int 0, .ref 148]) from rfl)) hq1 ?_
    refine Q.run zm5 1 (i' := 7) (ls' := [some (.ref 78), some (.int x1), some (.int x2), some (.ref 148), none]) (st' := [.long r7.toInt64, .int 0, .ref 148]) rfl ?_
    obtain ⟨hc9, h⟩ := ite_so h
    obtain ⟨s10, hs11, h⟩ := nx_so h
    refine Q.lS hs11 rfl (gI_of zm5 (e := (9, 1, .lastore, [])) rfl) (hq1.1.lt (a := 148) (by decide)) (by decide) (hq1.1.T (a := 148) (p := (104, 1)) 70 rfl rfl) hc9 ?_
    have hl12 : Ly tt cc s10 := by rw [hs11]; exact hq1.1.wJd
    refine Q.run zm5 2 (i' := 13) (ls' := [some (.ref 78), some (.int x1), some (.int x2), some (.ref 148), none]) (st' := [.int 0]) rfl ?_
    cases h
    exact Q.ret (A.ri zm5 (show zM5.2.2.2.2.2[13]? = some (18, 1, .ireturn, []) from rfl) rfl rfl) hl12
  · clear h
    subst hz13
    have h := h8
    by_cases hc14 : e6 = 2
    · rw [if_pos hc14] at h
      subst hc14
      refine Q.hc (gC_vi zm5 (show zM5.2.2.2.2.2[5]? = some (5, 3, .invokevirtual 30, [0, 62, 2, 0]) from rfl) zm62 (hl.lt (a := 78) (by decide)) (hl.T (a := 78) (p := (0, 7)) 0 rfl rfl) rfl (show aCr 2 78 [.int x2, .int x1, .ref 78, .int 0, .ref 148] 5 = some ([some (.ref 78), some (.int x1), some (.int x2), none, none], [.int 0, .ref 148]) from rfl)) hq1 (t := 9) rfl ?_
      refine Q.run zm5 2 (i' := 11) (ls' := [some (.ref 78), some (.int x1), some (.int x2), some (.ref 148), some (.ref (sL s3 - 1))]) (st' := [.int 1]) rfl ?_
      cases h
      exact Q.ret (A.ri zm5 (show zM5.2.2.2.2.2[11]? = some (16, 1, .ireturn, []) from rfl) rfl rfl) hq1.1
    · rw [if_neg hc14] at h
      cases h
/-! 186 FormulaTreesModel.fail(I)V -/
set_option maxRecDepth 100000 in
theorem zm186 : zP[186]? = some zM186 := rfl
def dm186 (x1 : Int32) (s : aS) : Option (aS) :=
  nx (wI s 121 27 1) fun s1 =>
  nx (wI s1 121 26 x1) fun s4 =>
  some s4
set_option maxRecDepth 100000 in
theorem dt186 {sio : Bool} {tt : Nat} {cc : Nat → Nat → Int32} {d : Nat} (hd : 0 ≤ d) {x1 : Int32} {s : aS} (hl : Ly tt cc s) {o : aS} (h : dm186  x1 s = some o) : Q 2 sio tt cc d 186 0 [some (.ref 121), some (.int x1)] [] s (.inl none, o) := by
  unfold dm186 at h
  refine Q.run zm186 2 (i' := 2) (ls' := [some (.ref 121), some (.int x1)]) (st' := [.int 1, .ref 121]) rfl ?_
  obtain ⟨s1, hs2, h⟩ := nx_so h
  refine Q.pf hs2 rfl (gI_of zm186 (e := (2, 3, .putfield 134, [9, 27, 1])) rfl) (hl.lt (a := 121) (by decide)) (by decide) (hl.T (a := 121) (p := (9, 45)) 43 rfl rfl) (by decide) rfl rfl ?_
  have hl3 : Ly tt cc s1 := by rw [hs2]; exact hl.wId (by decide)
  refine Q.run zm186 2 (i' := 5) (ls' := [some (.ref 121), some (.int x1)]) (st' := [.int x1, .ref 121]) rfl ?_
  obtain ⟨s4, hs5, h⟩ := nx_so h
  refine Q.pf hs5 rfl (gI_of zm186 (e := (7, 3, .putfield 138, [9, 26, 0])) rfl) (hl3.lt (a := 121) (by decide)) (by decide) (hl3.T (a := 121) (p := (9, 45)) 43 rfl rfl) (by decide) rfl rfl ?_
  have hl6 : Ly tt cc s4 := by rw [hs5]; exact hl3.wId (by decide)
  cases h
  exact Q.ret (A.rv zm186 (show zM186.2.2.2.2.2[6]? = some (10, 1, .return_, []) from rfl) rfl) hl6
/-! 187 FormulaTreesModel.make(I)I -/
set_option maxRecDepth 100000 in
theorem zm187 : zP[187]? = some zM187 := rfl
def dm187 (x1 : Int32) (s : aS) : Option (Int32 × aS) :=
  if aB (1024 + (sI s 121 21)) 1152 then
    nx (wI s 128 (jN (1024 + (sI s 121 21))) x1) fun s2 =>
    if aB (1024 + (sI s 121 21)) 1152 then
      nx (wI s2 129 (jN (1024 + (sI s 121 21))) 0) fun s6 =>
      if aB (1024 + (sI s 121 21)) 1152 then
        nx (wI s6 130 (jN (1024 + (sI s 121 21))) (-1)) fun s10 =>
        if aB (1024 + (sI s 121 21)) 1152 then
          nx (wI s10 131 (jN (1024 + (sI s 121 21))) 0) fun s14 =>
          if aB (1024 + (sI s 121 21)) 1152 then
            nx (wI s14 132 (jN (1024 + (sI s 121 21))) 0) fun s18 =>
            if aB (1024 + (sI s 121 21)) 1152 then
              nx (wI s18 133 (jN (1024 + (sI s 121 21))) 0) fun s22 =>
              if aB (1024 + (sI s 121 21)) 1152 then
                nx (wI s22 134 (jN (1024 + (sI s 121 21))) 0) fun s26 =>
                if aB (1024 + (sI s 121 21)) 1152 then
                  nx (wI s26 135 (jN (1024 + (sI s 121 21))) 0) fun s30 =>
                  if aB (1024 + (sI s 121 21)) 1152 then
                    nx (wI s30 136 (jN (1024 + (sI s 121 21))) 0) fun s34 =>
                    if aB (1024 + (sI s 121 21)) 1152 then
                      nx (wI s34 137 (jN (1024 + (sI s 121 21))) 0) fun s38 =>
                      if aB (1024 + (sI s 121 21)) 1152 then
                        nx (wI s38 138 (jN (1024 + (sI s 121 21))) 0) fun s42 =>
                        if aB (sI s 121 21) 128 then
                          nx (wI s42 140 (jN (sI s 121 21)) (-1)) fun s46 =>
                          if aB (sI s 121 21) 128 then
                            nx (wI s46 141 (jN (sI s 121 21)) (-1)) fun s50 =>
                            if aB (sI s 121 21) 128 then
                              nx (wI s50 142 (jN (sI s 121 21)) (-1)) fun s54 =>
                              nx (wI s54 121 21 ((sI s54 121 21) + 1)) fun s57 =>
                              some (sI s 121 21, s57)
                            else none
                          else none
                        else none
                      else none
                    else none
                  else none
                else none
              else none
            else none
          else none
        else none
      else none
    else none
  else none
set_option maxRecDepth 100000 in
theorem dt187 {sio : Bool} {tt : Nat} {cc : Nat → Nat → Int32} {d : Nat} (hd : 0 ≤ d) {x1 : Int32} {s : aS} (hl : Ly tt cc s) {o : Int32 × aS} (h : dm187  x1 s = some o) : Q 2 sio tt cc d 187 0 [some (.ref 121), some (.int x1), none, none] [] s (.inl (some (.int o.1)), o.2) := by
  unfold dm187 at h
  refine Q.run zm187 1 (i' := 1) (ls' := [some (.ref 121), some (.int x1), none, none]) (st' := [.ref 121]) rfl ?_
  refine Q.map (A.gf (gI_of zm187 (e := (1, 3, .getfield 141, [9, 21])) rfl) (hl.lt (a := 121) (by decide)) (hl.T (a := 121) (p := (9, 45)) 43 rfl rfl) (by decide) rfl) ?_
  refine Q.run zm187 6 (i' := 8) (ls' := [some (.ref 121), some (.int x1), some (.int (sI s 121 21)), some (.int (1024 + (sI s 121 21)))]) (st' := [.ref 121]) rfl ?_
  refine Q.map (A.gf (gI_of zm187 (e := (12, 3, .getfield 29, [9, 9])) rfl) (hl.lt (a := 121) (by decide)) (hl.T (a := 121) (p := (9, 45)) 43 rfl rfl) (by decide) (hl.R 29 rfl)) ?_
  refine Q.run zm187 2 (i' := 11) (ls' := [some (.ref 121), some (.int x1), some (.int (sI s 121 21)), some (.int (1024 + (sI s 121 21)))]) (st' := [.int x1, .int (1024 + (sI s 121 21)), .ref 128]) rfl ?_
  obtain ⟨hc1, h⟩ := ite_so h
  obtain ⟨s2, hs3, h⟩ := nx_so h
  refine Q.is hs3 rfl (gI_of zm187 (e := (17, 1, .iastore, [])) rfl) (hl.lt (a := 128) (by decide)) (by decide) (hl.T (a := 128) (p := (100, 1152)) 50 rfl rfl) hc1 ?_
  have hl4 : Ly tt cc s2 := by rw [hs3]; exact hl.wId (by decide)
  refine Q.run zm187 1 (i' := 13) (ls' := [some (.ref 121), some (.int x1), some (.int (sI s 121 21)), some (.int (1024 + (sI s 121 21)))]) (st' := [.ref 121]) rfl ?_
  refine Q.map (A.gf (gI_of zm187 (e := (19, 3, .getfield 32, [9, 10])) rfl) (hl4.lt (a := 121) (by decide)) (hl4.T (a := 121) (p := (9, 45)) 43 rfl rfl) (by decide) (hl4.R 30 rfl)) ?_
  refine Q.run zm187 2 (i' := 16) (ls' := [some (.ref 121), some (.int x1), some (.int (sI s 121 21)), some (.int (1024 + (sI s 121 21)))]) (st' := [.int 0, .int (1024 + (sI s 121 21)), .ref 129]) rfl ?_
  obtain ⟨hc5, h⟩ := ite_so h
  obtain ⟨s6, hs7, h⟩ := nx_so h
  refine Q.is hs7 rfl (gI_of zm187 (e := (24, 1, .iastore, [])) rfl) (hl4.lt (a := 129) (by decide)) (by decide) (hl4.T (a := 129) (p := (100, 1152)) 51 rfl rfl) hc5 ?_
  have hl8 : Ly tt cc s6 := by rw [hs7]; exact hl4.wId (by decide)
  refine Q.run zm187 1 (i' := 18) (ls' := [some (.ref 121), some (.int x1), some (.int (sI s 121 21)), some (.int (1024 + (sI s 121 21)))]) (st' := [.ref 121]) rfl ?_
  refine Q.map (A.gf (gI_of zm187 (e := (26, 3, .getfield 35, [9, 11])) rfl) (hl8.lt (a := 121) (by decide)) (hl8.T (a := 121) (p := (9, 45)) 43 rfl rfl) (by decide) (hl8.R 31 rfl)) ?_
  refine Q.run zm187 2 (i' := 21) (ls' := [some (.ref 121), some (.int x1), some (.int (sI s 121 21)), some (.int (1024 + (sI s 121 21)))]) (st' := [.int (-1), .int (1024 + (sI s 121 21)), .ref 130]) rfl ?_
  obtain ⟨hc9, h⟩ := ite_so h
  obtain ⟨s10, hs11, h⟩ := nx_so h
  refine Q.is hs11 rfl (gI_of zm187 (e := (31, 1, .iastore, [])) rfl) (hl8.lt (a := 130) (by decide)) (by decide) (hl8.T (a := 130) (p := (100, 1152)) 52 rfl rfl) hc9 ?_
  have hl12 : Ly tt cc s10 := by rw [hs11]; exact hl8.wId (by decide)
  refine Q.run zm187 1 (i' := 23) (ls' := [some (.ref 121), some (.int x1), some (.int (sI s 121 21)), some (.int (1024 + (sI s 121 21)))]) (st' := [.ref 121]) rfl ?_
  refine Q.map (A.gf (gI_of zm187 (e := (33, 3, .getfield 38, [9, 12])) rfl) (hl12.lt (a := 121) (by decide)) (hl12.T (a := 121) (p := (9, 45)) 43 rfl rfl) (by decide) (hl12.R 32 rfl)) ?_
  refine Q.run zm187 2 (i' := 26) (ls' := [some (.ref 121), some (.int x1), some (.int (sI s 121 21)), some (.int (1024 + (sI s 121 21)))]) (st' := [.int 0, .int (1024 + (sI s 121 21)), .ref 131]) rfl ?_
  obtain ⟨hc13, h⟩ := ite_so h
  obtain ⟨s14, hs15, h⟩ := nx_so h
  refine Q.is hs15 rfl (gI_of zm187 (e := (38, 1, .iastore, [])) rfl) (hl12.lt (a := 131) (by decide)) (by decide) (hl12.T (a := 131) (p := (100, 1152)) 53 rfl rfl) hc13 ?_
  have hl16 : Ly tt cc s14 := by rw [hs15]; exact hl12.wId (by decide)
  refine Q.run zm187 1 (i' := 28) (ls' := [some (.ref 121), some (.int x1), some (.int (sI s 121 21)), some (.int (1024 + (sI s 121 21)))]) (st' := [.ref 121]) rfl ?_
  refine Q.map (A.gf (gI_of zm187 (e := (40, 3, .getfield 41, [9, 13])) rfl) (hl16.lt (a := 121) (by decide)) (hl16.T (a := 121) (p := (9, 45)) 43 rfl rfl) (by decide) (hl16.R 33 rfl)) ?_
  refine Q.run zm187 2 (i' := 31) (ls' := [some (.ref 121), some (.int x1), some (.int (sI s 121 21)), some (.int (1024 + (sI s 121 21)))]) (st' := [.int 0, .int (1024 + (sI s 121 21)), .ref 132]) rfl ?_
  obtain ⟨hc17, h⟩ := ite_so h
  obtain ⟨s18, hs19, h⟩ := nx_so h
  refine Q.is hs19 rfl (gI_of zm187 (e := (45, 1, .iastore, [])) rfl) (hl16.lt (a := 132) (by decide)) (by decide) (hl16.T (a := 132) (p := (100, 1152)) 54 rfl rfl) hc17 ?_
  have hl20 : Ly tt cc s18 := by rw [hs19]; exact hl16.wId (by decide)
  refine Q.run zm187 1 (i' := 33) (ls' := [some (.ref 121), some (.int x1), some (.int (sI s 121 21)), some (.int (1024 + (sI s 121 21)))]) (st' := [.ref 121]) rfl ?_
  refine Q.map (A.gf (gI_of zm187 (e := (47, 3, .getfield 44, [9, 14])) rfl) (hl20.lt (a := 121) (by decide)) (hl20.T (a := 121) (p := (9, 45)) 43 rfl rfl) (by decide) (hl20.R 34 rfl)) ?_
  refine Q.run zm187 2 (i' := 36) (ls' := [some (.ref 121), some (.int x1), some (.int (sI s 121 21)), some (.int (1024 + (sI s 121 21)))]) (st' := [.int 0, .int (1024 + (sI s 121 21)), .ref 133]) rfl ?_
  obtain ⟨hc21, h⟩ := ite_so h
  obtain ⟨s22, hs23, h⟩ := nx_so h
  refine Q.is hs23 rfl (gI_of zm187 (e := (52, 1, .iastore, [])) rfl) (hl20.lt (a := 133) (by decide)) (by decide) (hl20.T (a := 133) (p := (100, 1152)) 55 rfl rfl) hc21 ?_
  have hl24 : Ly tt cc s22 := by rw [hs23]; exact hl20.wId (by decide)
  refine Q.run zm187 1 (i' := 38) (ls' := [some (.ref 121), some (.int x1), some (.int (sI s 121 21)), some (.int (1024 + (sI s 121 21)))]) (st' := [.ref 121]) rfl ?_
  refine Q.map (A.gf (gI_of zm187 (e := (54, 3, .getfield 47, [9, 15])) rfl) (hl24.lt (a := 121) (by decide)) (hl24.T (a := 121) (p := (9, 45)) 43 rfl rfl) (by decide) (hl24.R 35 rfl)) ?_
  refine Q.run zm187 2 (i' := 41) (ls' := [some (.ref 121), some (.int x1), some (.int (sI s 121 21)), some (.int (1024 + (sI s 121 21)))]) (st' := [.int 0, .int (1024 + (sI s 121 21)), .ref 134]) rfl ?_
  obtain ⟨hc25, h⟩ := ite_so h
  obtain ⟨s26, hs27, h⟩ := nx_so h
  refine Q.is hs27 rfl (gI_of zm187 (e := (59, 1, .iastore, [])) rfl) (hl24.lt (a := 134) (by decide)) (by decide) (hl24.T (a := 134) (p := (100, 1152)) 56 rfl rfl) hc25 ?_
  have hl28 : Ly tt cc s26 := by rw [hs27]; exact hl24.wId (by decide)
  refine Q.run zm187 1 (i' := 43) (ls' := [some (.ref 121), some (.int x1), some (.int (sI s 121 21)), some (.int (1024 + (sI s 121 21)))]) (st' := [.ref 121]) rfl ?_
  refine Q.map (A.gf (gI_of zm187 (e := (61, 3, .getfield 50, [9, 16])) rfl) (hl28.lt (a := 121) (by decide)) (hl28.T (a := 121) (p := (9, 45)) 43 rfl rfl) (by decide) (hl28.R 36 rfl)) ?_
  refine Q.run zm187 2 (i' := 46) (ls' := [some (.ref 121), some (.int x1), some (.int (sI s 121 21)), some (.int (1024 + (sI s 121 21)))]) (st' := [.int 0, .int (1024 + (sI s 121 21)), .ref 135]) rfl ?_
  obtain ⟨hc29, h⟩ := ite_so h
  obtain ⟨s30, hs31, h⟩ := nx_so h
  refine Q.is hs31 rfl (gI_of zm187 (e := (66, 1, .iastore, [])) rfl) (hl28.lt (a := 135) (by decide)) (by decide) (hl28.T (a := 135) (p := (100, 1152)) 57 rfl rfl) hc29 ?_
  have hl32 : Ly tt cc s30 := by rw [hs31]; exact hl28.wId (by decide)
  refine Q.run zm187 1 (i' := 48) (ls' := [some (.ref 121), some (.int x1), some (.int (sI s 121 21)), some (.int (1024 + (sI s 121 21)))]) (st' := [.ref 121]) rfl ?_
  refine Q.map (A.gf (gI_of zm187 (e := (68, 3, .getfield 53, [9, 17])) rfl) (hl32.lt (a := 121) (by decide)) (hl32.T (a := 121) (p := (9, 45)) 43 rfl rfl) (by decide) (hl32.R 37 rfl)) ?_
  refine Q.run zm187 2 (i' := 51) (ls' := [some (.ref 121), some (.int x1), some (.int (sI s 121 21)), some (.int (1024 + (sI s 121 21)))]) (st' := [.int 0, .int (1024 + (sI s 121 21)), .ref 136]) rfl ?_
  obtain ⟨hc33, h⟩ := ite_so h
  obtain ⟨s34, hs35, h⟩ := nx_so h
  refine Q.is hs35 rfl (gI_of zm187 (e := (73, 1, .iastore, [])) rfl) (hl32.lt (a := 136) (by decide)) (by decide) (hl32.T (a := 136) (p := (100, 1152)) 58 rfl rfl) hc33 ?_
  have hl36 : Ly tt cc s34 := by rw [hs35]; exact hl32.wId (by decide)
  refine Q.run zm187 1 (i' := 53) (ls' := [some (.ref 121), some (.int x1), some (.int (sI s 121 21)), some (.int (1024 + (sI s 121 21)))]) (st' := [.ref 121]) rfl ?_
  refine Q.map (A.gf (gI_of zm187 (e := (75, 3, .getfield 56, [9, 18])) rfl) (hl36.lt (a := 121) (by decide)) (hl36.T (a := 121) (p := (9, 45)) 43 rfl rfl) (by decide) (hl36.R 38 rfl)) ?_
  refine Q.run zm187 2 (i' := 56) (ls' := [some (.ref 121), some (.int x1), some (.int (sI s 121 21)), some (.int (1024 + (sI s 121 21)))]) (st' := [.int 0, .int (1024 + (sI s 121 21)), .ref 137]) rfl ?_
  obtain ⟨hc37, h⟩ := ite_so h
  obtain ⟨s38, hs39, h⟩ := nx_so h
  refine Q.is hs39 rfl (gI_of zm187 (e := (80, 1, .iastore, [])) rfl) (hl36.lt (a := 137) (by decide)) (by decide) (hl36.T (a := 137) (p := (100, 1152)) 59 rfl rfl) hc37 ?_
  have hl40 : Ly tt cc s38 := by rw [hs39]; exact hl36.wId (by decide)
  refine Q.run zm187 1 (i' := 58) (ls' := [some (.ref 121), some (.int x1), some (.int (sI s 121 21)), some (.int (1024 + (sI s 121 21)))]) (st' := [.ref 121]) rfl ?_
  refine Q.map (A.gf (gI_of zm187 (e := (82, 3, .getfield 59, [9, 19])) rfl) (hl40.lt (a := 121) (by decide)) (hl40.T (a := 121) (p := (9, 45)) 43 rfl rfl) (by decide) (hl40.R 39 rfl)) ?_
  refine Q.run zm187 2 (i' := 61) (ls' := [some (.ref 121), some (.int x1), some (.int (sI s 121 21)), some (.int (1024 + (sI s 121 21)))]) (st' := [.int 0, .int (1024 + (sI s 121 21)), .ref 138]) rfl ?_
  obtain ⟨hc41, h⟩ := ite_so h
  obtain ⟨s42, hs43, h⟩ := nx_so h
  refine Q.is hs43 rfl (gI_of zm187 (e := (87, 1, .iastore, [])) rfl) (hl40.lt (a := 138) (by decide)) (by decide) (hl40.T (a := 138) (p := (100, 1152)) 60 rfl rfl) hc41 ?_
  have hl44 : Ly tt cc s42 := by rw [hs43]; exact hl40.wId (by decide)
  refine Q.run zm187 1 (i' := 63) (ls' := [some (.ref 121), some (.int x1), some (.int (sI s 121 21)), some (.int (1024 + (sI s 121 21)))]) (st' := [.ref 121]) rfl ?_
  refine Q.map (A.gf (gI_of zm187 (e := (89, 3, .getfield 65, [9, 22])) rfl) (hl44.lt (a := 121) (by decide)) (hl44.T (a := 121) (p := (9, 45)) 43 rfl rfl) (by decide) (hl44.R 41 rfl)) ?_
  refine Q.run zm187 2 (i' := 66) (ls' := [some (.ref 121), some (.int x1), some (.int (sI s 121 21)), some (.int (1024 + (sI s 121 21)))]) (st' := [.int (-1), .int (sI s 121 21), .ref 140]) rfl ?_
  obtain ⟨hc45, h⟩ := ite_so h
  obtain ⟨s46, hs47, h⟩ := nx_so h
  refine Q.is hs47 rfl (gI_of zm187 (e := (94, 1, .iastore, [])) rfl) (hl44.lt (a := 140) (by decide)) (by decide) (hl44.T (a := 140) (p := (100, 128)) 62 rfl rfl) hc45 ?_
  have hl48 : Ly tt cc s46 := by rw [hs47]; exact hl44.wId (by decide)
  refine Q.run zm187 1 (i' := 68) (ls' := [some (.ref 121), some (.int x1), some (.int (sI s 121 21)), some (.int (1024 + (sI s 121 21)))]) (st' := [.ref 121]) rfl ?_
  refine Q.map (A.gf (gI_of zm187 (e := (96, 3, .getfield 68, [9, 23])) rfl) (hl48.lt (a := 121) (by decide)) (hl48.T (a := 121) (p := (9, 45)) 43 rfl rfl) (by decide) (hl48.R 42 rfl)) ?_
  refine Q.run zm187 2 (i' := 71) (ls' := [some (.ref 121), some (.int x1), some (.int (sI s 121 21)), some (.int (1024 + (sI s 121 21)))]) (st' := [.int (-1), .int (sI s 121 21), .ref 141]) rfl ?_
  obtain ⟨hc49, h⟩ := ite_so h
  obtain ⟨s50, hs51, h⟩ := nx_so h
  refine Q.is hs51 rfl (gI_of zm187 (e := (101, 1, .iastore, [])) rfl) (hl48.lt (a := 141) (by decide)) (by decide) (hl48.T (a := 141) (p := (100, 128)) 63 rfl rfl) hc49 ?_
  have hl52 : Ly tt cc s50 := by rw [hs51]; exact hl48.wId (by decide)
  refine Q.run zm187 1 (i' := 73) (ls' := [some (.ref 121), some (.int x1), some (.int (sI s 121 21)), some (.int (1024 + (sI s 121 21)))]) (st' := [.ref 121]) rfl ?_
  refine Q.map (A.gf (gI_of zm187 (e := (103, 3, .getfield 71, [9, 24])) rfl) (hl52.lt (a := 121) (by decide)) (hl52.T (a := 121) (p := (9, 45)) 43 rfl rfl) (by decide) (hl52.R 43 rfl)) ?_
  refine Q.run zm187 2 (i' := 76) (ls' := [some (.ref 121), some (.int x1), some (.int (sI s 121 21)), some (.int (1024 + (sI s 121 21)))]) (st' := [.int (-1), .int (sI s 121 21), .ref 142]) rfl ?_
  obtain ⟨hc53, h⟩ := ite_so h
  obtain ⟨s54, hs55, h⟩ := nx_so h
  refine Q.is hs55 rfl (gI_of zm187 (e := (108, 1, .iastore, [])) rfl) (hl52.lt (a := 142) (by decide)) (by decide) (hl52.T (a := 142) (p := (100, 128)) 64 rfl rfl) hc53 ?_
  have hl56 : Ly tt cc s54 := by rw [hs55]; exact hl52.wId (by decide)
  refine Q.run zm187 2 (i' := 79) (ls' := [some (.ref 121), some (.int x1), some (.int (sI s 121 21)), some (.int (1024 + (sI s 121 21)))]) (st' := [.ref 121, .ref 121]) rfl ?_
  refine Q.map (A.gf (gI_of zm187 (e := (111, 3, .getfield 141, [9, 21])) rfl) (hl56.lt (a := 121) (by decide)) (hl56.T (a := 121) (p := (9, 45)) 43 rfl rfl) (by decide) rfl) ?_
  refine Q.run zm187 2 (i' := 82) (ls' := [some (.ref 121), some (.int x1), some (.int (sI s 121 21)), some (.int (1024 + (sI s 121 21)))]) (st' := [.int ((sI s54 121 21) + 1), .ref 121]) rfl ?_
  obtain ⟨s57, hs58, h⟩ := nx_so h
  refine Q.pf hs58 rfl (gI_of zm187 (e := (116, 3, .putfield 141, [9, 21, 0])) rfl) (hl56.lt (a := 121) (by decide)) (by decide) (hl56.T (a := 121) (p := (9, 45)) 43 rfl rfl) (by decide) rfl rfl ?_
  have hl59 : Ly tt cc s57 := by rw [hs58]; exact hl56.wId (by decide)
  refine Q.run zm187 1 (i' := 84) (ls' := [some (.ref 121), some (.int x1), some (.int (sI s 121 21)), some (.int (1024 + (sI s 121 21)))]) (st' := [.int (sI s 121 21)]) rfl ?_
  cases h
  exact Q.ret (A.ri zm187 (show zM187.2.2.2.2.2[84]? = some (120, 1, .ireturn, []) from rfl) rfl rfl) hl59
/-! 188 FormulaTreesModel.hold(II)V -/
set_option maxRecDepth 100000 in
theorem zm188 : zP[188]? = some zM188 := rfl
def dm188 (x1 : Int32) (x2 : Int32) (s : aS) : Option (aS) :=
  if aB (sI s 121 32) 300 then
    nx (wI s 145 (jN (sI s 121 32)) x1) fun s2 =>
    if aB (sI s2 121 32) 300 then
      nx (wI s2 146 (jN (sI s2 121 32)) x2) fun s6 =>
      nx (wI s6 121 32 ((sI s6 121 32) + 1)) fun s9 =>
      some s9
    else none
  else none
set_option maxRecDepth 100000 in
theorem dt188 {sio : Bool} {tt : Nat} {cc : Nat → Nat → Int32} {d : Nat} (hd : 0 ≤ d) {x1 : Int32} {x2 : Int32} {s : aS} (hl : Ly tt cc s) {o : aS} (h : dm188  x1 x2 s = some o) : Q 2 sio tt cc d 188 0 [some (.ref 121), some (.int x1), some (.int x2)] [] s (.inl none, o) := by
  unfold dm188 at h
  refine Q.run zm188 1 (i' := 1) (ls' := [some (.ref 121), some (.int x1), some (.int x2)]) (st' := [.ref 121]) rfl ?_
  refine Q.map (A.gf (gI_of zm188 (e := (1, 3, .getfield 80, [9, 30])) rfl) (hl.lt (a := 121) (by decide)) (hl.T (a := 121) (p := (9, 45)) 43 rfl rfl) (by decide) (hl.R 46 rfl)) ?_
  refine Q.run zm188 1 (i' := 3) (ls' := [some (.ref 121), some (.int x1), some (.int x2)]) (st' := [.ref 121, .ref 145]) rfl ?_
  refine Q.map (A.gf (gI_of zm188 (e := (5, 3, .getfield 147, [9, 32])) rfl) (hl.lt (a := 121) (by decide)) (hl.T (a := 121) (p := (9, 45)) 43 rfl rfl) (by decide) rfl) ?_
  refine Q.run zm188 1 (i' := 5) (ls' := [some (.ref 121), some (.int x1), some (.int x2)]) (st' := [.int x1, .int (sI s 121 32), .ref 145]) rfl ?_
  obtain ⟨hc1, h⟩ := ite_so h
  obtain ⟨s2, hs3, h⟩ := nx_so h
  refine Q.is hs3 rfl (gI_of zm188 (e := (9, 1, .iastore, [])) rfl) (hl.lt (a := 145) (by decide)) (by decide) (hl.T (a := 145) (p := (100, 300)) 67 rfl rfl) hc1 ?_
  have hl4 : Ly tt cc s2 := by rw [hs3]; exact hl.wId (by decide)
  refine Q.run zm188 1 (i' := 7) (ls' := [some (.ref 121), some (.int x1), some (.int x2)]) (st' := [.ref 121]) rfl ?_
  refine Q.map (A.gf (gI_of zm188 (e := (11, 3, .getfield 83, [9, 31])) rfl) (hl4.lt (a := 121) (by decide)) (hl4.T (a := 121) (p := (9, 45)) 43 rfl rfl) (by decide) (hl4.R 47 rfl)) ?_
  refine Q.run zm188 1 (i' := 9) (ls' := [some (.ref 121), some (.int x1), some (.int x2)]) (st' := [.ref 121, .ref 146]) rfl ?_
  refine Q.map (A.gf (gI_of zm188 (e := (15, 3, .getfield 147, [9, 32])) rfl) (hl4.lt (a := 121) (by decide)) (hl4.T (a := 121) (p := (9, 45)) 43 rfl rfl) (by decide) rfl) ?_
  refine Q.run zm188 1 (i' := 11) (ls' := [some (.ref 121), some (.int x1), some (.int x2)]) (st' := [.int x2, .int (sI s2 121 32), .ref 146]) rfl ?_
  obtain ⟨hc5, h⟩ := ite_so h
  obtain ⟨s6, hs7, h⟩ := nx_so h
  refine Q.is hs7 rfl (gI_of zm188 (e := (19, 1, .iastore, [])) rfl) (hl4.lt (a := 146) (by decide)) (by decide) (hl4.T (a := 146) (p := (100, 300)) 68 rfl rfl) hc5 ?_
  have hl8 : Ly tt cc s6 := by rw [hs7]; exact hl4.wId (by decide)
  refine Q.run zm188 2 (i' := 14) (ls' := [some (.ref 121), some (.int x1), some (.int x2)]) (st' := [.ref 121, .ref 121]) rfl ?_
  refine Q.map (A.gf (gI_of zm188 (e := (22, 3, .getfield 147, [9, 32])) rfl) (hl8.lt (a := 121) (by decide)) (hl8.T (a := 121) (p := (9, 45)) 43 rfl rfl) (by decide) rfl) ?_
  refine Q.run zm188 2 (i' := 17) (ls' := [some (.ref 121), some (.int x1), some (.int x2)]) (st' := [.int ((sI s6 121 32) + 1), .ref 121]) rfl ?_
  obtain ⟨s9, hs10, h⟩ := nx_so h
  refine Q.pf hs10 rfl (gI_of zm188 (e := (27, 3, .putfield 147, [9, 32, 0])) rfl) (hl8.lt (a := 121) (by decide)) (by decide) (hl8.T (a := 121) (p := (9, 45)) 43 rfl rfl) (by decide) rfl rfl ?_
  have hl11 : Ly tt cc s9 := by rw [hs10]; exact hl8.wId (by decide)
  cases h
  exact Q.ret (A.rv zm188 (show zM188.2.2.2.2.2[18]? = some (30, 1, .return_, []) from rfl) rfl) hl11
/-! 191 FormulaTreesModel.rank(I)I -/
set_option maxRecDepth 100000 in
theorem zm191 : zP[191]? = some zM191 := rfl
def dm191 (x0 : Int32) : Option (Int32) :=
  if 9 ≤ x0 then
    if x0 = 9 then
      some 7
    else
      if x0 = 10 then
        some 6
      else
        if x0 = 11 then
          some 5
        else
          if 14 ≤ x0 then
            if 16 ≤ x0 then
              if x0 = 16 then
                some 2
              else
                some 1
            else
              some 3
          else
            some 4
  else
    some 8
set_option maxRecDepth 100000 in
theorem dt191 {sio : Bool} {tt : Nat} {cc : Nat → Nat → Int32} {d : Nat} (hd : 0 ≤ d) {x0 : Int32} {s : aS} (hl : Ly tt cc s) {o : Int32} (h : dm191  x0 = some o) : Q 2 sio tt cc d 191 0 [some (.int x0)] [] s (.inl (some (.int o)), s) := by
  unfold dm191 at h
  refine Q.run zm191 2 (i' := 2) (ls' := [some (.int x0)]) (st' := [.int 9, .int x0]) rfl ?_
  by_cases hc1 : 9 ≤ x0
  · rw [if_pos hc1] at h
    refine Q.map (A.bT (gI_of zm191 (e := (3, 3, .if_icmp .ge 8, [5])) rfl) (decide_eq_true hc1)) ?_
    refine Q.run zm191 2 (i' := 7) (ls' := [some (.int x0)]) (st' := [.int 9, .int x0]) rfl ?_
    by_cases hc2 : x0 = 9
    · rw [if_pos hc2] at h
      refine Q.map (A.bF (gI_of zm191 (e := (14, 3, .if_icmp .ne 8, [10])) rfl) (fun q => of_decide_eq_true q hc2)) ?_
      refine Q.run zm191 2 (i' := 36) (ls' := [some (.int x0)]) (st' := [.int 7]) rfl ?_
      cases h
      exact Q.ret (A.ri zm191 (show zM191.2.2.2.2.2[36]? = some (74, 1, .ireturn, []) from rfl) rfl rfl) hl
    · rw [if_neg hc2] at h
      refine Q.map (A.bT (gI_of zm191 (e := (14, 3, .if_icmp .ne 8, [10])) rfl) (decide_eq_true hc2)) ?_
      refine Q.run zm191 2 (i' := 12) (ls' := [some (.int x0)]) (st' := [.int 10, .int x0]) rfl ?_
      by_cases hc3 : x0 = 10
      · rw [if_pos hc3] at h
        refine Q.map (A.bF (gI_of zm191 (e := (25, 3, .if_icmp .ne 8, [15])) rfl) (fun q => of_decide_eq_true q hc3)) ?_
        refine Q.run zm191 2 (i' := 36) (ls' := [some (.int x0)]) (st' := [.int 6]) rfl ?_
        cases h
        exact Q.ret (A.ri zm191 (show zM191.2.2.2.2.2[36]? = some (74, 1, .ireturn, []) from rfl) rfl rfl) hl
      · rw [if_neg hc3] at h
        refine Q.map (A.bT (gI_of zm191 (e := (25, 3, .if_icmp .ne 8, [15])) rfl) (decide_eq_true hc3)) ?_
        refine Q.run zm191 2 (i' := 17) (ls' := [some (.int x0)]) (st' := [.int 11, .int x0]) rfl ?_
        by_cases hc4 : x0 = 11
        · rw [if_pos hc4] at h
          refine Q.map (A.bF (gI_of zm191 (e := (36, 3, .if_icmp .ne 7, [20])) rfl) (fun q => of_decide_eq_true q hc4)) ?_
          refine Q.run zm191 2 (i' := 36) (ls' := [some (.int x0)]) (st' := [.int 5]) rfl ?_
          cases h
          exact Q.ret (A.ri zm191 (show zM191.2.2.2.2.2[36]? = some (74, 1, .ireturn, []) from rfl) rfl rfl) hl
        · rw [if_neg hc4] at h
          refine Q.map (A.bT (gI_of zm191 (e := (36, 3, .if_icmp .ne 7, [20])) rfl) (decide_eq_true hc4)) ?_
          refine Q.run zm191 2 (i' := 22) (ls' := [some (.int x0)]) (st' := [.int 14, .int x0]) rfl ?_
          by_cases hc5 : 14 ≤ x0
          · rw [if_pos hc5] at h
            refine Q.map (A.bT (gI_of zm191 (e := (46, 3, .if_icmp .ge 7, [25])) rfl) (decide_eq_true hc5)) ?_
            refine Q.run zm191 2 (i' := 27) (ls' := [some (.int x0)]) (st' := [.int 16, .int x0]) rfl ?_
            by_cases hc6 : 16 ≤ x0
            · rw [if_pos hc6] at h
              refine Q.map (A.bT (gI_of zm191 (e := (56, 3, .if_icmp .ge 7, [30])) rfl) (decide_eq_true hc6)) ?_
              refine Q.run zm191 2 (i' := 32) (ls' := [some (.int x0)]) (st' := [.int 16, .int x0]) rfl ?_
              by_cases hc7 : x0 = 16
              · rw [if_pos hc7] at h
                refine Q.map (A.bF (gI_of zm191 (e := (66, 3, .if_icmp .ne 7, [35])) rfl) (fun q => of_decide_eq_true q hc7)) ?_
                refine Q.run zm191 2 (i' := 36) (ls' := [some (.int x0)]) (st' := [.int 2]) rfl ?_
                cases h
                exact Q.ret (A.ri zm191 (show zM191.2.2.2.2.2[36]? = some (74, 1, .ireturn, []) from rfl) rfl rfl) hl
              · rw [if_neg hc7] at h
                refine Q.map (A.bT (gI_of zm191 (e := (66, 3, .if_icmp .ne 7, [35])) rfl) (decide_eq_true hc7)) ?_
                refine Q.run zm191 1 (i' := 36) (ls' := [some (.int x0)]) (st' := [.int 1]) rfl ?_
                cases h
                exact Q.ret (A.ri zm191 (show zM191.2.2.2.2.2[36]? = some (74, 1, .ireturn, []) from rfl) rfl rfl) hl
            · rw [if_neg hc6] at h
              refine Q.map (A.bF (gI_of zm191 (e := (56, 3, .if_icmp .ge 7, [30])) rfl) (fun q => hc6 (of_decide_eq_true q))) ?_
              refine Q.run zm191 2 (i' := 36) (ls' := [some (.int x0)]) (st' := [.int 3]) rfl ?_
              cases h
              exact Q.ret (A.ri zm191 (show zM191.2.2.2.2.2[36]? = some (74, 1, .ireturn, []) from rfl) rfl rfl) hl
          · rw [if_neg hc5] at h
            refine Q.map (A.bF (gI_of zm191 (e := (46, 3, .if_icmp .ge 7, [25])) rfl) (fun q => hc5 (of_decide_eq_true q))) ?_
            refine Q.run zm191 2 (i' := 36) (ls' := [some (.int x0)]) (st' := [.int 4]) rfl ?_
            cases h
            exact Q.ret (A.ri zm191 (show zM191.2.2.2.2.2[36]? = some (74, 1, .ireturn, []) from rfl) rfl rfl) hl
  · rw [if_neg hc1] at h
    refine Q.map (A.bF (gI_of zm191 (e := (3, 3, .if_icmp .ge 8, [5])) rfl) (fun q => hc1 (of_decide_eq_true q))) ?_
    refine Q.run zm191 2 (i' := 36) (ls' := [some (.int x0)]) (st' := [.int 8]) rfl ?_
    cases h
    exact Q.ret (A.ri zm191 (show zM191.2.2.2.2.2[36]? = some (74, 1, .ireturn, []) from rfl) rfl rfl) hl
/-! 192 FormulaTreesModel.pop()I -/
set_option maxRecDepth 100000 in
theorem zm192 : zP[192]? = some zM192 := rfl
def dm192 (s : aS) : Option (Int32 × aS) :=
  nx (wI s 121 29 ((sI s 121 29) - 1)) fun s1 =>
  if aB (sI s1 121 29) 130 then
    some (sI s1 144 (jN (sI s1 121 29)), s1)
  else none
set_option maxRecDepth 100000 in
theorem dt192 {sio : Bool} {tt : Nat} {cc : Nat → Nat → Int32} {d : Nat} (hd : 0 ≤ d) {s : aS} (hl : Ly tt cc s) {o : Int32 × aS} (h : dm192  s = some o) : Q 2 sio tt cc d 192 0 [some (.ref 121)] [] s (.inl (some (.int o.1)), o.2) := by
  unfold dm192 at h
  refine Q.run zm192 2 (i' := 2) (ls' := [some (.ref 121)]) (st' := [.ref 121, .ref 121]) rfl ?_
  refine Q.map (A.gf (gI_of zm192 (e := (2, 3, .getfield 144, [9, 29])) rfl) (hl.lt (a := 121) (by decide)) (hl.T (a := 121) (p := (9, 45)) 43 rfl rfl) (by decide) rfl) ?_
  refine Q.run zm192 2 (i' := 5) (ls' := [some (.ref 121)]) (st' := [.int ((sI s 121 29) - 1), .ref 121]) rfl ?_
  obtain ⟨s1, hs2, h⟩ := nx_so h
  refine Q.pf hs2 rfl (gI_of zm192 (e := (7, 3, .putfield 144, [9, 29, 0])) rfl) (hl.lt (a := 121) (by decide)) (by decide) (hl.T (a := 121) (p := (9, 45)) 43 rfl rfl) (by decide) rfl rfl ?_
  have hl3 : Ly tt cc s1 := by rw [hs2]; exact hl.wId (by decide)
  refine Q.run zm192 1 (i' := 7) (ls' := [some (.ref 121)]) (st' := [.ref 121]) rfl ?_
  refine Q.map (A.gf (gI_of zm192 (e := (11, 3, .getfield 77, [9, 28])) rfl) (hl3.lt (a := 121) (by decide)) (hl3.T (a := 121) (p := (9, 45)) 43 rfl rfl) (by decide) (hl3.R 45 rfl)) ?_
  refine Q.run zm192 1 (i' := 9) (ls' := [some (.ref 121)]) (st' := [.ref 121, .ref 144]) rfl ?_
  refine Q.map (A.gf (gI_of zm192 (e := (15, 3, .getfield 144, [9, 29])) rfl) (hl3.lt (a := 121) (by decide)) (hl3.T (a := 121) (p := (9, 45)) 43 rfl rfl) (by decide) rfl) ?_
  obtain ⟨hc4, h⟩ := ite_so h
  refine Q.map (A.ia (gI_of zm192 (e := (18, 1, .iaload, [])) rfl) (hl3.lt (a := 144) (by decide)) (hl3.T (a := 144) (p := (100, 130)) 66 rfl rfl) hc4) ?_
  cases h
  exact Q.ret (A.ri zm192 (show zM192.2.2.2.2.2[11]? = some (19, 1, .ireturn, []) from rfl) rfl rfl) hl3
/-! 193 FormulaTreesModel.child(II)V -/
set_option maxRecDepth 100000 in
theorem zm193 : zP[193]? = some zM193 := rfl
def dm193_19 (x1 : Int32) (x2 : Int32) (s : aS) : Option (aS) :=
  if aB x1 128 then
    nx (wI s 141 (jN x1) x2) fun s2 =>
    if aB (1024 + x1) 1152 then
      if aB (1024 + x1) 1152 then
        nx (wI s2 129 (jN (1024 + x1)) ((sI s2 129 (jN (1024 + x1))) + 1)) fun s7 =>
        some s7
      else none
    else none
  else none
set_option maxRecDepth 100000 in
theorem dt193_19 {sio : Bool} {tt : Nat} {cc : Nat → Nat → Int32} {d : Nat} (hd : 0 ≤ d) {x1 : Int32} {x2 : Int32} {s : aS} (hl : Ly tt cc s) {o : aS} (h : dm193_19  x1 x2 s = some o) : Q 2 sio tt cc d 193 19 [some (.ref 121), some (.int x1), some (.int x2)] [] s (.inl none, o) := by
  unfold dm193_19 at h
  refine Q.run zm193 1 (i' := 20) (ls' := [some (.ref 121), some (.int x1), some (.int x2)]) (st' := [.ref 121]) rfl ?_
  refine Q.map (A.gf (gI_of zm193 (e := (32, 3, .getfield 68, [9, 23])) rfl) (hl.lt (a := 121) (by decide)) (hl.T (a := 121) (p := (9, 45)) 43 rfl rfl) (by decide) (hl.R 42 rfl)) ?_
  refine Q.run zm193 2 (i' := 23) (ls' := [some (.ref 121), some (.int x1), some (.int x2)]) (st' := [.int x2, .int x1, .ref 141]) rfl ?_
  obtain ⟨hc1, h⟩ := ite_so h
  obtain ⟨s2, hs3, h⟩ := nx_so h
  refine Q.is hs3 rfl (gI_of zm193 (e := (37, 1, .iastore, [])) rfl) (hl.lt (a := 141) (by decide)) (by decide) (hl.T (a := 141) (p := (100, 128)) 63 rfl rfl) hc1 ?_
  have hl4 : Ly tt cc s2 := by rw [hs3]; exact hl.wId (by decide)
  refine Q.run zm193 1 (i' := 25) (ls' := [some (.ref 121), some (.int x1), some (.int x2)]) (st' := [.ref 121]) rfl ?_
  refine Q.map (A.gf (gI_of zm193 (e := (39, 3, .getfield 32, [9, 10])) rfl) (hl4.lt (a := 121) (by decide)) (hl4.T (a := 121) (p := (9, 45)) 43 rfl rfl) (by decide) (hl4.R 30 rfl)) ?_
  refine Q.run zm193 4 (i' := 30) (ls' := [some (.ref 121), some (.int x1), some (.int x2)]) (st' := [.int (1024 + x1), .ref 129, .int (1024 + x1), .ref 129]) rfl ?_
  obtain ⟨hc5, h⟩ := ite_so h
  refine Q.map (A.ia (gI_of zm193 (e := (48, 1, .iaload, [])) rfl) (hl4.lt (a := 129) (by decide)) (hl4.T (a := 129) (p := (100, 1152)) 51 rfl rfl) hc5) ?_
  refine Q.run zm193 2 (i' := 33) (ls' := [some (.ref 121), some (.int x1), some (.int x2)]) (st' := [.int ((sI s2 129 (jN (1024 + x1))) + 1), .int (1024 + x1), .ref 129]) rfl ?_
  obtain ⟨hc6, h⟩ := ite_so h
  obtain ⟨s7, hs8, h⟩ := nx_so h
  refine Q.is hs8 rfl (gI_of zm193 (e := (51, 1, .iastore, [])) rfl) (hl4.lt (a := 129) (by decide)) (by decide) (hl4.T (a := 129) (p := (100, 1152)) 51 rfl rfl) hc6 ?_
  have hl9 : Ly tt cc s7 := by rw [hs8]; exact hl4.wId (by decide)
  cases h
  exact Q.ret (A.rv zm193 (show zM193.2.2.2.2.2[34]? = some (52, 1, .return_, []) from rfl) rfl) hl9
def dm193 (x1 : Int32) (x2 : Int32) (s : aS) : Option (aS) :=
  if aB x1 128 then
    if 0 ≤ (sI s 140 (jN x1)) then
      if aB x1 128 then
        if aB (sI s 141 (jN x1)) 128 then
          nx (wI s 142 (jN (sI s 141 (jN x1))) x2) fun s5 =>
          dm193_19 x1 x2 s5
        else none
      else none
    else
      if aB x1 128 then
        nx (wI s 140 (jN x1) x2) fun s9 =>
        dm193_19 x1 x2 s9
      else none
  else none
set_option maxRecDepth 100000 in
theorem dt193 {sio : Bool} {tt : Nat} {cc : Nat → Nat → Int32} {d : Nat} (hd : 0 ≤ d) {x1 : Int32} {x2 : Int32} {s : aS} (hl : Ly tt cc s) {o : aS} (h : dm193  x1 x2 s = some o) : Q 2 sio tt cc d 193 0 [some (.ref 121), some (.int x1), some (.int x2)] [] s (.inl none, o) := by
  unfold dm193 at h
  refine Q.run zm193 1 (i' := 1) (ls' := [some (.ref 121), some (.int x1), some (.int x2)]) (st' := [.ref 121]) rfl ?_
  refine Q.map (A.gf (gI_of zm193 (e := (1, 3, .getfield 65, [9, 22])) rfl) (hl.lt (a := 121) (by decide)) (hl.T (a := 121) (p := (9, 45)) 43 rfl rfl) (by decide) (hl.R 41 rfl)) ?_
  refine Q.run zm193 1 (i' := 3) (ls' := [some (.ref 121), some (.int x1), some (.int x2)]) (st' := [.int x1, .ref 140]) rfl ?_
  obtain ⟨hc1, h⟩ := ite_so h
  refine Q.map (A.ia (gI_of zm193 (e := (5, 1, .iaload, [])) rfl) (hl.lt (a := 140) (by decide)) (hl.T (a := 140) (p := (100, 128)) 62 rfl rfl) hc1) ?_
  by_cases hc2 : 0 ≤ (sI s 140 (jN x1))
  · rw [if_pos hc2] at h
    refine Q.map (A.zT (gI_of zm193 (e := (6, 3, .ifCond .ge 13, [11])) rfl) (decide_eq_true hc2)) ?_
    refine Q.run zm193 1 (i' := 12) (ls' := [some (.ref 121), some (.int x1), some (.int x2)]) (st' := [.ref 121]) rfl ?_
    refine Q.map (A.gf (gI_of zm193 (e := (20, 3, .getfield 71, [9, 24])) rfl) (hl.lt (a := 121) (by decide)) (hl.T (a := 121) (p := (9, 45)) 43 rfl rfl) (by decide) (hl.R 43 rfl)) ?_
    refine Q.run zm193 1 (i' := 14) (ls' := [some (.ref 121), some (.int x1), some (.int x2)]) (st' := [.ref 121, .ref 142]) rfl ?_
    refine Q.map (A.gf (gI_of zm193 (e := (24, 3, .getfield 68, [9, 23])) rfl) (hl.lt (a := 121) (by decide)) (hl.T (a := 121) (p := (9, 45)) 43 rfl rfl) (by decide) (hl.R 42 rfl)) ?_
    refine Q.run zm193 1 (i' := 16) (ls' := [some (.ref 121), some (.int x1), some (.int x2)]) (st' := [.int x1, .ref 141, .ref 142]) rfl ?_
    obtain ⟨hc3, h⟩ := ite_so h
    refine Q.map (A.ia (gI_of zm193 (e := (28, 1, .iaload, [])) rfl) (hl.lt (a := 141) (by decide)) (hl.T (a := 141) (p := (100, 128)) 63 rfl rfl) hc3) ?_
    refine Q.run zm193 1 (i' := 18) (ls' := [some (.ref 121), some (.int x1), some (.int x2)]) (st' := [.int x2, .int (sI s 141 (jN x1)), .ref 142]) rfl ?_
    obtain ⟨hc4, h⟩ := ite_so h
    obtain ⟨s5, hs6, h⟩ := nx_so h
    refine Q.is hs6 rfl (gI_of zm193 (e := (30, 1, .iastore, [])) rfl) (hl.lt (a := 142) (by decide)) (by decide) (hl.T (a := 142) (p := (100, 128)) 64 rfl rfl) hc4 ?_
    have hl7 : Ly tt cc s5 := by rw [hs6]; exact hl.wId (by decide)
    exact dt193_19 hd hl7  h
  · rw [if_neg hc2] at h
    refine Q.map (A.zF (gI_of zm193 (e := (6, 3, .ifCond .ge 13, [11])) rfl) (fun q => hc2 (of_decide_eq_true q))) ?_
    refine Q.run zm193 1 (i' := 6) (ls' := [some (.ref 121), some (.int x1), some (.int x2)]) (st' := [.ref 121]) rfl ?_
    refine Q.map (A.gf (gI_of zm193 (e := (10, 3, .getfield 65, [9, 22])) rfl) (hl.lt (a := 121) (by decide)) (hl.T (a := 121) (p := (9, 45)) 43 rfl rfl) (by decide) (hl.R 41 rfl)) ?_
    refine Q.run zm193 2 (i' := 9) (ls' := [some (.ref 121), some (.int x1), some (.int x2)]) (st' := [.int x2, .int x1, .ref 140]) rfl ?_
    obtain ⟨hc8, h⟩ := ite_so h
    obtain ⟨s9, hs10, h⟩ := nx_so h
    refine Q.is hs10 rfl (gI_of zm193 (e := (15, 1, .iastore, [])) rfl) (hl.lt (a := 140) (by decide)) (by decide) (hl.T (a := 140) (p := (100, 128)) 62 rfl rfl) hc8 ?_
    have hl11 : Ly tt cc s9 := by rw [hs10]; exact hl.wId (by decide)
    refine Q.run zm193 1 (i' := 19) (ls' := [some (.ref 121), some (.int x1), some (.int x2)]) (st' := []) rfl ?_
    exact dt193_19 hd hl11  h
/-! 194 FormulaTreesModel.push(I)V -/
set_option maxRecDepth 100000 in
theorem zm194 : zP[194]? = some zM194 := rfl
def dm194 (x1 : Int32) (s : aS) : Option (aS) :=
  if aB (sI s 121 29) 130 then
    nx (wI s 144 (jN (sI s 121 29)) x1) fun s2 =>
    nx (wI s2 121 29 ((sI s2 121 29) + 1)) fun s5 =>
    some s5
  else none
set_option maxRecDepth 100000 in
theorem dt194 {sio : Bool} {tt : Nat} {cc : Nat → Nat → Int32} {d : Nat} (hd : 0 ≤ d) {x1 : Int32} {s : aS} (hl : Ly tt cc s) {o : aS} (h : dm194  x1 s = some o) : Q 2 sio tt cc d 194 0 [some (.ref 121), some (.int x1)] [] s (.inl none, o) := by
  unfold dm194 at h
  refine Q.run zm194 1 (i' := 1) (ls' := [some (.ref 121), some (.int x1)]) (st' := [.ref 121]) rfl ?_
  refine Q.map (A.gf (gI_of zm194 (e := (1, 3, .getfield 77, [9, 28])) rfl) (hl.lt (a := 121) (by decide)) (hl.T (a := 121) (p := (9, 45)) 43 rfl rfl) (by decide) (hl.R 45 rfl)) ?_
  refine Q.run zm194 1 (i' := 3) (ls' := [some (.ref 121), some (.int x1)]) (st' := [.ref 121, .ref 144]) rfl ?_
  refine Q.map (A.gf (gI_of zm194 (e := (5, 3, .getfield 144, [9, 29])) rfl) (hl.lt (a := 121) (by decide)) (hl.T (a := 121) (p := (9, 45)) 43 rfl rfl) (by decide) rfl) ?_
  refine Q.run zm194 1 (i' := 5) (ls' := [some (.ref 121), some (.int x1)]) (st' := [.int x1, .int (sI s 121 29), .ref 144]) rfl ?_
  obtain ⟨hc1, h⟩ := ite_so h
  obtain ⟨s2, hs3, h⟩ := nx_so h
  refine Q.is hs3 rfl (gI_of zm194 (e := (9, 1, .iastore, [])) rfl) (hl.lt (a := 144) (by decide)) (by decide) (hl.T (a := 144) (p := (100, 130)) 66 rfl rfl) hc1 ?_
  have hl4 : Ly tt cc s2 := by rw [hs3]; exact hl.wId (by decide)
  refine Q.run zm194 2 (i' := 8) (ls' := [some (.ref 121), some (.int x1)]) (st' := [.ref 121, .ref 121]) rfl ?_
  refine Q.map (A.gf (gI_of zm194 (e := (12, 3, .getfield 144, [9, 29])) rfl) (hl4.lt (a := 121) (by decide)) (hl4.T (a := 121) (p := (9, 45)) 43 rfl rfl) (by decide) rfl) ?_
  refine Q.run zm194 2 (i' := 11) (ls' := [some (.ref 121), some (.int x1)]) (st' := [.int ((sI s2 121 29) + 1), .ref 121]) rfl ?_
  obtain ⟨s5, hs6, h⟩ := nx_so h
  refine Q.pf hs6 rfl (gI_of zm194 (e := (17, 3, .putfield 144, [9, 29, 0])) rfl) (hl4.lt (a := 121) (by decide)) (by decide) (hl4.T (a := 121) (p := (9, 45)) 43 rfl rfl) (by decide) rfl rfl ?_
  have hl7 : Ly tt cc s5 := by rw [hs6]; exact hl4.wId (by decide)
  cases h
  exact Q.ret (A.rv zm194 (show zM194.2.2.2.2.2[12]? = some (20, 1, .return_, []) from rfl) rfl) hl7
/-! 190 FormulaTreesModel.reduce(I)V -/
set_option maxRecDepth 100000 in
theorem zm190 : zP[190]? = some zM190 := rfl
def dm190_58 (k0 : Int32 → aS → Option (aS)) (x1 : Int32) (x2 : Int32) (x3 : Int32) (s : aS) : Option (aS) :=
  bu (dm193 x2 x3 s) fun s3 =>
  bu (dm194 x2 s3) fun s6 =>
  k0 x1 s6
set_option maxRecDepth 100000 in
theorem dt190_58 {sio : Bool} {tt : Nat} {cc : Nat → Nat → Int32} {d : Nat} (hd : 1 ≤ d) {k0 : Int32 → aS → Option (aS)} (hk0 : ∀ {x1 : Int32} {g2 : Option Value} {g3 : Option Value} {s : aS}, Ly tt cc s → ∀ {o : aS}, k0 x1 s = some o → Q 2 sio tt cc d 190 0 [some (.ref 121), some (.int x1), g2, g3] [] s (.inl none, o)) {x1 : Int32} {x2 : Int32} {x3 : Int32} {s : aS} (hl : Ly tt cc s) {o : aS} (h : dm190_58 k0 x1 x2 x3 s = some o) : Q 2 sio tt cc d 190 58 [some (.ref 121), some (.int x1), some (.int x2), some (.int x3)] [] s (.inl none, o) := by
  unfold dm190_58 at h
  obtain ⟨d, rfl⟩ : ∃ e, d = e + 1 := ⟨d - 1, by omega⟩
  refine Q.run zm190 3 (i' := 61) (ls' := [some (.ref 121), some (.int x1), some (.int x2), some (.int x3)]) (st' := [.int x3, .int x2, .ref 121]) rfl ?_
  obtain ⟨s3, hc2, h⟩ := bu_so h
  have hq1 : Q 2 sio tt cc d 193 0 [some (.ref 121), some (.int x2), some (.int x3)] [] s (.inl none, s3) := dt193 (by omega) hl  hc2
  refine Q.callV (gC_vi zm190 (show zM190.2.2.2.2.2[61]? = some (108, 3, .invokevirtual 157, [0, 193, 2, 9]) from rfl) zm193 (hl.lt (a := 121) (by decide)) (hl.T (a := 121) (p := (9, 45)) 43 rfl rfl) rfl (show aCr 2 121 [.int x3, .int x2, .ref 121] 3 = some ([some (.ref 121), some (.int x2), some (.int x3)], []) from rfl)) hq1 ?_
  refine Q.run zm190 2 (i' := 64) (ls' := [some (.ref 121), some (.int x1), some (.int x2), some (.int x3)]) (st' := [.int x2, .ref 121]) rfl ?_
  obtain ⟨s6, hc5, h⟩ := bu_so h
  have hq4 : Q 2 sio tt cc d 194 0 [some (.ref 121), some (.int x2)] [] s3 (.inl none, s6) := dt194 (by omega) hq1.1  hc5
  refine Q.callV (gC_vi zm190 (show zM190.2.2.2.2.2[64]? = some (113, 3, .invokevirtual 161, [0, 194, 1, 9]) from rfl) zm194 (hq1.1.lt (a := 121) (by decide)) (hq1.1.T (a := 121) (p := (9, 45)) 43 rfl rfl) rfl (show aCr 1 121 [.int x2, .ref 121] 2 = some ([some (.ref 121), some (.int x2)], []) from rfl)) hq4 ?_
  refine Q.run zm190 1 (i' := 0) (ls' := [some (.ref 121), some (.int x1), some (.int x2), some (.int x3)]) (st' := []) rfl ?_
  exact hk0 hq4.1  h
def dm190_0 : Nat → Int32 → aS → Option (aS)
  | 0, _, _ => none
  | n + 1, x1, s =>
    if (sI s 121 32) ≤ 0 then
      some s
    else
      if aB ((sI s 121 32) - 1) 300 then
        if (sI s 145 (jN ((sI s 121 32) - 1))) = 100 then
          some s
        else
          if aB ((sI s 121 32) - 1) 300 then
            if (sI s 145 (jN ((sI s 121 32) - 1))) = 7 then
              some s
            else
              if aB ((sI s 121 32) - 1) 300 then
                bu (dm191 (sI s 145 (jN ((sI s 121 32) - 1)))) fun r9 =>
                if r9 < x1 then
                  some s
                else
                  nx (wI s 121 32 ((sI s 121 32) - 1)) fun s11 =>
                  if aB (sI s11 121 32) 300 then
                    bv (dm192 s11) fun r18 s17 =>
                    if aB (sI s17 121 32) 300 then
                      if (sI s17 145 (jN (sI s17 121 32))) = 10 then
                        dm190_58 (dm190_0 n) x1 (sI s11 146 (jN (sI s11 121 32))) r18 s17
                      else
                        bv (dm192 s17) fun r24 s23 =>
                        bu (dm193 (sI s11 146 (jN (sI s11 121 32))) r24 s23) fun s27 =>
                        dm190_58 (dm190_0 n) x1 (sI s11 146 (jN (sI s11 121 32))) r18 s27
                    else none
                  else none
              else none
          else none
      else none
set_option maxRecDepth 100000 in
theorem dt190_0 {sio : Bool} {tt : Nat} {cc : Nat → Nat → Int32} {d : Nat} (hd : 1 ≤ d) : ∀ (n : Nat) {x1 : Int32} {g2 : Option Value} {g3 : Option Value} {s : aS} (_ : Ly tt cc s) {o : aS} (_ : dm190_0  n x1 s = some o), Q 2 sio tt cc d 190 0 [some (.ref 121), some (.int x1), g2, g3] [] s (.inl none, o) := by
  obtain ⟨d, rfl⟩ : ∃ e, d = e + 1 := ⟨d - 1, by omega⟩
  intro n
  induction n with
  | zero => intro x1 g2 g3 s hl o h; rw [dm190_0] at h; cases h
  | succ n ih =>
    intro x1 g2 g3 s hl o h
    rw [dm190_0] at h
    refine Q.run zm190 1 (i' := 1) (ls' := [some (.ref 121), some (.int x1), g2, g3]) (st' := [.ref 121]) rfl ?_
    refine Q.map (A.gf (gI_of zm190 (e := (1, 3, .getfield 147, [9, 32])) rfl) (hl.lt (a := 121) (by decide)) (hl.T (a := 121) (p := (9, 45)) 43 rfl rfl) (by decide) rfl) ?_
    by_cases hc1 : (sI s 121 32) ≤ 0
    · rw [if_pos hc1] at h
      refine Q.map (A.zT (gI_of zm190 (e := (4, 3, .ifCond .le 115, [66])) rfl) (decide_eq_true hc1)) ?_
      cases h
      exact Q.ret (A.rv zm190 (show zM190.2.2.2.2.2[66]? = some (119, 1, .return_, []) from rfl) rfl) hl
    · rw [if_neg hc1] at h
      refine Q.map (A.zF (gI_of zm190 (e := (4, 3, .ifCond .le 115, [66])) rfl) (fun q => hc1 (of_decide_eq_true q))) ?_
      refine Q.run zm190 1 (i' := 4) (ls' := [some (.ref 121), some (.int x1), g2, g3]) (st' := [.ref 121]) rfl ?_
      refine Q.map (A.gf (gI_of zm190 (e := (8, 3, .getfield 80, [9, 30])) rfl) (hl.lt (a := 121) (by decide)) (hl.T (a := 121) (p := (9, 45)) 43 rfl rfl) (by decide) (hl.R 46 rfl)) ?_
      refine Q.run zm190 1 (i' := 6) (ls' := [some (.ref 121), some (.int x1), g2, g3]) (st' := [.ref 121, .ref 145]) rfl ?_
      refine Q.map (A.gf (gI_of zm190 (e := (12, 3, .getfield 147, [9, 32])) rfl) (hl.lt (a := 121) (by decide)) (hl.T (a := 121) (p := (9, 45)) 43 rfl rfl) (by decide) rfl) ?_
      refine Q.run zm190 2 (i' := 9) (ls' := [some (.ref 121), some (.int x1), g2, g3]) (st' := [.int ((sI s 121 32) - 1), .ref 145]) rfl ?_
      obtain ⟨hc2, h⟩ := ite_so h
      refine Q.map (A.ia (gI_of zm190 (e := (17, 1, .iaload, [])) rfl) (hl.lt (a := 145) (by decide)) (hl.T (a := 145) (p := (100, 300)) 67 rfl rfl) hc2) ?_
      refine Q.run zm190 1 (i' := 11) (ls' := [some (.ref 121), some (.int x1), g2, g3]) (st' := [.int 100, .int (sI s 145 (jN ((sI s 121 32) - 1)))]) rfl ?_
      by_cases hc3 : (sI s 145 (jN ((sI s 121 32) - 1))) = 100
      · rw [if_pos hc3] at h
        refine Q.map (A.bT (gI_of zm190 (e := (20, 3, .if_icmp .eq 99, [66])) rfl) (decide_eq_true hc3)) ?_
        cases h
        exact Q.ret (A.rv zm190 (show zM190.2.2.2.2.2[66]? = some (119, 1, .return_, []) from rfl) rfl) hl
      · rw [if_neg hc3] at h
        refine Q.map (A.bF (gI_of zm190 (e := (20, 3, .if_icmp .eq 99, [66])) rfl) (fun q => hc3 (of_decide_eq_true q))) ?_
        refine Q.run zm190 1 (i' := 13) (ls' := [some (.ref 121), some (.int x1), g2, g3]) (st' := [.ref 121]) rfl ?_
        refine Q.map (A.gf (gI_of zm190 (e := (24, 3, .getfield 80, [9, 30])) rfl) (hl.lt (a := 121) (by decide)) (hl.T (a := 121) (p := (9, 45)) 43 rfl rfl) (by decide) (hl.R 46 rfl)) ?_
        refine Q.run zm190 1 (i' := 15) (ls' := [some (.ref 121), some (.int x1), g2, g3]) (st' := [.ref 121, .ref 145]) rfl ?_
        refine Q.map (A.gf (gI_of zm190 (e := (28, 3, .getfield 147, [9, 32])) rfl) (hl.lt (a := 121) (by decide)) (hl.T (a := 121) (p := (9, 45)) 43 rfl rfl) (by decide) rfl) ?_
        refine Q.run zm190 2 (i' := 18) (ls' := [some (.ref 121), some (.int x1), g2, g3]) (st' := [.int ((sI s 121 32) - 1), .ref 145]) rfl ?_
        obtain ⟨hc4, h⟩ := ite_so h
        refine Q.map (A.ia (gI_of zm190 (e := (33, 1, .iaload, [])) rfl) (hl.lt (a := 145) (by decide)) (hl.T (a := 145) (p := (100, 300)) 67 rfl rfl) hc4) ?_
        refine Q.run zm190 1 (i' := 20) (ls' := [some (.ref 121), some (.int x1), g2, g3]) (st' := [.int 7, .int (sI s 145 (jN ((sI s 121 32) - 1)))]) rfl ?_
        by_cases hc5 : (sI s 145 (jN ((sI s 121 32) - 1))) = 7
        · rw [if_pos hc5] at h
          refine Q.map (A.bT (gI_of zm190 (e := (36, 3, .if_icmp .eq 83, [66])) rfl) (decide_eq_true hc5)) ?_
          cases h
          exact Q.ret (A.rv zm190 (show zM190.2.2.2.2.2[66]? = some (119, 1, .return_, []) from rfl) rfl) hl
        · rw [if_neg hc5] at h
          refine Q.map (A.bF (gI_of zm190 (e := (36, 3, .if_icmp .eq 83, [66])) rfl) (fun q => hc5 (of_decide_eq_true q))) ?_
          refine Q.run zm190 1 (i' := 22) (ls' := [some (.ref 121), some (.int x1), g2, g3]) (st' := [.ref 121]) rfl ?_
          refine Q.map (A.gf (gI_of zm190 (e := (40, 3, .getfield 80, [9, 30])) rfl) (hl.lt (a := 121) (by decide)) (hl.T (a := 121) (p := (9, 45)) 43 rfl rfl) (by decide) (hl.R 46 rfl)) ?_
          refine Q.run zm190 1 (i' := 24) (ls' := [some (.ref 121), some (.int x1), g2, g3]) (st' := [.ref 121, .ref 145]) rfl ?_
          refine Q.map (A.gf (gI_of zm190 (e := (44, 3, .getfield 147, [9, 32])) rfl) (hl.lt (a := 121) (by decide)) (hl.T (a := 121) (p := (9, 45)) 43 rfl rfl) (by decide) rfl) ?_
          refine Q.run zm190 2 (i' := 27) (ls' := [some (.ref 121), some (.int x1), g2, g3]) (st' := [.int ((sI s 121 32) - 1), .ref 145]) rfl ?_
          obtain ⟨hc6, h⟩ := ite_so h
          refine Q.map (A.ia (gI_of zm190 (e := (49, 1, .iaload, [])) rfl) (hl.lt (a := 145) (by decide)) (hl.T (a := 145) (p := (100, 300)) 67 rfl rfl) hc6) ?_
          obtain ⟨r9, hc8, h⟩ := bu_so h
          have hq7 : Q 2 sio tt cc d 191 0 [some (.int (sI s 145 (jN ((sI s 121 32) - 1))))] [] s (.inl (some (.int r9)), s) := dt191 (by omega) hl  hc8
          refine Q.callI (gC_st zm190 (show zM190.2.2.2.2.2[28]? = some (50, 3, .invokestatic 150, [0, 191, 1]) from rfl) zm191 (show aC 1 [.int (sI s 145 (jN ((sI s 121 32) - 1)))] 1 = some ([some (.int (sI s 145 (jN ((sI s 121 32) - 1))))], []) from rfl)) hq7 ?_
          refine Q.run zm190 1 (i' := 30) (ls' := [some (.ref 121), some (.int x1), g2, g3]) (st' := [.int x1, .int r9]) rfl ?_
          by_cases hc10 : r9 < x1
          · rw [if_pos hc10] at h
            refine Q.map (A.bT (gI_of zm190 (e := (54, 3, .if_icmp .lt 65, [66])) rfl) (decide_eq_true hc10)) ?_
            cases h
            exact Q.ret (A.rv zm190 (show zM190.2.2.2.2.2[66]? = some (119, 1, .return_, []) from rfl) rfl) hl
          · rw [if_neg hc10] at h
            refine Q.map (A.bF (gI_of zm190 (e := (54, 3, .if_icmp .lt 65, [66])) rfl) (fun q => hc10 (of_decide_eq_true q))) ?_
            refine Q.run zm190 2 (i' := 33) (ls' := [some (.ref 121), some (.int x1), g2, g3]) (st' := [.ref 121, .ref 121]) rfl ?_
            refine Q.map (A.gf (gI_of zm190 (e := (59, 3, .getfield 147, [9, 32])) rfl) (hl.lt (a := 121) (by decide)) (hl.T (a := 121) (p := (9, 45)) 43 rfl rfl) (by decide) rfl) ?_
            refine Q.run zm190 2 (i' := 36) (ls' := [some (.ref 121), some (.int x1), g2, g3]) (st' := [.int ((sI s 121 32) - 1), .ref 121]) rfl ?_
            obtain ⟨s11, hs12, h⟩ := nx_so h
            refine Q.pf hs12 rfl (gI_of zm190 (e := (64, 3, .putfield 147, [9, 32, 0])) rfl) (hl.lt (a := 121) (by decide)) (by decide) (hl.T (a := 121) (p := (9, 45)) 43 rfl rfl) (by decide) rfl rfl ?_
            have hl13 : Ly tt cc s11 := by rw [hs12]; exact hl.wId (by decide)
            refine Q.run zm190 1 (i' := 38) (ls' := [some (.ref 121), some (.int x1), g2, g3]) (st' := [.ref 121]) rfl ?_
            refine Q.map (A.gf (gI_of zm190 (e := (68, 3, .getfield 83, [9, 31])) rfl) (hl13.lt (a := 121) (by decide)) (hl13.T (a := 121) (p := (9, 45)) 43 rfl rfl) (by decide) (hl13.R 47 rfl)) ?_
            refine Q.run zm190 1 (i' := 40) (ls' := [some (.ref 121), some (.int x1), g2, g3]) (st' := [.ref 121, .ref 146]) rfl ?_
            refine Q.map (A.gf (gI_of zm190 (e := (72, 3, .getfield 147, [9, 32])) rfl) (hl13.lt (a := 121) (by decide)) (hl13.T (a := 121) (p := (9, 45)) 43 rfl rfl) (by decide) rfl) ?_
            obtain ⟨hc14, h⟩ := ite_so h
            refine Q.map (A.ia (gI_of zm190 (e := (75, 1, .iaload, [])) rfl) (hl13.lt (a := 146) (by decide)) (hl13.T (a := 146) (p := (100, 300)) 68 rfl rfl) hc14) ?_
            refine Q.run zm190 2 (i' := 44) (ls' := [some (.ref 121), some (.int x1), some (.int (sI s11 146 (jN (sI s11 121 32)))), g3]) (st' := [.ref 121]) rfl ?_
            obtain ⟨r18, s17, hc16, h⟩ := bv_so h
            have hq15 : Q 2 sio tt cc d 192 0 [some (.ref 121)] [] s11 (.inl (some (.int r18)), s17) := dt192 (by omega) hl13  hc16
            refine Q.callI (gC_vi zm190 (show zM190.2.2.2.2.2[44]? = some (78, 3, .invokevirtual 153, [0, 192, 0, 9]) from rfl) zm192 (hl13.lt (a := 121) (by decide)) (hl13.T (a := 121) (p := (9, 45)) 43 rfl rfl) rfl (show aCr 0 121 [.ref 121] 1 = some ([some (.ref 121)], []) from rfl)) hq15 ?_
            refine Q.run zm190 2 (i' := 47) (ls' := [some (.ref 121), some (.int x1), some (.int (sI s11 146 (jN (sI s11 121 32)))), some (.int r18)]) (st' := [.ref 121]) rfl ?_
            refine Q.map (A.gf (gI_of zm190 (e := (83, 3, .getfield 80, [9, 30])) rfl) (hq15.1.lt (a := 121) (by decide)) (hq15.1.T (a := 121) (p := (9, 45)) 43 rfl rfl) (by decide) (hq15.1.R 46 rfl)) ?_
            refine Q.run zm190 1 (i' := 49) (ls' := [some (.ref 121), some (.int x1), some (.int (sI s11 146 (jN (sI s11 121 32)))), some (.int r18)]) (st' := [.ref 121, .ref 145]) rfl ?_
            refine Q.map (A.gf (gI_of zm190 (e := (87, 3, .getfield 147, [9, 32])) rfl) (hq15.1.lt (a := 121) (by decide)) (hq15.1.T (a := 121) (p := (9, 45)) 43 rfl rfl) (by decide) rfl) ?_
            obtain ⟨hc19, h⟩ := ite_so h
            refine Q.map (A.ia (gI_of zm190 (e := (90, 1, .iaload, [])) rfl) (hq15.1.lt (a := 145) (by decide)) (hq15.1.T (a := 145) (p := (100, 300)) 67 rfl rfl) hc19) ?_
            refine Q.run zm190 1 (i' := 52) (ls' := [some (.ref 121), some (.int x1), some (.int (sI s11 146 (jN (sI s11 121 32)))), some (.int r18)]) (st' := [.int 10, .int (sI s17 145 (jN (sI s17 121 32)))]) rfl ?_
            by_cases hc20 : (sI s17 145 (jN (sI s17 121 32))) = 10
            · rw [if_pos hc20] at h
              refine Q.map (A.bT (gI_of zm190 (e := (93, 3, .if_icmp .eq 12, [58])) rfl) (decide_eq_true hc20)) ?_
              exact dt190_58 hd ih hq15.1  h
            · rw [if_neg hc20] at h
              refine Q.map (A.bF (gI_of zm190 (e := (93, 3, .if_icmp .eq 12, [58])) rfl) (fun q => hc20 (of_decide_eq_true q))) ?_
              refine Q.run zm190 3 (i' := 56) (ls' := [some (.ref 121), some (.int x1), some (.int (sI s11 146 (jN (sI s11 121 32)))), some (.int r18)]) (st' := [.ref 121, .int (sI s11 146 (jN (sI s11 121 32))), .ref 121]) rfl ?_
              obtain ⟨r24, s23, hc22, h⟩ := bv_so h
              have hq21 : Q 2 sio tt cc d 192 0 [some (.ref 121)] [] s17 (.inl (some (.int r24)), s23) := dt192 (by omega) hq15.1  hc22
              refine Q.callI (gC_vi zm190 (show zM190.2.2.2.2.2[56]? = some (99, 3, .invokevirtual 153, [0, 192, 0, 9]) from rfl) zm192 (hq15.1.lt (a := 121) (by decide)) (hq15.1.T (a := 121) (p := (9, 45)) 43 rfl rfl) rfl (show aCr 0 121 [.ref 121, .int (sI s11 146 (jN (sI s11 121 32))), .ref 121] 1 = some ([some (.ref 121)], [.int (sI s11 146 (jN (sI s11 121 32))), .ref 121]) from rfl)) hq21 ?_
              obtain ⟨s27, hc26, h⟩ := bu_so h
              have hq25 : Q 2 sio tt cc d 193 0 [some (.ref 121), some (.int (sI s11 146 (jN (sI s11 121 32)))), some (.int r24)] [] s23 (.inl none, s27) := dt193 (by omega) hq21.1  hc26
              refine Q.callV (gC_vi zm190 (show zM190.2.2.2.2.2[57]? = some (102, 3, .invokevirtual 157, [0, 193, 2, 9]) from rfl) zm193 (hq21.1.lt (a := 121) (by decide)) (hq21.1.T (a := 121) (p := (9, 45)) 43 rfl rfl) rfl (show aCr 2 121 [.int r24, .int (sI s11 146 (jN (sI s11 121 32))), .ref 121] 3 = some ([some (.ref 121), some (.int (sI s11 146 (jN (sI s11 121 32)))), some (.int r24)], []) from rfl)) hq25 ?_
              exact dt190_58 hd ih hq25.1  h
def dm190 (x1 : Int32) (s : aS) : Option (aS) :=
  dm190_0 5000 x1 s
set_option maxRecDepth 100000 in
theorem dt190 {sio : Bool} {tt : Nat} {cc : Nat → Nat → Int32} {d : Nat} (hd : 1 ≤ d) {x1 : Int32} {s : aS} (hl : Ly tt cc s) {o : aS} (h : dm190  x1 s = some o) : Q 2 sio tt cc d 190 0 [some (.ref 121), some (.int x1), none, none] [] s (.inl none, o) := by
  unfold dm190 at h
  obtain ⟨d, rfl⟩ : ∃ e, d = e + 1 := ⟨d - 1, by omega⟩
  exact dt190_0 hd _ hl  h
/-! 189 FormulaTreesModel.close()V -/
set_option maxRecDepth 100000 in
theorem zm189 : zP[189]? = some zM189 := rfl
def dm189_39 (s : aS) : Option (aS) :=
  nx (wI s 121 36 0) fun s1 =>
  nx (wI s1 121 35 0) fun s4 =>
  nx (wI s4 121 26 ((sI s4 121 26) + 1)) fun s7 =>
  some s7
set_option maxRecDepth 100000 in
theorem dt189_39 {sio : Bool} {tt : Nat} {cc : Nat → Nat → Int32} {d : Nat} (hd : 2 ≤ d) {g1 : Option Value} {s : aS} (hl : Ly tt cc s) {o : aS} (h : dm189_39  s = some o) : Q 2 sio tt cc d 189 39 [some (.ref 121), g1] [] s (.inl none, o) := by
  unfold dm189_39 at h
  obtain ⟨d, rfl⟩ : ∃ e, d = e + 1 := ⟨d - 1, by omega⟩
  refine Q.run zm189 2 (i' := 41) (ls' := [some (.ref 121), g1]) (st' := [.int 0, .ref 121]) rfl ?_
  obtain ⟨s1, hs2, h⟩ := nx_so h
  refine Q.pf hs2 rfl (gI_of zm189 (e := (72, 3, .putfield 246, [9, 36, 1])) rfl) (hl.lt (a := 121) (by decide)) (by decide) (hl.T (a := 121) (p := (9, 45)) 43 rfl rfl) (by decide) rfl rfl ?_
  have hl3 : Ly tt cc s1 := by rw [hs2]; exact hl.wId (by decide)
  refine Q.run zm189 2 (i' := 44) (ls' := [some (.ref 121), g1]) (st' := [.int 0, .ref 121]) rfl ?_
  obtain ⟨s4, hs5, h⟩ := nx_so h
  refine Q.pf hs5 rfl (gI_of zm189 (e := (77, 3, .putfield 243, [9, 35, 0])) rfl) (hl3.lt (a := 121) (by decide)) (by decide) (hl3.T (a := 121) (p := (9, 45)) 43 rfl rfl) (by decide) rfl rfl ?_
  have hl6 : Ly tt cc s4 := by rw [hs5]; exact hl3.wId (by decide)
  refine Q.run zm189 2 (i' := 47) (ls' := [some (.ref 121), g1]) (st' := [.ref 121, .ref 121]) rfl ?_
  refine Q.map (A.gf (gI_of zm189 (e := (82, 3, .getfield 138, [9, 26])) rfl) (hl6.lt (a := 121) (by decide)) (hl6.T (a := 121) (p := (9, 45)) 43 rfl rfl) (by decide) rfl) ?_
  refine Q.run zm189 2 (i' := 50) (ls' := [some (.ref 121), g1]) (st' := [.int ((sI s4 121 26) + 1), .ref 121]) rfl ?_
  obtain ⟨s7, hs8, h⟩ := nx_so h
  refine Q.pf hs8 rfl (gI_of zm189 (e := (87, 3, .putfield 138, [9, 26, 0])) rfl) (hl6.lt (a := 121) (by decide)) (by decide) (hl6.T (a := 121) (p := (9, 45)) 43 rfl rfl) (by decide) rfl rfl ?_
  have hl9 : Ly tt cc s7 := by rw [hs8]; exact hl6.wId (by decide)
  cases h
  exact Q.ret (A.rv zm189 (show zM189.2.2.2.2.2[51]? = some (90, 1, .return_, []) from rfl) rfl) hl9
def dm189_36 (x1 : Int32) (s : aS) : Option (aS) :=
  bu (dm194 x1 s) fun s3 =>
  dm189_39 s3
set_option maxRecDepth 100000 in
theorem dt189_36 {sio : Bool} {tt : Nat} {cc : Nat → Nat → Int32} {d : Nat} (hd : 2 ≤ d) {x1 : Int32} {s : aS} (hl : Ly tt cc s) {o : aS} (h : dm189_36  x1 s = some o) : Q 2 sio tt cc d 189 36 [some (.ref 121), some (.int x1)] [] s (.inl none, o) := by
  unfold dm189_36 at h
  obtain ⟨d, rfl⟩ : ∃ e, d = e + 1 := ⟨d - 1, by omega⟩
  refine Q.run zm189 2 (i' := 38) (ls' := [some (.ref 121), some (.int x1)]) (st' := [.int x1, .ref 121]) rfl ?_
  obtain ⟨s3, hc2, h⟩ := bu_so h
  have hq1 : Q 2 sio tt cc d 194 0 [some (.ref 121), some (.int x1)] [] s (.inl none, s3) := dt194 (by omega) hl  hc2
  refine Q.callV (gC_vi zm189 (show zM189.2.2.2.2.2[38]? = some (67, 3, .invokevirtual 161, [0, 194, 1, 9]) from rfl) zm194 (hl.lt (a := 121) (by decide)) (hl.T (a := 121) (p := (9, 45)) 43 rfl rfl) rfl (show aCr 1 121 [.int x1, .ref 121] 2 = some ([some (.ref 121), some (.int x1)], []) from rfl)) hq1 ?_
  exact dt189_39 hd hq1.1  h
def dm189 (s : aS) : Option (aS) :=
  bu (dm190 0 s) fun s3 =>
  nx (wI s3 121 32 ((sI s3 121 32) - 1)) fun s4 =>
  nx (wI s4 121 33 ((sI s4 121 33) - 1)) fun s7 =>
  if aB (sI s7 121 32) 300 then
    if (sI s7 145 (jN (sI s7 121 32))) = 7 then
      if aB (sI s7 121 32) 300 then
        if (sI s7 121 36) = 0 then
          bv (dm192 s7) fun r17 s16 =>
          bu (dm193 (sI s7 146 (jN (sI s7 121 32))) r17 s16) fun s20 =>
          dm189_36 (sI s7 146 (jN (sI s7 121 32))) s20
        else
          dm189_36 (sI s7 146 (jN (sI s7 121 32))) s7
      else none
    else
      dm189_39 s7
  else none
set_option maxRecDepth 100000 in
theorem dt189 {sio : Bool} {tt : Nat} {cc : Nat → Nat → Int32} {d : Nat} (hd : 2 ≤ d) {s : aS} (hl : Ly tt cc s) {o : aS} (h : dm189  s = some o) : Q 2 sio tt cc d 189 0 [some (.ref 121), none] [] s (.inl none, o) := by
  unfold dm189 at h
  obtain ⟨d, rfl⟩ : ∃ e, d = e + 1 := ⟨d - 1, by omega⟩
  refine Q.run zm189 2 (i' := 2) (ls' := [some (.ref 121), none]) (st' := [.int 0, .ref 121]) rfl ?_
  obtain ⟨s3, hc2, h⟩ := bu_so h
  have hq1 : Q 2 sio tt cc d 190 0 [some (.ref 121), some (.int 0), none, none] [] s (.inl none, s3) := dt190 (by omega) hl  hc2
  refine Q.callV (gC_vi zm189 (show zM189.2.2.2.2.2[2]? = some (2, 3, .invokevirtual 282, [0, 190, 1, 9]) from rfl) zm190 (hl.lt (a := 121) (by decide)) (hl.T (a := 121) (p := (9, 45)) 43 rfl rfl) rfl (show aCr 1 121 [.int 0, .ref 121] 4 = some ([some (.ref 121), some (.int 0), none, none], []) from rfl)) hq1 ?_
  refine Q.run zm189 2 (i' := 5) (ls' := [some (.ref 121), none]) (st' := [.ref 121, .ref 121]) rfl ?_
  refine Q.map (A.gf (gI_of zm189 (e := (7, 3, .getfield 147, [9, 32])) rfl) (hq1.1.lt (a := 121) (by decide)) (hq1.1.T (a := 121) (p := (9, 45)) 43 rfl rfl) (by decide) rfl) ?_
  refine Q.run zm189 2 (i' := 8) (ls' := [some (.ref 121), none]) (st' := [.int ((sI s3 121 32) - 1), .ref 121]) rfl ?_
  obtain ⟨s4, hs5, h⟩ := nx_so h
  refine Q.pf hs5 rfl (gI_of zm189 (e := (12, 3, .putfield 147, [9, 32, 0])) rfl) (hq1.1.lt (a := 121) (by decide)) (by decide) (hq1.1.T (a := 121) (p := (9, 45)) 43 rfl rfl) (by decide) rfl rfl ?_
  have hl6 : Ly tt cc s4 := by rw [hs5]; exact hq1.1.wId (by decide)
  refine Q.run zm189 2 (i' := 11) (ls' := [some (.ref 121), none]) (st' := [.ref 121, .ref 121]) rfl ?_
  refine Q.map (A.gf (gI_of zm189 (e := (17, 3, .getfield 237, [9, 33])) rfl) (hl6.lt (a := 121) (by decide)) (hl6.T (a := 121) (p := (9, 45)) 43 rfl rfl) (by decide) rfl) ?_
  refine Q.run zm189 2 (i' := 14) (ls' := [some (.ref 121), none]) (st' := [.int ((sI s4 121 33) - 1), .ref 121]) rfl ?_
  obtain ⟨s7, hs8, h⟩ := nx_so h
  refine Q.pf hs8 rfl (gI_of zm189 (e := (22, 3, .putfield 237, [9, 33, 0])) rfl) (hl6.lt (a := 121) (by decide)) (by decide) (hl6.T (a := 121) (p := (9, 45)) 43 rfl rfl) (by decide) rfl rfl ?_
  have hl9 : Ly tt cc s7 := by rw [hs8]; exact hl6.wId (by decide)
  refine Q.run zm189 1 (i' := 16) (ls' := [some (.ref 121), none]) (st' := [.ref 121]) rfl ?_
  refine Q.map (A.gf (gI_of zm189 (e := (26, 3, .getfield 80, [9, 30])) rfl) (hl9.lt (a := 121) (by decide)) (hl9.T (a := 121) (p := (9, 45)) 43 rfl rfl) (by decide) (hl9.R 46 rfl)) ?_
  refine Q.run zm189 1 (i' := 18) (ls' := [some (.ref 121), none]) (st' := [.ref 121, .ref 145]) rfl ?_
  refine Q.map (A.gf (gI_of zm189 (e := (30, 3, .getfield 147, [9, 32])) rfl) (hl9.lt (a := 121) (by decide)) (hl9.T (a := 121) (p := (9, 45)) 43 rfl rfl) (by decide) rfl) ?_
  obtain ⟨hc10, h⟩ := ite_so h
  refine Q.map (A.ia (gI_of zm189 (e := (33, 1, .iaload, [])) rfl) (hl9.lt (a := 145) (by decide)) (hl9.T (a := 145) (p := (100, 300)) 67 rfl rfl) hc10) ?_
  refine Q.run zm189 1 (i' := 21) (ls' := [some (.ref 121), none]) (st' := [.int 7, .int (sI s7 145 (jN (sI s7 121 32)))]) rfl ?_
  by_cases hc11 : (sI s7 145 (jN (sI s7 121 32))) = 7
  · rw [if_pos hc11] at h
    refine Q.map (A.bF (gI_of zm189 (e := (36, 3, .if_icmp .ne 34, [39])) rfl) (fun q => of_decide_eq_true q hc11)) ?_
    refine Q.run zm189 1 (i' := 23) (ls' := [some (.ref 121), none]) (st' := [.ref 121]) rfl ?_
    refine Q.map (A.gf (gI_of zm189 (e := (40, 3, .getfield 83, [9, 31])) rfl) (hl9.lt (a := 121) (by decide)) (hl9.T (a := 121) (p := (9, 45)) 43 rfl rfl) (by decide) (hl9.R 47 rfl)) ?_
    refine Q.run zm189 1 (i' := 25) (ls' := [some (.ref 121), none]) (st' := [.ref 121, .ref 146]) rfl ?_
    refine Q.map (A.gf (gI_of zm189 (e := (44, 3, .getfield 147, [9, 32])) rfl) (hl9.lt (a := 121) (by decide)) (hl9.T (a := 121) (p := (9, 45)) 43 rfl rfl) (by decide) rfl) ?_
    obtain ⟨hc12, h⟩ := ite_so h
    refine Q.map (A.ia (gI_of zm189 (e := (47, 1, .iaload, [])) rfl) (hl9.lt (a := 146) (by decide)) (hl9.T (a := 146) (p := (100, 300)) 68 rfl rfl) hc12) ?_
    refine Q.run zm189 2 (i' := 29) (ls' := [some (.ref 121), some (.int (sI s7 146 (jN (sI s7 121 32))))]) (st' := [.ref 121]) rfl ?_
    refine Q.map (A.gf (gI_of zm189 (e := (50, 3, .getfield 246, [9, 36])) rfl) (hl9.lt (a := 121) (by decide)) (hl9.T (a := 121) (p := (9, 45)) 43 rfl rfl) (by decide) rfl) ?_
    by_cases hc13 : (sI s7 121 36) = 0
    · rw [if_pos hc13] at h
      refine Q.map (A.zF (gI_of zm189 (e := (53, 3, .ifCond .ne 12, [36])) rfl) (fun q => of_decide_eq_true q hc13)) ?_
      refine Q.run zm189 3 (i' := 34) (ls' := [some (.ref 121), some (.int (sI s7 146 (jN (sI s7 121 32))))]) (st' := [.ref 121, .int (sI s7 146 (jN (sI s7 121 32))), .ref 121]) rfl ?_
      obtain ⟨r17, s16, hc15, h⟩ := bv_so h
      have hq14 : Q 2 sio tt cc d 192 0 [some (.ref 121)] [] s7 (.inl (some (.int r17)), s16) := dt192 (by omega) hl9  hc15
      refine Q.callI (gC_vi zm189 (show zM189.2.2.2.2.2[34]? = some (59, 3, .invokevirtual 153, [0, 192, 0, 9]) from rfl) zm192 (hl9.lt (a := 121) (by decide)) (hl9.T (a := 121) (p := (9, 45)) 43 rfl rfl) rfl (show aCr 0 121 [.ref 121, .int (sI s7 146 (jN (sI s7 121 32))), .ref 121] 1 = some ([some (.ref 121)], [.int (sI s7 146 (jN (sI s7 121 32))), .ref 121]) from rfl)) hq14 ?_
      obtain ⟨s20, hc19, h⟩ := bu_so h
      have hq18 : Q 2 sio tt cc d 193 0 [some (.ref 121), some (.int (sI s7 146 (jN (sI s7 121 32)))), some (.int r17)] [] s16 (.inl none, s20) := dt193 (by omega) hq14.1  hc19
      refine Q.callV (gC_vi zm189 (show zM189.2.2.2.2.2[35]? = some (62, 3, .invokevirtual 157, [0, 193, 2, 9]) from rfl) zm193 (hq14.1.lt (a := 121) (by decide)) (hq14.1.T (a := 121) (p := (9, 45)) 43 rfl rfl) rfl (show aCr 2 121 [.int r17, .int (sI s7 146 (jN (sI s7 121 32))), .ref 121] 3 = some ([some (.ref 121), some (.int (sI s7 146 (jN (sI s7 121 32)))), some (.int r17)], []) from rfl)) hq18 ?_
      exact dt189_36 hd hq18.1  h
    · rw [if_neg hc13] at h
      refine Q.map (A.zT (gI_of zm189 (e := (53, 3, .ifCond .ne 12, [36])) rfl) (decide_eq_true hc13)) ?_
      exact dt189_36 hd hl9  h
  · rw [if_neg hc11] at h
    refine Q.map (A.bT (gI_of zm189 (e := (36, 3, .if_icmp .ne 34, [39])) rfl) (decide_eq_true hc11)) ?_
    exact dt189_39 hd hl9  h
end
section
/-! 196 FormulaTreesModel.isDigit(I)Z -/
set_option maxRecDepth 100000 in
theorem zm196 : zP[196]? = some zM196 := rfl
def dm196 (x0 : Int32) : Option (Int32) :=
  if x0 < 48 then
    some 0
  else
    if 57 < x0 then
      some 0
    else
      some 1
set_option maxRecDepth 100000 in
theorem dt196 {sio : Bool} {tt : Nat} {cc : Nat → Nat → Int32} {d : Nat} (hd : 0 ≤ d) {x0 : Int32} {s : aS} (hl : Ly tt cc s) {o : Int32} (h : dm196  x0 = some o) : Q 2 sio tt cc d 196 0 [some (.int x0)] [] s (.inl (some (.int o)), s) := by
  unfold dm196 at h
  refine Q.run zm196 2 (i' := 2) (ls' := [some (.int x0)]) (st' := [.int 48, .int x0]) rfl ?_
  by_cases hc1 : x0 < 48
  · rw [if_pos hc1] at h
    refine Q.map (A.bT (gI_of zm196 (e := (3, 3, .if_icmp .lt 13, [8])) rfl) (decide_eq_true hc1)) ?_
    refine Q.run zm196 1 (i' := 9) (ls' := [some (.int x0)]) (st' := [.int 0]) rfl ?_
    cases h
    exact Q.ret (A.ri zm196 (show zM196.2.2.2.2.2[9]? = some (17, 1, .ireturn, []) from rfl) rfl rfl) hl
  · rw [if_neg hc1] at h
    refine Q.map (A.bF (gI_of zm196 (e := (3, 3, .if_icmp .lt 13, [8])) rfl) (fun q => hc1 (of_decide_eq_true q))) ?_
    refine Q.run zm196 2 (i' := 5) (ls' := [some (.int x0)]) (st' := [.int 57, .int x0]) rfl ?_
    by_cases hc2 : 57 < x0
    · rw [if_pos hc2] at h
      refine Q.map (A.bT (gI_of zm196 (e := (9, 3, .if_icmp .gt 7, [8])) rfl) (decide_eq_true hc2)) ?_
      refine Q.run zm196 1 (i' := 9) (ls' := [some (.int x0)]) (st' := [.int 0]) rfl ?_
      cases h
      exact Q.ret (A.ri zm196 (show zM196.2.2.2.2.2[9]? = some (17, 1, .ireturn, []) from rfl) rfl rfl) hl
    · rw [if_neg hc2] at h
      refine Q.map (A.bF (gI_of zm196 (e := (9, 3, .if_icmp .gt 7, [8])) rfl) (fun q => hc2 (of_decide_eq_true q))) ?_
      refine Q.run zm196 2 (i' := 9) (ls' := [some (.int x0)]) (st' := [.int 1]) rfl ?_
      cases h
      exact Q.ret (A.ri zm196 (show zM196.2.2.2.2.2[9]? = some (17, 1, .ireturn, []) from rfl) rfl rfl) hl
/-! 198 FormulaTreesModel.isLetter(I)Z -/
set_option maxRecDepth 100000 in
theorem zm198 : zP[198]? = some zM198 := rfl
def dm198_12 : Option (Int32) :=
  some 1
set_option maxRecDepth 100000 in
theorem dt198_12 {sio : Bool} {tt : Nat} {cc : Nat → Nat → Int32} {d : Nat} (hd : 0 ≤ d) {x0 : Int32} {s : aS} (hl : Ly tt cc s) {o : Int32} (h : dm198_12   = some o) : Q 2 sio tt cc d 198 12 [some (.int x0)] [] s (.inl (some (.int o)), s) := by
  unfold dm198_12 at h
  refine Q.run zm198 2 (i' := 15) (ls' := [some (.int x0)]) (st' := [.int 1]) rfl ?_
  cases h
  exact Q.ret (A.ri zm198 (show zM198.2.2.2.2.2[15]? = some (29, 1, .ireturn, []) from rfl) rfl rfl) hl
def dm198_6 (x0 : Int32) : Option (Int32) :=
  if x0 < 65 then
    some 0
  else
    if 90 < x0 then
      some 0
    else
      dm198_12 
set_option maxRecDepth 100000 in
theorem dt198_6 {sio : Bool} {tt : Nat} {cc : Nat → Nat → Int32} {d : Nat} (hd : 0 ≤ d) {x0 : Int32} {s : aS} (hl : Ly tt cc s) {o : Int32} (h : dm198_6  x0 = some o) : Q 2 sio tt cc d 198 6 [some (.int x0)] [] s (.inl (some (.int o)), s) := by
  unfold dm198_6 at h
  refine Q.run zm198 2 (i' := 8) (ls' := [some (.int x0)]) (st' := [.int 65, .int x0]) rfl ?_
  by_cases hc1 : x0 < 65
  · rw [if_pos hc1] at h
    refine Q.map (A.bT (gI_of zm198 (e := (15, 3, .if_icmp .lt 13, [14])) rfl) (decide_eq_true hc1)) ?_
    refine Q.run zm198 1 (i' := 15) (ls' := [some (.int x0)]) (st' := [.int 0]) rfl ?_
    cases h
    exact Q.ret (A.ri zm198 (show zM198.2.2.2.2.2[15]? = some (29, 1, .ireturn, []) from rfl) rfl rfl) hl
  · rw [if_neg hc1] at h
    refine Q.map (A.bF (gI_of zm198 (e := (15, 3, .if_icmp .lt 13, [14])) rfl) (fun q => hc1 (of_decide_eq_true q))) ?_
    refine Q.run zm198 2 (i' := 11) (ls' := [some (.int x0)]) (st' := [.int 90, .int x0]) rfl ?_
    by_cases hc2 : 90 < x0
    · rw [if_pos hc2] at h
      refine Q.map (A.bT (gI_of zm198 (e := (21, 3, .if_icmp .gt 7, [14])) rfl) (decide_eq_true hc2)) ?_
      refine Q.run zm198 1 (i' := 15) (ls' := [some (.int x0)]) (st' := [.int 0]) rfl ?_
      cases h
      exact Q.ret (A.ri zm198 (show zM198.2.2.2.2.2[15]? = some (29, 1, .ireturn, []) from rfl) rfl rfl) hl
    · rw [if_neg hc2] at h
      refine Q.map (A.bF (gI_of zm198 (e := (21, 3, .if_icmp .gt 7, [14])) rfl) (fun q => hc2 (of_decide_eq_true q))) ?_
      exact dt198_12 hd hl  h
def dm198 (x0 : Int32) : Option (Int32) :=
  if x0 < 97 then
    dm198_6 x0
  else
    if x0 ≤ 122 then
      dm198_12 
    else
      dm198_6 x0
set_option maxRecDepth 100000 in
theorem dt198 {sio : Bool} {tt : Nat} {cc : Nat → Nat → Int32} {d : Nat} (hd : 0 ≤ d) {x0 : Int32} {s : aS} (hl : Ly tt cc s) {o : Int32} (h : dm198  x0 = some o) : Q 2 sio tt cc d 198 0 [some (.int x0)] [] s (.inl (some (.int o)), s) := by
  unfold dm198 at h
  refine Q.run zm198 2 (i' := 2) (ls' := [some (.int x0)]) (st' := [.int 97, .int x0]) rfl ?_
  by_cases hc1 : x0 < 97
  · rw [if_pos hc1] at h
    refine Q.map (A.bT (gI_of zm198 (e := (3, 3, .if_icmp .lt 9, [6])) rfl) (decide_eq_true hc1)) ?_
    exact dt198_6 hd hl  h
  · rw [if_neg hc1] at h
    refine Q.map (A.bF (gI_of zm198 (e := (3, 3, .if_icmp .lt 9, [6])) rfl) (fun q => hc1 (of_decide_eq_true q))) ?_
    refine Q.run zm198 2 (i' := 5) (ls' := [some (.int x0)]) (st' := [.int 122, .int x0]) rfl ?_
    by_cases hc2 : x0 ≤ 122
    · rw [if_pos hc2] at h
      refine Q.map (A.bT (gI_of zm198 (e := (9, 3, .if_icmp .le 15, [12])) rfl) (decide_eq_true hc2)) ?_
      exact dt198_12 hd hl  h
    · rw [if_neg hc2] at h
      refine Q.map (A.bF (gI_of zm198 (e := (9, 3, .if_icmp .le 15, [12])) rfl) (fun q => hc2 (of_decide_eq_true q))) ?_
      exact dt198_6 hd hl  h
/-! 197 FormulaTreesModel.begins(I)Z -/
set_option maxRecDepth 100000 in
theorem zm197 : zP[197]? = some zM197 := rfl
def dm197_6 : Option (Int32) :=
  some 1
set_option maxRecDepth 100000 in
theorem dt197_6 {sio : Bool} {tt : Nat} {cc : Nat → Nat → Int32} {d : Nat} (hd : 1 ≤ d) {x0 : Int32} {s : aS} (hl : Ly tt cc s) {o : Int32} (h : dm197_6   = some o) : Q 2 sio tt cc d 197 6 [some (.int x0)] [] s (.inl (some (.int o)), s) := by
  unfold dm197_6 at h
  obtain ⟨d, rfl⟩ : ∃ e, d = e + 1 := ⟨d - 1, by omega⟩
  refine Q.run zm197 2 (i' := 9) (ls' := [some (.int x0)]) (st' := [.int 1]) rfl ?_
  cases h
  exact Q.ret (A.ri zm197 (show zM197.2.2.2.2.2[9]? = some (18, 1, .ireturn, []) from rfl) rfl rfl) hl
def dm197 (x0 : Int32) : Option (Int32) :=
  bu (dm198 x0) fun r3 =>
  if r3 = 0 then
    if x0 = 95 then
      dm197_6 
    else
      some 0
  else
    dm197_6 
set_option maxRecDepth 100000 in
theorem dt197 {sio : Bool} {tt : Nat} {cc : Nat → Nat → Int32} {d : Nat} (hd : 1 ≤ d) {x0 : Int32} {s : aS} (hl : Ly tt cc s) {o : Int32} (h : dm197  x0 = some o) : Q 2 sio tt cc d 197 0 [some (.int x0)] [] s (.inl (some (.int o)), s) := by
  unfold dm197 at h
  obtain ⟨d, rfl⟩ : ∃ e, d = e + 1 := ⟨d - 1, by omega⟩
  refine Q.run zm197 1 (i' := 1) (ls' := [some (.int x0)]) (st' := [.int x0]) rfl ?_
  obtain ⟨r3, hc2, h⟩ := bu_so h
  have hq1 : Q 2 sio tt cc d 198 0 [some (.int x0)] [] s (.inl (some (.int r3)), s) := dt198 (by omega) hl  hc2
  refine Q.callI (gC_st zm197 (show zM197.2.2.2.2.2[1]? = some (1, 3, .invokestatic 93, [0, 198, 1]) from rfl) zm198 (show aC 1 [.int x0] 1 = some ([some (.int x0)], []) from rfl)) hq1 ?_
  by_cases hc4 : r3 = 0
  · rw [if_pos hc4] at h
    refine Q.map (A.zF (gI_of zm197 (e := (4, 3, .ifCond .ne 9, [6])) rfl) (fun q => of_decide_eq_true q hc4)) ?_
    refine Q.run zm197 2 (i' := 5) (ls' := [some (.int x0)]) (st' := [.int 95, .int x0]) rfl ?_
    by_cases hc5 : x0 = 95
    · rw [if_pos hc5] at h
      refine Q.map (A.bF (gI_of zm197 (e := (10, 3, .if_icmp .ne 7, [8])) rfl) (fun q => of_decide_eq_true q hc5)) ?_
      exact dt197_6 hd hl  h
    · rw [if_neg hc5] at h
      refine Q.map (A.bT (gI_of zm197 (e := (10, 3, .if_icmp .ne 7, [8])) rfl) (decide_eq_true hc5)) ?_
      refine Q.run zm197 1 (i' := 9) (ls' := [some (.int x0)]) (st' := [.int 0]) rfl ?_
      cases h
      exact Q.ret (A.ri zm197 (show zM197.2.2.2.2.2[9]? = some (18, 1, .ireturn, []) from rfl) rfl rfl) hl
  · rw [if_neg hc4] at h
    refine Q.map (A.zT (gI_of zm197 (e := (4, 3, .ifCond .ne 9, [6])) rfl) (decide_eq_true hc4)) ?_
    exact dt197_6 hd hl  h
/-! 200 FormulaTreesModel.keep(IIZ)V -/
set_option maxRecDepth 100000 in
theorem zm200 : zP[200]? = some zM200 := rfl
def dm200_40 (k19 : Int32 → Int32 → aS → Option (aS)) (x3 : Int32) (x4 : Int32) (y1 : Int32) (y2 : Int32) (s : aS) : Option (aS) :=
  if aB y1 2304 then
    nx (wI s 139 (jN y1) y2) fun s2 =>
    k19 x3 (x4 + 1) s2
  else none
set_option maxRecDepth 100000 in
theorem dt200_40 {sio : Bool} {tt : Nat} {cc : Nat → Nat → Int32} {d : Nat} (hd : 1 ≤ d) {k19 : Int32 → Int32 → aS → Option (aS)} (hk19 : ∀ {x3 : Int32} {x4 : Int32} {x1 : Int32} {x2 : Int32} {s : aS}, Ly tt cc s → ∀ {o : aS}, k19 x3 x4 s = some o → Q 2 sio tt cc d 200 19 [some (.ref 121), some (.int x1), some (.int x2), some (.int x3), some (.int x4)] [] s (.inl none, o)) {x3 : Int32} {x4 : Int32} {y1 : Int32} {y2 : Int32} {x1 : Int32} {x2 : Int32} {s : aS} (hl : Ly tt cc s) {o : aS} (h : dm200_40 k19 x3 x4 y1 y2 s = some o) : Q 2 sio tt cc d 200 40 [some (.ref 121), some (.int x1), some (.int x2), some (.int x3), some (.int x4)] [.int y2, .int y1, .ref 139] s (.inl none, o) := by
  unfold dm200_40 at h
  obtain ⟨d, rfl⟩ : ∃ e, d = e + 1 := ⟨d - 1, by omega⟩
  obtain ⟨hc1, h⟩ := ite_so h
  obtain ⟨s2, hs3, h⟩ := nx_so h
  refine Q.is hs3 rfl (gI_of zm200 (e := (73, 1, .iastore, [])) rfl) (hl.lt (a := 139) (by decide)) (by decide) (hl.T (a := 139) (p := (100, 2304)) 61 rfl rfl) hc1 ?_
  have hl4 : Ly tt cc s2 := by rw [hs3]; exact hl.wId (by decide)
  refine Q.run zm200 2 (i' := 19) (ls' := [some (.ref 121), some (.int x1), some (.int x2), some (.int x3), some (.int (x4 + 1))]) (st' := []) rfl ?_
  exact hk19 hl4  h
def dm200_19 : Nat → Int32 → Int32 → aS → Option (aS)
  | 0, _, _, _ => none
  | n + 1, x3, x4, s =>
    if (sI s 121 26) ≤ x4 then
      some s
    else
      if x3 = 0 then
        if aB x4 256 then
          dm200_40 (dm200_19 n) x3 x4 (2048 + x4) (sI s 122 (jN x4)) s
        else none
      else
        if aB x4 256 then
          bu (dm178 (sI s 122 (jN x4))) fun r7 =>
          dm200_40 (dm200_19 n) x3 x4 (2048 + x4) r7 s
        else none
set_option maxRecDepth 100000 in
theorem dt200_19 {sio : Bool} {tt : Nat} {cc : Nat → Nat → Int32} {d : Nat} (hd : 1 ≤ d) : ∀ (n : Nat) {x3 : Int32} {x4 : Int32} {x1 : Int32} {x2 : Int32} {s : aS} (_ : Ly tt cc s) {o : aS} (_ : dm200_19  n x3 x4 s = some o), Q 2 sio tt cc d 200 19 [some (.ref 121), some (.int x1), some (.int x2), some (.int x3), some (.int x4)] [] s (.inl none, o) := by
  obtain ⟨d, rfl⟩ : ∃ e, d = e + 1 := ⟨d - 1, by omega⟩
  intro n
  induction n with
  | zero => intro x3 x4 x1 x2 s hl o h; rw [dm200_19] at h; cases h
  | succ n ih =>
    intro x3 x4 x1 x2 s hl o h
    rw [dm200_19] at h
    refine Q.run zm200 2 (i' := 21) (ls' := [some (.ref 121), some (.int x1), some (.int x2), some (.int x3), some (.int x4)]) (st' := [.ref 121, .int x4]) rfl ?_
    refine Q.map (A.gf (gI_of zm200 (e := (33, 3, .getfield 138, [9, 26])) rfl) (hl.lt (a := 121) (by decide)) (hl.T (a := 121) (p := (9, 45)) 43 rfl rfl) (by decide) rfl) ?_
    by_cases hc1 : (sI s 121 26) ≤ x4
    · rw [if_pos hc1] at h
      refine Q.map (A.bT (gI_of zm200 (e := (36, 3, .if_icmp .ge 44, [43])) rfl) (decide_eq_true hc1)) ?_
      cases h
      exact Q.ret (A.rv zm200 (show zM200.2.2.2.2.2[43]? = some (80, 1, .return_, []) from rfl) rfl) hl
    · rw [if_neg hc1] at h
      refine Q.map (A.bF (gI_of zm200 (e := (36, 3, .if_icmp .ge 44, [43])) rfl) (fun q => hc1 (of_decide_eq_true q))) ?_
      refine Q.run zm200 1 (i' := 24) (ls' := [some (.ref 121), some (.int x1), some (.int x2), some (.int x3), some (.int x4)]) (st' := [.ref 121]) rfl ?_
      refine Q.map (A.gf (gI_of zm200 (e := (40, 3, .getfield 62, [9, 20])) rfl) (hl.lt (a := 121) (by decide)) (hl.T (a := 121) (p := (9, 45)) 43 rfl rfl) (by decide) (hl.R 40 rfl)) ?_
      refine Q.run zm200 4 (i' := 29) (ls' := [some (.ref 121), some (.int x1), some (.int x2), some (.int x3), some (.int x4)]) (st' := [.int x3, .int (2048 + x4), .ref 139]) rfl ?_
      by_cases hc2 : x3 = 0
      · rw [if_pos hc2] at h
        refine Q.map (A.zT (gI_of zm200 (e := (50, 3, .ifCond .eq 16, [36])) rfl) (decide_eq_true hc2)) ?_
        refine Q.run zm200 1 (i' := 37) (ls' := [some (.ref 121), some (.int x1), some (.int x2), some (.int x3), some (.int x4)]) (st' := [.ref 121, .int (2048 + x4), .ref 139]) rfl ?_
        refine Q.map (A.gf (gI_of zm200 (e := (67, 3, .getfield 7, [9, 2])) rfl) (hl.lt (a := 121) (by decide)) (hl.T (a := 121) (p := (9, 45)) 43 rfl rfl) (by decide) (hl.R 23 rfl)) ?_
        refine Q.run zm200 1 (i' := 39) (ls' := [some (.ref 121), some (.int x1), some (.int x2), some (.int x3), some (.int x4)]) (st' := [.int x4, .ref 122, .int (2048 + x4), .ref 139]) rfl ?_
        obtain ⟨hc3, h⟩ := ite_so h
        refine Q.map (A.ia (gI_of zm200 (e := (72, 1, .iaload, [])) rfl) (hl.lt (a := 122) (by decide)) (hl.T (a := 122) (p := (100, 256)) 44 rfl rfl) hc3) ?_
        exact dt200_40 hd ih hl  h
      · rw [if_neg hc2] at h
        refine Q.map (A.zF (gI_of zm200 (e := (50, 3, .ifCond .eq 16, [36])) rfl) (fun q => hc2 (of_decide_eq_true q))) ?_
        refine Q.run zm200 1 (i' := 31) (ls' := [some (.ref 121), some (.int x1), some (.int x2), some (.int x3), some (.int x4)]) (st' := [.ref 121, .int (2048 + x4), .ref 139]) rfl ?_
        refine Q.map (A.gf (gI_of zm200 (e := (54, 3, .getfield 7, [9, 2])) rfl) (hl.lt (a := 121) (by decide)) (hl.T (a := 121) (p := (9, 45)) 43 rfl rfl) (by decide) (hl.R 23 rfl)) ?_
        refine Q.run zm200 1 (i' := 33) (ls' := [some (.ref 121), some (.int x1), some (.int x2), some (.int x3), some (.int x4)]) (st' := [.int x4, .ref 122, .int (2048 + x4), .ref 139]) rfl ?_
        obtain ⟨hc4, h⟩ := ite_so h
        refine Q.map (A.ia (gI_of zm200 (e := (59, 1, .iaload, [])) rfl) (hl.lt (a := 122) (by decide)) (hl.T (a := 122) (p := (100, 256)) 44 rfl rfl) hc4) ?_
        obtain ⟨r7, hc6, h⟩ := bu_so h
        have hq5 : Q 2 sio tt cc d 178 0 [some (.int (sI s 122 (jN x4)))] [] s (.inl (some (.int r7)), s) := dt178 (by omega) hl  hc6
        refine Q.callI (gC_st zm200 (show zM200.2.2.2.2.2[34]? = some (60, 3, .invokestatic 109, [0, 178, 1]) from rfl) zm178 (show aC 1 [.int (sI s 122 (jN x4)), .int (2048 + x4), .ref 139] 1 = some ([some (.int (sI s 122 (jN x4)))], [.int (2048 + x4), .ref 139]) from rfl)) hq5 ?_
        refine Q.run zm200 1 (i' := 40) (ls' := [some (.ref 121), some (.int x1), some (.int x2), some (.int x3), some (.int x4)]) (st' := [.int r7, .int (2048 + x4), .ref 139]) rfl ?_
        exact dt200_40 hd ih hl  h
def dm200 (x1 : Int32) (x2 : Int32) (x3 : Int32) (s : aS) : Option (aS) :=
  if aB (1024 + x1) 1152 then
    nx (wI s 137 (jN (1024 + x1)) x2) fun s2 =>
    if aB (1024 + x1) 1152 then
      nx (wI s2 138 (jN (1024 + x1)) ((sI s2 121 26) - x2)) fun s6 =>
      dm200_19 5000 x3 x2 s6
    else none
  else none
set_option maxRecDepth 100000 in
theorem dt200 {sio : Bool} {tt : Nat} {cc : Nat → Nat → Int32} {d : Nat} (hd : 1 ≤ d) {x1 : Int32} {x2 : Int32} {x3 : Int32} {s : aS} (hl : Ly tt cc s) {o : aS} (h : dm200  x1 x2 x3 s = some o) : Q 2 sio tt cc d 200 0 [some (.ref 121), some (.int x1), some (.int x2), some (.int x3), none] [] s (.inl none, o) := by
  unfold dm200 at h
  obtain ⟨d, rfl⟩ : ∃ e, d = e + 1 := ⟨d - 1, by omega⟩
  refine Q.run zm200 1 (i' := 1) (ls' := [some (.ref 121), some (.int x1), some (.int x2), some (.int x3), none]) (st' := [.ref 121]) rfl ?_
  refine Q.map (A.gf (gI_of zm200 (e := (1, 3, .getfield 56, [9, 18])) rfl) (hl.lt (a := 121) (by decide)) (hl.T (a := 121) (p := (9, 45)) 43 rfl rfl) (by decide) (hl.R 38 rfl)) ?_
  refine Q.run zm200 4 (i' := 6) (ls' := [some (.ref 121), some (.int x1), some (.int x2), some (.int x3), none]) (st' := [.int x2, .int (1024 + x1), .ref 137]) rfl ?_
  obtain ⟨hc1, h⟩ := ite_so h
  obtain ⟨s2, hs3, h⟩ := nx_so h
  refine Q.is hs3 rfl (gI_of zm200 (e := (10, 1, .iastore, [])) rfl) (hl.lt (a := 137) (by decide)) (by decide) (hl.T (a := 137) (p := (100, 1152)) 59 rfl rfl) hc1 ?_
  have hl4 : Ly tt cc s2 := by rw [hs3]; exact hl.wId (by decide)
  refine Q.run zm200 1 (i' := 8) (ls' := [some (.ref 121), some (.int x1), some (.int x2), some (.int x3), none]) (st' := [.ref 121]) rfl ?_
  refine Q.map (A.gf (gI_of zm200 (e := (12, 3, .getfield 59, [9, 19])) rfl) (hl4.lt (a := 121) (by decide)) (hl4.T (a := 121) (p := (9, 45)) 43 rfl rfl) (by decide) (hl4.R 39 rfl)) ?_
  refine Q.run zm200 4 (i' := 13) (ls' := [some (.ref 121), some (.int x1), some (.int x2), some (.int x3), none]) (st' := [.ref 121, .int (1024 + x1), .ref 138]) rfl ?_
  refine Q.map (A.gf (gI_of zm200 (e := (21, 3, .getfield 138, [9, 26])) rfl) (hl4.lt (a := 121) (by decide)) (hl4.T (a := 121) (p := (9, 45)) 43 rfl rfl) (by decide) rfl) ?_
  refine Q.run zm200 2 (i' := 16) (ls' := [some (.ref 121), some (.int x1), some (.int x2), some (.int x3), none]) (st' := [.int ((sI s2 121 26) - x2), .int (1024 + x1), .ref 138]) rfl ?_
  obtain ⟨hc5, h⟩ := ite_so h
  obtain ⟨s6, hs7, h⟩ := nx_so h
  refine Q.is hs7 rfl (gI_of zm200 (e := (26, 1, .iastore, [])) rfl) (hl4.lt (a := 138) (by decide)) (by decide) (hl4.T (a := 138) (p := (100, 1152)) 60 rfl rfl) hc5 ?_
  have hl8 : Ly tt cc s6 := by rw [hs7]; exact hl4.wId (by decide)
  refine Q.run zm200 2 (i' := 19) (ls' := [some (.ref 121), some (.int x1), some (.int x2), some (.int x3), some (.int x2)]) (st' := []) rfl ?_
  exact dt200_19 hd _ hl8  h
/-! 199 FormulaTreesModel.readNumber()V -/
set_option maxRecDepth 100000 in
theorem zm199 : zP[199]? = some zM199 := rfl
def dm199_116 (x1 : Int32) (s : aS) : Option (aS) :=
  bv (dm187 0 s) fun r4 s3 =>
  bu (dm200 r4 x1 1 s3) fun s7 =>
  bu (dm194 r4 s7) fun s10 =>
  some s10
set_option maxRecDepth 100000 in
theorem dt199_116 {sio : Bool} {tt : Nat} {cc : Nat → Nat → Int32} {d : Nat} (hd : 2 ≤ d) {x1 : Int32} {x2 : Int32} {x3 : Int32} {g4 : Option Value} {s : aS} (hl : Ly tt cc s) {o : aS} (h : dm199_116  x1 s = some o) : Q 2 sio tt cc d 199 116 [some (.ref 121), some (.int x1), some (.int x2), some (.int x3), g4] [] s (.inl none, o) := by
  unfold dm199_116 at h
  obtain ⟨d, rfl⟩ : ∃ e, d = e + 1 := ⟨d - 1, by omega⟩
  refine Q.run zm199 2 (i' := 118) (ls' := [some (.ref 121), some (.int x1), some (.int x2), some (.int x3), g4]) (st' := [.int 0, .ref 121]) rfl ?_
  obtain ⟨r4, s3, hc2, h⟩ := bv_so h
  have hq1 : Q 2 sio tt cc d 187 0 [some (.ref 121), some (.int 0), none, none] [] s (.inl (some (.int r4)), s3) := dt187 (by omega) hl  hc2
  refine Q.callI (gC_vi zm199 (show zM199.2.2.2.2.2[118]? = some (228, 3, .invokevirtual 167, [0, 187, 1, 9]) from rfl) zm187 (hl.lt (a := 121) (by decide)) (hl.T (a := 121) (p := (9, 45)) 43 rfl rfl) rfl (show aCr 1 121 [.int 0, .ref 121] 4 = some ([some (.ref 121), some (.int 0), none, none], []) from rfl)) hq1 ?_
  refine Q.run zm199 5 (i' := 124) (ls' := [some (.ref 121), some (.int x1), some (.int x2), some (.int x3), some (.int r4)]) (st' := [.int 1, .int x1, .int r4, .ref 121]) rfl ?_
  obtain ⟨s7, hc6, h⟩ := bu_so h
  have hq5 : Q 2 sio tt cc d 200 0 [some (.ref 121), some (.int r4), some (.int x1), some (.int 1), none] [] s3 (.inl none, s7) := dt200 (by omega) hq1.1  hc6
  refine Q.callV (gC_vi zm199 (show zM199.2.2.2.2.2[124]? = some (238, 3, .invokevirtual 170, [0, 200, 3, 9]) from rfl) zm200 (hq1.1.lt (a := 121) (by decide)) (hq1.1.T (a := 121) (p := (9, 45)) 43 rfl rfl) rfl (show aCr 3 121 [.int 1, .int x1, .int r4, .ref 121] 5 = some ([some (.ref 121), some (.int r4), some (.int x1), some (.int 1), none], []) from rfl)) hq5 ?_
  refine Q.run zm199 2 (i' := 127) (ls' := [some (.ref 121), some (.int x1), some (.int x2), some (.int x3), some (.int r4)]) (st' := [.int r4, .ref 121]) rfl ?_
  obtain ⟨s10, hc9, h⟩ := bu_so h
  have hq8 : Q 2 sio tt cc d 194 0 [some (.ref 121), some (.int r4)] [] s7 (.inl none, s10) := dt194 (by omega) hq5.1  hc9
  refine Q.callV (gC_vi zm199 (show zM199.2.2.2.2.2[127]? = some (244, 3, .invokevirtual 161, [0, 194, 1, 9]) from rfl) zm194 (hq5.1.lt (a := 121) (by decide)) (hq5.1.T (a := 121) (p := (9, 45)) 43 rfl rfl) rfl (show aCr 1 121 [.int r4, .ref 121] 2 = some ([some (.ref 121), some (.int r4)], []) from rfl)) hq8 ?_
  cases h
  exact Q.ret (A.rv zm199 (show zM199.2.2.2.2.2[128]? = some (247, 1, .return_, []) from rfl) rfl) hq8.1
def dm199_44 (k7 : Int32 → Int32 → Int32 → aS → Option (aS)) (x1 : Int32) (x3 : Int32) (y0 : Int32) (s : aS) : Option (aS) :=
  nx (wI s 121 26 ((sI s 121 26) + 1)) fun s1 =>
  k7 x1 y0 x3 s1
set_option maxRecDepth 100000 in
theorem dt199_44 {sio : Bool} {tt : Nat} {cc : Nat → Nat → Int32} {d : Nat} (hd : 2 ≤ d) {k7 : Int32 → Int32 → Int32 → aS → Option (aS)} (hk7 : ∀ {x1 : Int32} {x2 : Int32} {x3 : Int32} {s : aS}, Ly tt cc s → ∀ {o : aS}, k7 x1 x2 x3 s = some o → Q 2 sio tt cc d 199 7 [some (.ref 121), some (.int x1), some (.int x2), some (.int x3), none] [] s (.inl none, o)) {x1 : Int32} {x3 : Int32} {y0 : Int32} {x2 : Int32} {s : aS} (hl : Ly tt cc s) {o : aS} (h : dm199_44 k7 x1 x3 y0 s = some o) : Q 2 sio tt cc d 199 44 [some (.ref 121), some (.int x1), some (.int x2), some (.int x3), none] [.int y0] s (.inl none, o) := by
  unfold dm199_44 at h
  obtain ⟨d, rfl⟩ : ∃ e, d = e + 1 := ⟨d - 1, by omega⟩
  refine Q.run zm199 3 (i' := 47) (ls' := [some (.ref 121), some (.int x1), some (.int y0), some (.int x3), none]) (st' := [.ref 121, .ref 121]) rfl ?_
  refine Q.map (A.gf (gI_of zm199 (e := (87, 3, .getfield 138, [9, 26])) rfl) (hl.lt (a := 121) (by decide)) (hl.T (a := 121) (p := (9, 45)) 43 rfl rfl) (by decide) rfl) ?_
  refine Q.run zm199 2 (i' := 50) (ls' := [some (.ref 121), some (.int x1), some (.int y0), some (.int x3), none]) (st' := [.int ((sI s 121 26) + 1), .ref 121]) rfl ?_
  obtain ⟨s1, hs2, h⟩ := nx_so h
  refine Q.pf hs2 rfl (gI_of zm199 (e := (92, 3, .putfield 138, [9, 26, 0])) rfl) (hl.lt (a := 121) (by decide)) (by decide) (hl.T (a := 121) (p := (9, 45)) 43 rfl rfl) (by decide) rfl rfl ?_
  have hl3 : Ly tt cc s1 := by rw [hs2]; exact hl.wId (by decide)
  refine Q.run zm199 1 (i' := 7) (ls' := [some (.ref 121), some (.int x1), some (.int y0), some (.int x3), none]) (st' := []) rfl ?_
  exact hk7 hl3  h
def dm199_109 (x1 : Int32) (x4 : Int32) (s : aS) : Option (aS) :=
  if x4 = 0 then
    bu (dm186 (sI s 121 26) s) fun s4 =>
    some s4
  else
    dm199_116 x1 s
set_option maxRecDepth 100000 in
theorem dt199_109 {sio : Bool} {tt : Nat} {cc : Nat → Nat → Int32} {d : Nat} (hd : 2 ≤ d) {x1 : Int32} {x4 : Int32} {x2 : Int32} {x3 : Int32} {s : aS} (hl : Ly tt cc s) {o : aS} (h : dm199_109  x1 x4 s = some o) : Q 2 sio tt cc d 199 109 [some (.ref 121), some (.int x1), some (.int x2), some (.int x3), some (.int x4)] [] s (.inl none, o) := by
  unfold dm199_109 at h
  obtain ⟨d, rfl⟩ : ∃ e, d = e + 1 := ⟨d - 1, by omega⟩
  refine Q.run zm199 1 (i' := 110) (ls' := [some (.ref 121), some (.int x1), some (.int x2), some (.int x3), some (.int x4)]) (st' := [.int x4]) rfl ?_
  by_cases hc1 : x4 = 0
  · rw [if_pos hc1] at h
    refine Q.map (A.zF (gI_of zm199 (e := (214, 3, .ifCond .ne 12, [116])) rfl) (fun q => of_decide_eq_true q hc1)) ?_
    refine Q.run zm199 2 (i' := 113) (ls' := [some (.ref 121), some (.int x1), some (.int x2), some (.int x3), some (.int x4)]) (st' := [.ref 121, .ref 121]) rfl ?_
    refine Q.map (A.gf (gI_of zm199 (e := (219, 3, .getfield 138, [9, 26])) rfl) (hl.lt (a := 121) (by decide)) (hl.T (a := 121) (p := (9, 45)) 43 rfl rfl) (by decide) rfl) ?_
    obtain ⟨s4, hc3, h⟩ := bu_so h
    have hq2 : Q 2 sio tt cc d 186 0 [some (.ref 121), some (.int (sI s 121 26))] [] s (.inl none, s4) := dt186 (by omega) hl  hc3
    refine Q.callV (gC_vi zm199 (show zM199.2.2.2.2.2[114]? = some (222, 3, .invokevirtual 164, [0, 186, 1, 9]) from rfl) zm186 (hl.lt (a := 121) (by decide)) (hl.T (a := 121) (p := (9, 45)) 43 rfl rfl) rfl (show aCr 1 121 [.int (sI s 121 26), .ref 121] 2 = some ([some (.ref 121), some (.int (sI s 121 26))], []) from rfl)) hq2 ?_
    cases h
    exact Q.ret (A.rv zm199 (show zM199.2.2.2.2.2[115]? = some (225, 1, .return_, []) from rfl) rfl) hq2.1
  · rw [if_neg hc1] at h
    refine Q.map (A.zT (gI_of zm199 (e := (214, 3, .ifCond .ne 12, [116])) rfl) (decide_eq_true hc1)) ?_
    exact dt199_116 hd hl  h
def dm199_32 (k7 : Int32 → Int32 → Int32 → aS → Option (aS)) (x1 : Int32) (x2 : Int32) (y0 : Int32) (s : aS) : Option (aS) :=
  bu (dm176 (sI s 121 26) s) fun r3 =>
  bu (dm196 r3) fun r6 =>
  if r6 = 0 then
    dm199_44 k7 x1 y0 x2 s
  else
    dm199_44 k7 x1 y0 (x2 + 1) s
set_option maxRecDepth 100000 in
theorem dt199_32 {sio : Bool} {tt : Nat} {cc : Nat → Nat → Int32} {d : Nat} (hd : 2 ≤ d) {k7 : Int32 → Int32 → Int32 → aS → Option (aS)} (hk7 : ∀ {x1 : Int32} {x2 : Int32} {x3 : Int32} {s : aS}, Ly tt cc s → ∀ {o : aS}, k7 x1 x2 x3 s = some o → Q 2 sio tt cc d 199 7 [some (.ref 121), some (.int x1), some (.int x2), some (.int x3), none] [] s (.inl none, o)) {x1 : Int32} {x2 : Int32} {y0 : Int32} {x3 : Int32} {s : aS} (hl : Ly tt cc s) {o : aS} (h : dm199_32 k7 x1 x2 y0 s = some o) : Q 2 sio tt cc d 199 32 [some (.ref 121), some (.int x1), some (.int x2), some (.int x3), none] [.int y0] s (.inl none, o) := by
  unfold dm199_32 at h
  obtain ⟨d, rfl⟩ : ∃ e, d = e + 1 := ⟨d - 1, by omega⟩
  refine Q.run zm199 3 (i' := 35) (ls' := [some (.ref 121), some (.int x1), some (.int x2), some (.int y0), none]) (st' := [.ref 121, .ref 121]) rfl ?_
  refine Q.map (A.gf (gI_of zm199 (e := (65, 3, .getfield 138, [9, 26])) rfl) (hl.lt (a := 121) (by decide)) (hl.T (a := 121) (p := (9, 45)) 43 rfl rfl) (by decide) rfl) ?_
  obtain ⟨r3, hc2, h⟩ := bu_so h
  have hq1 : Q 2 sio tt cc d 176 0 [some (.ref 121), some (.int (sI s 121 26))] [] s (.inl (some (.int r3)), s) := dt176 (by omega) hl  hc2
  refine Q.callI (gC_vi zm199 (show zM199.2.2.2.2.2[36]? = some (68, 3, .invokevirtual 113, [0, 176, 1, 9]) from rfl) zm176 (hl.lt (a := 121) (by decide)) (hl.T (a := 121) (p := (9, 45)) 43 rfl rfl) rfl (show aCr 1 121 [.int (sI s 121 26), .ref 121] 2 = some ([some (.ref 121), some (.int (sI s 121 26))], []) from rfl)) hq1 ?_
  obtain ⟨r6, hc5, h⟩ := bu_so h
  have hq4 : Q 2 sio tt cc d 196 0 [some (.int r3)] [] s (.inl (some (.int r6)), s) := dt196 (by omega) hl  hc5
  refine Q.callI (gC_st zm199 (show zM199.2.2.2.2.2[37]? = some (71, 3, .invokestatic 100, [0, 196, 1]) from rfl) zm196 (show aC 1 [.int r3] 1 = some ([some (.int r3)], []) from rfl)) hq4 ?_
  by_cases hc7 : r6 = 0
  · rw [if_pos hc7] at h
    refine Q.map (A.zT (gI_of zm199 (e := (74, 3, .ifCond .eq 9, [43])) rfl) (decide_eq_true hc7)) ?_
    refine Q.run zm199 1 (i' := 44) (ls' := [some (.ref 121), some (.int x1), some (.int x2), some (.int y0), none]) (st' := [.int x2]) rfl ?_
    exact dt199_44 hd hk7 hl  h
  · rw [if_neg hc7] at h
    refine Q.map (A.zF (gI_of zm199 (e := (74, 3, .ifCond .eq 9, [43])) rfl) (fun q => hc7 (of_decide_eq_true q))) ?_
    refine Q.run zm199 4 (i' := 44) (ls' := [some (.ref 121), some (.int x1), some (.int x2), some (.int y0), none]) (st' := [.int (x2 + 1)]) rfl ?_
    exact dt199_44 hd hk7 hl  h
def dm199_92 : Nat → Int32 → Int32 → aS → Option (aS)
  | 0, _, _, _ => none
  | n + 1, x1, x4, s =>
    bu (dm176 (sI s 121 26) s) fun r3 =>
    bu (dm196 r3) fun r6 =>
    if r6 = 0 then
      dm199_109 x1 x4 s
    else
      if 3 ≤ x4 then
        dm199_109 x1 x4 s
      else
        nx (wI s 121 26 ((sI s 121 26) + 1)) fun s9 =>
        dm199_92 n x1 (x4 + 1) s9
set_option maxRecDepth 100000 in
theorem dt199_92 {sio : Bool} {tt : Nat} {cc : Nat → Nat → Int32} {d : Nat} (hd : 2 ≤ d) : ∀ (n : Nat) {x1 : Int32} {x4 : Int32} {x2 : Int32} {x3 : Int32} {s : aS} (_ : Ly tt cc s) {o : aS} (_ : dm199_92  n x1 x4 s = some o), Q 2 sio tt cc d 199 92 [some (.ref 121), some (.int x1), some (.int x2), some (.int x3), some (.int x4)] [] s (.inl none, o) := by
  obtain ⟨d, rfl⟩ : ∃ e, d = e + 1 := ⟨d - 1, by omega⟩
  intro n
  induction n with
  | zero => intro x1 x4 x2 x3 s hl o h; rw [dm199_92] at h; cases h
  | succ n ih =>
    intro x1 x4 x2 x3 s hl o h
    rw [dm199_92] at h
    refine Q.run zm199 2 (i' := 94) (ls' := [some (.ref 121), some (.int x1), some (.int x2), some (.int x3), some (.int x4)]) (st' := [.ref 121, .ref 121]) rfl ?_
    refine Q.map (A.gf (gI_of zm199 (e := (178, 3, .getfield 138, [9, 26])) rfl) (hl.lt (a := 121) (by decide)) (hl.T (a := 121) (p := (9, 45)) 43 rfl rfl) (by decide) rfl) ?_
    obtain ⟨r3, hc2, h⟩ := bu_so h
    have hq1 : Q 2 sio tt cc d 176 0 [some (.ref 121), some (.int (sI s 121 26))] [] s (.inl (some (.int r3)), s) := dt176 (by omega) hl  hc2
    refine Q.callI (gC_vi zm199 (show zM199.2.2.2.2.2[95]? = some (181, 3, .invokevirtual 113, [0, 176, 1, 9]) from rfl) zm176 (hl.lt (a := 121) (by decide)) (hl.T (a := 121) (p := (9, 45)) 43 rfl rfl) rfl (show aCr 1 121 [.int (sI s 121 26), .ref 121] 2 = some ([some (.ref 121), some (.int (sI s 121 26))], []) from rfl)) hq1 ?_
    obtain ⟨r6, hc5, h⟩ := bu_so h
    have hq4 : Q 2 sio tt cc d 196 0 [some (.int r3)] [] s (.inl (some (.int r6)), s) := dt196 (by omega) hl  hc5
    refine Q.callI (gC_st zm199 (show zM199.2.2.2.2.2[96]? = some (184, 3, .invokestatic 100, [0, 196, 1]) from rfl) zm196 (show aC 1 [.int r3] 1 = some ([some (.int r3)], []) from rfl)) hq4 ?_
    by_cases hc7 : r6 = 0
    · rw [if_pos hc7] at h
      refine Q.map (A.zT (gI_of zm199 (e := (187, 3, .ifCond .eq 25, [109])) rfl) (decide_eq_true hc7)) ?_
      exact dt199_109 hd hl  h
    · rw [if_neg hc7] at h
      refine Q.map (A.zF (gI_of zm199 (e := (187, 3, .ifCond .eq 25, [109])) rfl) (fun q => hc7 (of_decide_eq_true q))) ?_
      refine Q.run zm199 2 (i' := 100) (ls' := [some (.ref 121), some (.int x1), some (.int x2), some (.int x3), some (.int x4)]) (st' := [.int 3, .int x4]) rfl ?_
      by_cases hc8 : 3 ≤ x4
      · rw [if_pos hc8] at h
        refine Q.map (A.bT (gI_of zm199 (e := (193, 3, .if_icmp .ge 19, [109])) rfl) (decide_eq_true hc8)) ?_
        exact dt199_109 hd hl  h
      · rw [if_neg hc8] at h
        refine Q.map (A.bF (gI_of zm199 (e := (193, 3, .if_icmp .ge 19, [109])) rfl) (fun q => hc8 (of_decide_eq_true q))) ?_
        refine Q.run zm199 2 (i' := 103) (ls' := [some (.ref 121), some (.int x1), some (.int x2), some (.int x3), some (.int x4)]) (st' := [.ref 121, .ref 121]) rfl ?_
        refine Q.map (A.gf (gI_of zm199 (e := (198, 3, .getfield 138, [9, 26])) rfl) (hl.lt (a := 121) (by decide)) (hl.T (a := 121) (p := (9, 45)) 43 rfl rfl) (by decide) rfl) ?_
        refine Q.run zm199 2 (i' := 106) (ls' := [some (.ref 121), some (.int x1), some (.int x2), some (.int x3), some (.int x4)]) (st' := [.int ((sI s 121 26) + 1), .ref 121]) rfl ?_
        obtain ⟨s9, hs10, h⟩ := nx_so h
        refine Q.pf hs10 rfl (gI_of zm199 (e := (203, 3, .putfield 138, [9, 26, 0])) rfl) (hl.lt (a := 121) (by decide)) (by decide) (hl.T (a := 121) (p := (9, 45)) 43 rfl rfl) (by decide) rfl rfl ?_
        have hl11 : Ly tt cc s9 := by rw [hs10]; exact hl.wId (by decide)
        refine Q.run zm199 2 (i' := 92) (ls' := [some (.ref 121), some (.int x1), some (.int x2), some (.int x3), some (.int (x4 + 1))]) (st' := []) rfl ?_
        exact ih hl11  h
def dm199_29 (k7 : Int32 → Int32 → Int32 → aS → Option (aS)) (x1 : Int32) (x2 : Int32) (s : aS) : Option (aS) :=
  dm199_32 k7 x1 x2 1 s
set_option maxRecDepth 100000 in
theorem dt199_29 {sio : Bool} {tt : Nat} {cc : Nat → Nat → Int32} {d : Nat} (hd : 2 ≤ d) {k7 : Int32 → Int32 → Int32 → aS → Option (aS)} (hk7 : ∀ {x1 : Int32} {x2 : Int32} {x3 : Int32} {s : aS}, Ly tt cc s → ∀ {o : aS}, k7 x1 x2 x3 s = some o → Q 2 sio tt cc d 199 7 [some (.ref 121), some (.int x1), some (.int x2), some (.int x3), none] [] s (.inl none, o)) {x1 : Int32} {x2 : Int32} {x3 : Int32} {s : aS} (hl : Ly tt cc s) {o : aS} (h : dm199_29 k7 x1 x2 s = some o) : Q 2 sio tt cc d 199 29 [some (.ref 121), some (.int x1), some (.int x2), some (.int x3), none] [] s (.inl none, o) := by
  unfold dm199_29 at h
  obtain ⟨d, rfl⟩ : ∃ e, d = e + 1 := ⟨d - 1, by omega⟩
  refine Q.run zm199 2 (i' := 32) (ls' := [some (.ref 121), some (.int x1), some (.int x2), some (.int x3), none]) (st' := [.int 1]) rfl ?_
  exact dt199_32 hd hk7 hl  h
def dm199_90 (x1 : Int32) (s : aS) : Option (aS) :=
  dm199_92 5000 x1 0 s
set_option maxRecDepth 100000 in
theorem dt199_90 {sio : Bool} {tt : Nat} {cc : Nat → Nat → Int32} {d : Nat} (hd : 2 ≤ d) {x1 : Int32} {x2 : Int32} {x3 : Int32} {s : aS} (hl : Ly tt cc s) {o : aS} (h : dm199_90  x1 s = some o) : Q 2 sio tt cc d 199 90 [some (.ref 121), some (.int x1), some (.int x2), some (.int x3), none] [] s (.inl none, o) := by
  unfold dm199_90 at h
  obtain ⟨d, rfl⟩ : ∃ e, d = e + 1 := ⟨d - 1, by omega⟩
  refine Q.run zm199 2 (i' := 92) (ls' := [some (.ref 121), some (.int x1), some (.int x2), some (.int x3), some (.int 0)]) (st' := []) rfl ?_
  exact dt199_92 hd _ hl  h
def dm199_21 (k7 : Int32 → Int32 → Int32 → aS → Option (aS)) (x1 : Int32) (x2 : Int32) (x3 : Int32) (s : aS) : Option (aS) :=
  if x3 = 0 then
    bu (dm176 (sI s 121 26) s) fun r4 =>
    if r4 = 46 then
      dm199_29 k7 x1 x2 s
    else
      dm199_32 k7 x1 x2 0 s
  else
    dm199_29 k7 x1 x2 s
set_option maxRecDepth 100000 in
theorem dt199_21 {sio : Bool} {tt : Nat} {cc : Nat → Nat → Int32} {d : Nat} (hd : 2 ≤ d) {k7 : Int32 → Int32 → Int32 → aS → Option (aS)} (hk7 : ∀ {x1 : Int32} {x2 : Int32} {x3 : Int32} {s : aS}, Ly tt cc s → ∀ {o : aS}, k7 x1 x2 x3 s = some o → Q 2 sio tt cc d 199 7 [some (.ref 121), some (.int x1), some (.int x2), some (.int x3), none] [] s (.inl none, o)) {x1 : Int32} {x2 : Int32} {x3 : Int32} {s : aS} (hl : Ly tt cc s) {o : aS} (h : dm199_21 k7 x1 x2 x3 s = some o) : Q 2 sio tt cc d 199 21 [some (.ref 121), some (.int x1), some (.int x2), some (.int x3), none] [] s (.inl none, o) := by
  unfold dm199_21 at h
  obtain ⟨d, rfl⟩ : ∃ e, d = e + 1 := ⟨d - 1, by omega⟩
  refine Q.run zm199 1 (i' := 22) (ls' := [some (.ref 121), some (.int x1), some (.int x2), some (.int x3), none]) (st' := [.int x3]) rfl ?_
  by_cases hc1 : x3 = 0
  · rw [if_pos hc1] at h
    refine Q.map (A.zF (gI_of zm199 (e := (41, 3, .ifCond .ne 16, [29])) rfl) (fun q => of_decide_eq_true q hc1)) ?_
    refine Q.run zm199 2 (i' := 25) (ls' := [some (.ref 121), some (.int x1), some (.int x2), some (.int x3), none]) (st' := [.ref 121, .ref 121]) rfl ?_
    refine Q.map (A.gf (gI_of zm199 (e := (46, 3, .getfield 138, [9, 26])) rfl) (hl.lt (a := 121) (by decide)) (hl.T (a := 121) (p := (9, 45)) 43 rfl rfl) (by decide) rfl) ?_
    obtain ⟨r4, hc3, h⟩ := bu_so h
    have hq2 : Q 2 sio tt cc d 176 0 [some (.ref 121), some (.int (sI s 121 26))] [] s (.inl (some (.int r4)), s) := dt176 (by omega) hl  hc3
    refine Q.callI (gC_vi zm199 (show zM199.2.2.2.2.2[26]? = some (49, 3, .invokevirtual 113, [0, 176, 1, 9]) from rfl) zm176 (hl.lt (a := 121) (by decide)) (hl.T (a := 121) (p := (9, 45)) 43 rfl rfl) rfl (show aCr 1 121 [.int (sI s 121 26), .ref 121] 2 = some ([some (.ref 121), some (.int (sI s 121 26))], []) from rfl)) hq2 ?_
    refine Q.run zm199 1 (i' := 28) (ls' := [some (.ref 121), some (.int x1), some (.int x2), some (.int x3), none]) (st' := [.int 46, .int r4]) rfl ?_
    by_cases hc5 : r4 = 46
    · rw [if_pos hc5] at h
      refine Q.map (A.bF (gI_of zm199 (e := (54, 3, .if_icmp .ne 7, [31])) rfl) (fun q => of_decide_eq_true q hc5)) ?_
      exact dt199_29 hd hk7 hl  h
    · rw [if_neg hc5] at h
      refine Q.map (A.bT (gI_of zm199 (e := (54, 3, .if_icmp .ne 7, [31])) rfl) (decide_eq_true hc5)) ?_
      refine Q.run zm199 1 (i' := 32) (ls' := [some (.ref 121), some (.int x1), some (.int x2), some (.int x3), none]) (st' := [.int 0]) rfl ?_
      exact dt199_32 hd hk7 hl  h
  · rw [if_neg hc1] at h
    refine Q.map (A.zT (gI_of zm199 (e := (41, 3, .ifCond .ne 16, [29])) rfl) (decide_eq_true hc1)) ?_
    exact dt199_29 hd hk7 hl  h
def dm199_84 (x1 : Int32) (s : aS) : Option (aS) :=
  nx (wI s 121 26 ((sI s 121 26) + 1)) fun s1 =>
  dm199_90 x1 s1
set_option maxRecDepth 100000 in
theorem dt199_84 {sio : Bool} {tt : Nat} {cc : Nat → Nat → Int32} {d : Nat} (hd : 2 ≤ d) {x1 : Int32} {x2 : Int32} {x3 : Int32} {s : aS} (hl : Ly tt cc s) {o : aS} (h : dm199_84  x1 s = some o) : Q 2 sio tt cc d 199 84 [some (.ref 121), some (.int x1), some (.int x2), some (.int x3), none] [] s (.inl none, o) := by
  unfold dm199_84 at h
  obtain ⟨d, rfl⟩ : ∃ e, d = e + 1 := ⟨d - 1, by omega⟩
  refine Q.run zm199 2 (i' := 86) (ls' := [some (.ref 121), some (.int x1), some (.int x2), some (.int x3), none]) (st' := [.ref 121, .ref 121]) rfl ?_
  refine Q.map (A.gf (gI_of zm199 (e := (165, 3, .getfield 138, [9, 26])) rfl) (hl.lt (a := 121) (by decide)) (hl.T (a := 121) (p := (9, 45)) 43 rfl rfl) (by decide) rfl) ?_
  refine Q.run zm199 2 (i' := 89) (ls' := [some (.ref 121), some (.int x1), some (.int x2), some (.int x3), none]) (st' := [.int ((sI s 121 26) + 1), .ref 121]) rfl ?_
  obtain ⟨s1, hs2, h⟩ := nx_so h
  refine Q.pf hs2 rfl (gI_of zm199 (e := (170, 3, .putfield 138, [9, 26, 0])) rfl) (hl.lt (a := 121) (by decide)) (by decide) (hl.T (a := 121) (p := (9, 45)) 43 rfl rfl) (by decide) rfl rfl ?_
  have hl3 : Ly tt cc s1 := by rw [hs2]; exact hl.wId (by decide)
  exact dt199_90 hd hl3  h
def dm199_52 (x1 : Int32) (x2 : Int32) (s : aS) : Option (aS) :=
  if x2 = 0 then
    bu (dm186 (sI s 121 26) s) fun s4 =>
    some s4
  else
    bu (dm176 (sI s 121 26) s) fun r7 =>
    bu (dm178 r7) fun r10 =>
    if r10 = 69 then
      nx (wI s 121 26 ((sI s 121 26) + 1)) fun s12 =>
      bu (dm176 (sI s12 121 26) s12) fun r17 =>
      if r17 = 43 then
        dm199_84 x1 s12
      else
        bu (dm176 (sI s12 121 26) s12) fun r21 =>
        if r21 = 45 then
          dm199_84 x1 s12
        else
          dm199_90 x1 s12
    else
      dm199_116 x1 s
set_option maxRecDepth 100000 in
theorem dt199_52 {sio : Bool} {tt : Nat} {cc : Nat → Nat → Int32} {d : Nat} (hd : 2 ≤ d) {x1 : Int32} {x2 : Int32} {x3 : Int32} {s : aS} (hl : Ly tt cc s) {o : aS} (h : dm199_52  x1 x2 s = some o) : Q 2 sio tt cc d 199 52 [some (.ref 121), some (.int x1), some (.int x2), some (.int x3), none] [] s (.inl none, o) := by
  unfold dm199_52 at h
  obtain ⟨d, rfl⟩ : ∃ e, d = e + 1 := ⟨d - 1, by omega⟩
  refine Q.run zm199 1 (i' := 53) (ls' := [some (.ref 121), some (.int x1), some (.int x2), some (.int x3), none]) (st' := [.int x2]) rfl ?_
  by_cases hc1 : x2 = 0
  · rw [if_pos hc1] at h
    refine Q.map (A.zF (gI_of zm199 (e := (99, 3, .ifCond .ne 12, [59])) rfl) (fun q => of_decide_eq_true q hc1)) ?_
    refine Q.run zm199 2 (i' := 56) (ls' := [some (.ref 121), some (.int x1), some (.int x2), some (.int x3), none]) (st' := [.ref 121, .ref 121]) rfl ?_
    refine Q.map (A.gf (gI_of zm199 (e := (104, 3, .getfield 138, [9, 26])) rfl) (hl.lt (a := 121) (by decide)) (hl.T (a := 121) (p := (9, 45)) 43 rfl rfl) (by decide) rfl) ?_
    obtain ⟨s4, hc3, h⟩ := bu_so h
    have hq2 : Q 2 sio tt cc d 186 0 [some (.ref 121), some (.int (sI s 121 26))] [] s (.inl none, s4) := dt186 (by omega) hl  hc3
    refine Q.callV (gC_vi zm199 (show zM199.2.2.2.2.2[57]? = some (107, 3, .invokevirtual 164, [0, 186, 1, 9]) from rfl) zm186 (hl.lt (a := 121) (by decide)) (hl.T (a := 121) (p := (9, 45)) 43 rfl rfl) rfl (show aCr 1 121 [.int (sI s 121 26), .ref 121] 2 = some ([some (.ref 121), some (.int (sI s 121 26))], []) from rfl)) hq2 ?_
    cases h
    exact Q.ret (A.rv zm199 (show zM199.2.2.2.2.2[58]? = some (110, 1, .return_, []) from rfl) rfl) hq2.1
  · rw [if_neg hc1] at h
    refine Q.map (A.zT (gI_of zm199 (e := (99, 3, .ifCond .ne 12, [59])) rfl) (decide_eq_true hc1)) ?_
    refine Q.run zm199 2 (i' := 61) (ls' := [some (.ref 121), some (.int x1), some (.int x2), some (.int x3), none]) (st' := [.ref 121, .ref 121]) rfl ?_
    refine Q.map (A.gf (gI_of zm199 (e := (113, 3, .getfield 138, [9, 26])) rfl) (hl.lt (a := 121) (by decide)) (hl.T (a := 121) (p := (9, 45)) 43 rfl rfl) (by decide) rfl) ?_
    obtain ⟨r7, hc6, h⟩ := bu_so h
    have hq5 : Q 2 sio tt cc d 176 0 [some (.ref 121), some (.int (sI s 121 26))] [] s (.inl (some (.int r7)), s) := dt176 (by omega) hl  hc6
    refine Q.callI (gC_vi zm199 (show zM199.2.2.2.2.2[62]? = some (116, 3, .invokevirtual 113, [0, 176, 1, 9]) from rfl) zm176 (hl.lt (a := 121) (by decide)) (hl.T (a := 121) (p := (9, 45)) 43 rfl rfl) rfl (show aCr 1 121 [.int (sI s 121 26), .ref 121] 2 = some ([some (.ref 121), some (.int (sI s 121 26))], []) from rfl)) hq5 ?_
    obtain ⟨r10, hc9, h⟩ := bu_so h
    have hq8 : Q 2 sio tt cc d 178 0 [some (.int r7)] [] s (.inl (some (.int r10)), s) := dt178 (by omega) hl  hc9
    refine Q.callI (gC_st zm199 (show zM199.2.2.2.2.2[63]? = some (119, 3, .invokestatic 109, [0, 178, 1]) from rfl) zm178 (show aC 1 [.int r7] 1 = some ([some (.int r7)], []) from rfl)) hq8 ?_
    refine Q.run zm199 1 (i' := 65) (ls' := [some (.ref 121), some (.int x1), some (.int x2), some (.int x3), none]) (st' := [.int 69, .int r10]) rfl ?_
    by_cases hc11 : r10 = 69
    · rw [if_pos hc11] at h
      refine Q.map (A.bF (gI_of zm199 (e := (124, 3, .if_icmp .ne 102, [116])) rfl) (fun q => of_decide_eq_true q hc11)) ?_
      refine Q.run zm199 2 (i' := 68) (ls' := [some (.ref 121), some (.int x1), some (.int x2), some (.int x3), none]) (st' := [.ref 121, .ref 121]) rfl ?_
      refine Q.map (A.gf (gI_of zm199 (e := (129, 3, .getfield 138, [9, 26])) rfl) (hl.lt (a := 121) (by decide)) (hl.T (a := 121) (p := (9, 45)) 43 rfl rfl) (by decide) rfl) ?_
      refine Q.run zm199 2 (i' := 71) (ls' := [some (.ref 121), some (.int x1), some (.int x2), some (.int x3), none]) (st' := [.int ((sI s 121 26) + 1), .ref 121]) rfl ?_
      obtain ⟨s12, hs13, h⟩ := nx_so h
      refine Q.pf hs13 rfl (gI_of zm199 (e := (134, 3, .putfield 138, [9, 26, 0])) rfl) (hl.lt (a := 121) (by decide)) (by decide) (hl.T (a := 121) (p := (9, 45)) 43 rfl rfl) (by decide) rfl rfl ?_
      have hl14 : Ly tt cc s12 := by rw [hs13]; exact hl.wId (by decide)
      refine Q.run zm199 2 (i' := 74) (ls' := [some (.ref 121), some (.int x1), some (.int x2), some (.int x3), none]) (st' := [.ref 121, .ref 121]) rfl ?_
      refine Q.map (A.gf (gI_of zm199 (e := (139, 3, .getfield 138, [9, 26])) rfl) (hl14.lt (a := 121) (by decide)) (hl14.T (a := 121) (p := (9, 45)) 43 rfl rfl) (by decide) rfl) ?_
      obtain ⟨r17, hc16, h⟩ := bu_so h
      have hq15 : Q 2 sio tt cc d 176 0 [some (.ref 121), some (.int (sI s12 121 26))] [] s12 (.inl (some (.int r17)), s12) := dt176 (by omega) hl14  hc16
      refine Q.callI (gC_vi zm199 (show zM199.2.2.2.2.2[75]? = some (142, 3, .invokevirtual 113, [0, 176, 1, 9]) from rfl) zm176 (hl14.lt (a := 121) (by decide)) (hl14.T (a := 121) (p := (9, 45)) 43 rfl rfl) rfl (show aCr 1 121 [.int (sI s12 121 26), .ref 121] 2 = some ([some (.ref 121), some (.int (sI s12 121 26))], []) from rfl)) hq15 ?_
      refine Q.run zm199 1 (i' := 77) (ls' := [some (.ref 121), some (.int x1), some (.int x2), some (.int x3), none]) (st' := [.int 43, .int r17]) rfl ?_
      by_cases hc18 : r17 = 43
      · rw [if_pos hc18] at h
        refine Q.map (A.bT (gI_of zm199 (e := (147, 3, .if_icmp .eq 16, [84])) rfl) (decide_eq_true hc18)) ?_
        exact dt199_84 hd hl14  h
      · rw [if_neg hc18] at h
        refine Q.map (A.bF (gI_of zm199 (e := (147, 3, .if_icmp .eq 16, [84])) rfl) (fun q => hc18 (of_decide_eq_true q))) ?_
        refine Q.run zm199 2 (i' := 80) (ls' := [some (.ref 121), some (.int x1), some (.int x2), some (.int x3), none]) (st' := [.ref 121, .ref 121]) rfl ?_
        refine Q.map (A.gf (gI_of zm199 (e := (152, 3, .getfield 138, [9, 26])) rfl) (hl14.lt (a := 121) (by decide)) (hl14.T (a := 121) (p := (9, 45)) 43 rfl rfl) (by decide) rfl) ?_
        obtain ⟨r21, hc20, h⟩ := bu_so h
        have hq19 : Q 2 sio tt cc d 176 0 [some (.ref 121), some (.int (sI s12 121 26))] [] s12 (.inl (some (.int r21)), s12) := dt176 (by omega) hl14  hc20
        refine Q.callI (gC_vi zm199 (show zM199.2.2.2.2.2[81]? = some (155, 3, .invokevirtual 113, [0, 176, 1, 9]) from rfl) zm176 (hl14.lt (a := 121) (by decide)) (hl14.T (a := 121) (p := (9, 45)) 43 rfl rfl) rfl (show aCr 1 121 [.int (sI s12 121 26), .ref 121] 2 = some ([some (.ref 121), some (.int (sI s12 121 26))], []) from rfl)) hq19 ?_
        refine Q.run zm199 1 (i' := 83) (ls' := [some (.ref 121), some (.int x1), some (.int x2), some (.int x3), none]) (st' := [.int 45, .int r21]) rfl ?_
        by_cases hc22 : r21 = 45
        · rw [if_pos hc22] at h
          refine Q.map (A.bF (gI_of zm199 (e := (160, 3, .if_icmp .ne 13, [90])) rfl) (fun q => of_decide_eq_true q hc22)) ?_
          exact dt199_84 hd hl14  h
        · rw [if_neg hc22] at h
          refine Q.map (A.bT (gI_of zm199 (e := (160, 3, .if_icmp .ne 13, [90])) rfl) (decide_eq_true hc22)) ?_
          exact dt199_90 hd hl14  h
    · rw [if_neg hc11] at h
      refine Q.map (A.bT (gI_of zm199 (e := (124, 3, .if_icmp .ne 102, [116])) rfl) (decide_eq_true hc11)) ?_
      exact dt199_116 hd hl  h
def dm199_7 : Nat → Int32 → Int32 → Int32 → aS → Option (aS)
  | 0, _, _, _, _ => none
  | n + 1, x1, x2, x3, s =>
    bu (dm176 (sI s 121 26) s) fun r3 =>
    bu (dm196 r3) fun r6 =>
    if r6 = 0 then
      bu (dm176 (sI s 121 26) s) fun r10 =>
      if r10 = 46 then
        if x3 = 0 then
          dm199_21 (dm199_7 n) x1 x2 x3 s
        else
          dm199_52 x1 x2 s
      else
        dm199_52 x1 x2 s
    else
      dm199_21 (dm199_7 n) x1 x2 x3 s
set_option maxRecDepth 100000 in
theorem dt199_7 {sio : Bool} {tt : Nat} {cc : Nat → Nat → Int32} {d : Nat} (hd : 2 ≤ d) : ∀ (n : Nat) {x1 : Int32} {x2 : Int32} {x3 : Int32} {s : aS} (_ : Ly tt cc s) {o : aS} (_ : dm199_7  n x1 x2 x3 s = some o), Q 2 sio tt cc d 199 7 [some (.ref 121), some (.int x1), some (.int x2), some (.int x3), none] [] s (.inl none, o) := by
  obtain ⟨d, rfl⟩ : ∃ e, d = e + 1 := ⟨d - 1, by omega⟩
  intro n
  induction n with
  | zero => intro x1 x2 x3 s hl o h; rw [dm199_7] at h; cases h
  | succ n ih =>
    intro x1 x2 x3 s hl o h
    rw [dm199_7] at h
    refine Q.run zm199 2 (i' := 9) (ls' := [some (.ref 121), some (.int x1), some (.int x2), some (.int x3), none]) (st' := [.ref 121, .ref 121]) rfl ?_
    refine Q.map (A.gf (gI_of zm199 (e := (11, 3, .getfield 138, [9, 26])) rfl) (hl.lt (a := 121) (by decide)) (hl.T (a := 121) (p := (9, 45)) 43 rfl rfl) (by decide) rfl) ?_
    obtain ⟨r3, hc2, h⟩ := bu_so h
    have hq1 : Q 2 sio tt cc d 176 0 [some (.ref 121), some (.int (sI s 121 26))] [] s (.inl (some (.int r3)), s) := dt176 (by omega) hl  hc2
    refine Q.callI (gC_vi zm199 (show zM199.2.2.2.2.2[10]? = some (14, 3, .invokevirtual 113, [0, 176, 1, 9]) from rfl) zm176 (hl.lt (a := 121) (by decide)) (hl.T (a := 121) (p := (9, 45)) 43 rfl rfl) rfl (show aCr 1 121 [.int (sI s 121 26), .ref 121] 2 = some ([some (.ref 121), some (.int (sI s 121 26))], []) from rfl)) hq1 ?_
    obtain ⟨r6, hc5, h⟩ := bu_so h
    have hq4 : Q 2 sio tt cc d 196 0 [some (.int r3)] [] s (.inl (some (.int r6)), s) := dt196 (by omega) hl  hc5
    refine Q.callI (gC_st zm199 (show zM199.2.2.2.2.2[11]? = some (17, 3, .invokestatic 100, [0, 196, 1]) from rfl) zm196 (show aC 1 [.int r3] 1 = some ([some (.int r3)], []) from rfl)) hq4 ?_
    by_cases hc7 : r6 = 0
    · rw [if_pos hc7] at h
      refine Q.map (A.zF (gI_of zm199 (e := (20, 3, .ifCond .ne 20, [21])) rfl) (fun q => of_decide_eq_true q hc7)) ?_
      refine Q.run zm199 2 (i' := 15) (ls' := [some (.ref 121), some (.int x1), some (.int x2), some (.int x3), none]) (st' := [.ref 121, .ref 121]) rfl ?_
      refine Q.map (A.gf (gI_of zm199 (e := (25, 3, .getfield 138, [9, 26])) rfl) (hl.lt (a := 121) (by decide)) (hl.T (a := 121) (p := (9, 45)) 43 rfl rfl) (by decide) rfl) ?_
      obtain ⟨r10, hc9, h⟩ := bu_so h
      have hq8 : Q 2 sio tt cc d 176 0 [some (.ref 121), some (.int (sI s 121 26))] [] s (.inl (some (.int r10)), s) := dt176 (by omega) hl  hc9
      refine Q.callI (gC_vi zm199 (show zM199.2.2.2.2.2[16]? = some (28, 3, .invokevirtual 113, [0, 176, 1, 9]) from rfl) zm176 (hl.lt (a := 121) (by decide)) (hl.T (a := 121) (p := (9, 45)) 43 rfl rfl) rfl (show aCr 1 121 [.int (sI s 121 26), .ref 121] 2 = some ([some (.ref 121), some (.int (sI s 121 26))], []) from rfl)) hq8 ?_
      refine Q.run zm199 1 (i' := 18) (ls' := [some (.ref 121), some (.int x1), some (.int x2), some (.int x3), none]) (st' := [.int 46, .int r10]) rfl ?_
      by_cases hc11 : r10 = 46
      · rw [if_pos hc11] at h
        refine Q.map (A.bF (gI_of zm199 (e := (33, 3, .if_icmp .ne 65, [52])) rfl) (fun q => of_decide_eq_true q hc11)) ?_
        refine Q.run zm199 1 (i' := 20) (ls' := [some (.ref 121), some (.int x1), some (.int x2), some (.int x3), none]) (st' := [.int x3]) rfl ?_
        by_cases hc12 : x3 = 0
        · rw [if_pos hc12] at h
          refine Q.map (A.zF (gI_of zm199 (e := (37, 3, .ifCond .ne 61, [52])) rfl) (fun q => of_decide_eq_true q hc12)) ?_
          exact dt199_21 hd ih hl  h
        · rw [if_neg hc12] at h
          refine Q.map (A.zT (gI_of zm199 (e := (37, 3, .ifCond .ne 61, [52])) rfl) (decide_eq_true hc12)) ?_
          exact dt199_52 hd hl  h
      · rw [if_neg hc11] at h
        refine Q.map (A.bT (gI_of zm199 (e := (33, 3, .if_icmp .ne 65, [52])) rfl) (decide_eq_true hc11)) ?_
        exact dt199_52 hd hl  h
    · rw [if_neg hc7] at h
      refine Q.map (A.zT (gI_of zm199 (e := (20, 3, .ifCond .ne 20, [21])) rfl) (decide_eq_true hc7)) ?_
      exact dt199_21 hd ih hl  h
def dm199 (s : aS) : Option (aS) :=
  dm199_7 5000 (sI s 121 26) 0 0 s
set_option maxRecDepth 100000 in
theorem dt199 {sio : Bool} {tt : Nat} {cc : Nat → Nat → Int32} {d : Nat} (hd : 2 ≤ d) {s : aS} (hl : Ly tt cc s) {o : aS} (h : dm199  s = some o) : Q 2 sio tt cc d 199 0 [some (.ref 121), none, none, none, none] [] s (.inl none, o) := by
  unfold dm199 at h
  obtain ⟨d, rfl⟩ : ∃ e, d = e + 1 := ⟨d - 1, by omega⟩
  refine Q.run zm199 1 (i' := 1) (ls' := [some (.ref 121), none, none, none, none]) (st' := [.ref 121]) rfl ?_
  refine Q.map (A.gf (gI_of zm199 (e := (1, 3, .getfield 138, [9, 26])) rfl) (hl.lt (a := 121) (by decide)) (hl.T (a := 121) (p := (9, 45)) 43 rfl rfl) (by decide) rfl) ?_
  refine Q.run zm199 5 (i' := 7) (ls' := [some (.ref 121), some (.int (sI s 121 26)), some (.int 0), some (.int 0), none]) (st' := []) rfl ?_
  exact dt199_7 hd _ hl  h
/-! 202 FormulaTreesModel.readQuoted(I)V -/
set_option maxRecDepth 100000 in
theorem zm202 : zP[202]? = some zM202 := rfl
def dm202_71 (x2 : Int32) (s : aS) : Option (aS) :=
  if x2 = 0 then
    nx (wI s 121 26 ((sI s 121 26) + 1)) fun s2 =>
    some s2
  else
    bu (dm186 (sI s 121 1) s) fun s7 =>
    some s7
set_option maxRecDepth 100000 in
theorem dt202_71 {sio : Bool} {tt : Nat} {cc : Nat → Nat → Int32} {d : Nat} (hd : 1 ≤ d) {x2 : Int32} {x1 : Int32} {s : aS} (hl : Ly tt cc s) {o : aS} (h : dm202_71  x2 s = some o) : Q 2 sio tt cc d 202 71 [some (.ref 121), some (.int x1), some (.int x2)] [] s (.inl none, o) := by
  unfold dm202_71 at h
  obtain ⟨d, rfl⟩ : ∃ e, d = e + 1 := ⟨d - 1, by omega⟩
  refine Q.run zm202 1 (i' := 72) (ls' := [some (.ref 121), some (.int x1), some (.int x2)]) (st' := [.int x2]) rfl ?_
  by_cases hc1 : x2 = 0
  · rw [if_pos hc1] at h
    refine Q.map (A.zT (gI_of zm202 (e := (130, 3, .ifCond .eq 14, [78])) rfl) (decide_eq_true hc1)) ?_
    refine Q.run zm202 2 (i' := 80) (ls' := [some (.ref 121), some (.int x1), some (.int x2)]) (st' := [.ref 121, .ref 121]) rfl ?_
    refine Q.map (A.gf (gI_of zm202 (e := (146, 3, .getfield 138, [9, 26])) rfl) (hl.lt (a := 121) (by decide)) (hl.T (a := 121) (p := (9, 45)) 43 rfl rfl) (by decide) rfl) ?_
    refine Q.run zm202 2 (i' := 83) (ls' := [some (.ref 121), some (.int x1), some (.int x2)]) (st' := [.int ((sI s 121 26) + 1), .ref 121]) rfl ?_
    obtain ⟨s2, hs3, h⟩ := nx_so h
    refine Q.pf hs3 rfl (gI_of zm202 (e := (151, 3, .putfield 138, [9, 26, 0])) rfl) (hl.lt (a := 121) (by decide)) (by decide) (hl.T (a := 121) (p := (9, 45)) 43 rfl rfl) (by decide) rfl rfl ?_
    have hl4 : Ly tt cc s2 := by rw [hs3]; exact hl.wId (by decide)
    cases h
    exact Q.ret (A.rv zm202 (show zM202.2.2.2.2.2[84]? = some (154, 1, .return_, []) from rfl) rfl) hl4
  · rw [if_neg hc1] at h
    refine Q.map (A.zF (gI_of zm202 (e := (130, 3, .ifCond .eq 14, [78])) rfl) (fun q => hc1 (of_decide_eq_true q))) ?_
    refine Q.run zm202 2 (i' := 75) (ls' := [some (.ref 121), some (.int x1), some (.int x2)]) (st' := [.ref 121, .ref 121]) rfl ?_
    refine Q.map (A.gf (gI_of zm202 (e := (135, 3, .getfield 103, [9, 1])) rfl) (hl.lt (a := 121) (by decide)) (hl.T (a := 121) (p := (9, 45)) 43 rfl rfl) (by decide) rfl) ?_
    obtain ⟨s7, hc6, h⟩ := bu_so h
    have hq5 : Q 2 sio tt cc d 186 0 [some (.ref 121), some (.int (sI s 121 1))] [] s (.inl none, s7) := dt186 (by omega) hl  hc6
    refine Q.callV (gC_vi zm202 (show zM202.2.2.2.2.2[76]? = some (138, 3, .invokevirtual 164, [0, 186, 1, 9]) from rfl) zm186 (hl.lt (a := 121) (by decide)) (hl.T (a := 121) (p := (9, 45)) 43 rfl rfl) rfl (show aCr 1 121 [.int (sI s 121 1), .ref 121] 2 = some ([some (.ref 121), some (.int (sI s 121 1))], []) from rfl)) hq5 ?_
    refine Q.run zm202 1 (i' := 84) (ls' := [some (.ref 121), some (.int x1), some (.int x2)]) (st' := []) rfl ?_
    cases h
    exact Q.ret (A.rv zm202 (show zM202.2.2.2.2.2[84]? = some (154, 1, .return_, []) from rfl) rfl) hq5.1
def dm202_69 (k11 : Int32 → Int32 → aS → Option (aS)) (x1 : Int32) (x2 : Int32) (y1 : Int32) (s : aS) : Option (aS) :=
  nx (wI s 121 26 y1) fun s1 =>
  k11 x1 x2 s1
set_option maxRecDepth 100000 in
theorem dt202_69 {sio : Bool} {tt : Nat} {cc : Nat → Nat → Int32} {d : Nat} (hd : 1 ≤ d) {k11 : Int32 → Int32 → aS → Option (aS)} (hk11 : ∀ {x1 : Int32} {x2 : Int32} {s : aS}, Ly tt cc s → ∀ {o : aS}, k11 x1 x2 s = some o → Q 2 sio tt cc d 202 11 [some (.ref 121), some (.int x1), some (.int x2)] [] s (.inl none, o)) {x1 : Int32} {x2 : Int32} {y1 : Int32} {s : aS} (hl : Ly tt cc s) {o : aS} (h : dm202_69 k11 x1 x2 y1 s = some o) : Q 2 sio tt cc d 202 69 [some (.ref 121), some (.int x1), some (.int x2)] [.int y1, .ref 121] s (.inl none, o) := by
  unfold dm202_69 at h
  obtain ⟨d, rfl⟩ : ∃ e, d = e + 1 := ⟨d - 1, by omega⟩
  obtain ⟨s1, hs2, h⟩ := nx_so h
  refine Q.pf hs2 rfl (gI_of zm202 (e := (123, 3, .putfield 138, [9, 26, 0])) rfl) (hl.lt (a := 121) (by decide)) (by decide) (hl.T (a := 121) (p := (9, 45)) 43 rfl rfl) (by decide) rfl rfl ?_
  have hl3 : Ly tt cc s1 := by rw [hs2]; exact hl.wId (by decide)
  refine Q.run zm202 1 (i' := 11) (ls' := [some (.ref 121), some (.int x1), some (.int x2)]) (st' := []) rfl ?_
  exact hk11 hl3  h
def dm202_35 (k11 : Int32 → Int32 → aS → Option (aS)) (x1 : Int32) (y0 : Int32) (s : aS) : Option (aS) :=
  if y0 = 0 then
    k11 x1 y0 s
  else
    bu (dm176 (sI s 121 26) s) fun r4 =>
    if aB (sI s 121 38) 256 then
      nx (wI s 147 (jN (sI s 121 38)) r4) fun s6 =>
      nx (wI s6 121 38 ((sI s6 121 38) + 1)) fun s9 =>
      bu (dm176 (sI s9 121 26) s9) fun r14 =>
      if r14 = x1 then
        dm202_69 k11 x1 y0 ((sI s9 121 26) + 2) s9
      else
        dm202_69 k11 x1 y0 ((sI s9 121 26) + 1) s9
    else none
set_option maxRecDepth 100000 in
theorem dt202_35 {sio : Bool} {tt : Nat} {cc : Nat → Nat → Int32} {d : Nat} (hd : 1 ≤ d) {k11 : Int32 → Int32 → aS → Option (aS)} (hk11 : ∀ {x1 : Int32} {x2 : Int32} {s : aS}, Ly tt cc s → ∀ {o : aS}, k11 x1 x2 s = some o → Q 2 sio tt cc d 202 11 [some (.ref 121), some (.int x1), some (.int x2)] [] s (.inl none, o)) {x1 : Int32} {y0 : Int32} {x2 : Int32} {s : aS} (hl : Ly tt cc s) {o : aS} (h : dm202_35 k11 x1 y0 s = some o) : Q 2 sio tt cc d 202 35 [some (.ref 121), some (.int x1), some (.int x2)] [.int y0] s (.inl none, o) := by
  unfold dm202_35 at h
  obtain ⟨d, rfl⟩ : ∃ e, d = e + 1 := ⟨d - 1, by omega⟩
  refine Q.run zm202 2 (i' := 37) (ls' := [some (.ref 121), some (.int x1), some (.int y0)]) (st' := [.int y0]) rfl ?_
  by_cases hc1 : y0 = 0
  · rw [if_pos hc1] at h
    refine Q.map (A.zT (gI_of zm202 (e := (65, 3, .ifCond .eq (-48), [11])) rfl) (decide_eq_true hc1)) ?_
    exact hk11 hl  h
  · rw [if_neg hc1] at h
    refine Q.map (A.zF (gI_of zm202 (e := (65, 3, .ifCond .eq (-48), [11])) rfl) (fun q => hc1 (of_decide_eq_true q))) ?_
    refine Q.run zm202 1 (i' := 39) (ls' := [some (.ref 121), some (.int x1), some (.int y0)]) (st' := [.ref 121]) rfl ?_
    refine Q.map (A.gf (gI_of zm202 (e := (69, 3, .getfield 86, [9, 37])) rfl) (hl.lt (a := 121) (by decide)) (hl.T (a := 121) (p := (9, 45)) 43 rfl rfl) (by decide) (hl.R 48 rfl)) ?_
    refine Q.run zm202 1 (i' := 41) (ls' := [some (.ref 121), some (.int x1), some (.int y0)]) (st' := [.ref 121, .ref 147]) rfl ?_
    refine Q.map (A.gf (gI_of zm202 (e := (73, 3, .getfield 174, [9, 38])) rfl) (hl.lt (a := 121) (by decide)) (hl.T (a := 121) (p := (9, 45)) 43 rfl rfl) (by decide) rfl) ?_
    refine Q.run zm202 2 (i' := 44) (ls' := [some (.ref 121), some (.int x1), some (.int y0)]) (st' := [.ref 121, .ref 121, .int (sI s 121 38), .ref 147]) rfl ?_
    refine Q.map (A.gf (gI_of zm202 (e := (78, 3, .getfield 138, [9, 26])) rfl) (hl.lt (a := 121) (by decide)) (hl.T (a := 121) (p := (9, 45)) 43 rfl rfl) (by decide) rfl) ?_
    obtain ⟨r4, hc3, h⟩ := bu_so h
    have hq2 : Q 2 sio tt cc d 176 0 [some (.ref 121), some (.int (sI s 121 26))] [] s (.inl (some (.int r4)), s) := dt176 (by omega) hl  hc3
    refine Q.callI (gC_vi zm202 (show zM202.2.2.2.2.2[45]? = some (81, 3, .invokevirtual 113, [0, 176, 1, 9]) from rfl) zm176 (hl.lt (a := 121) (by decide)) (hl.T (a := 121) (p := (9, 45)) 43 rfl rfl) rfl (show aCr 1 121 [.int (sI s 121 26), .ref 121, .int (sI s 121 38), .ref 147] 2 = some ([some (.ref 121), some (.int (sI s 121 26))], [.int (sI s 121 38), .ref 147]) from rfl)) hq2 ?_
    obtain ⟨hc5, h⟩ := ite_so h
    obtain ⟨s6, hs7, h⟩ := nx_so h
    refine Q.is hs7 rfl (gI_of zm202 (e := (84, 1, .iastore, [])) rfl) (hl.lt (a := 147) (by decide)) (by decide) (hl.T (a := 147) (p := (100, 256)) 69 rfl rfl) hc5 ?_
    have hl8 : Ly tt cc s6 := by rw [hs7]; exact hl.wId (by decide)
    refine Q.run zm202 2 (i' := 49) (ls' := [some (.ref 121), some (.int x1), some (.int y0)]) (st' := [.ref 121, .ref 121]) rfl ?_
    refine Q.map (A.gf (gI_of zm202 (e := (87, 3, .getfield 174, [9, 38])) rfl) (hl8.lt (a := 121) (by decide)) (hl8.T (a := 121) (p := (9, 45)) 43 rfl rfl) (by decide) rfl) ?_
    refine Q.run zm202 2 (i' := 52) (ls' := [some (.ref 121), some (.int x1), some (.int y0)]) (st' := [.int ((sI s6 121 38) + 1), .ref 121]) rfl ?_
    obtain ⟨s9, hs10, h⟩ := nx_so h
    refine Q.pf hs10 rfl (gI_of zm202 (e := (92, 3, .putfield 174, [9, 38, 0])) rfl) (hl8.lt (a := 121) (by decide)) (by decide) (hl8.T (a := 121) (p := (9, 45)) 43 rfl rfl) (by decide) rfl rfl ?_
    have hl11 : Ly tt cc s9 := by rw [hs10]; exact hl8.wId (by decide)
    refine Q.run zm202 3 (i' := 56) (ls' := [some (.ref 121), some (.int x1), some (.int y0)]) (st' := [.ref 121, .ref 121, .ref 121]) rfl ?_
    refine Q.map (A.gf (gI_of zm202 (e := (98, 3, .getfield 138, [9, 26])) rfl) (hl11.lt (a := 121) (by decide)) (hl11.T (a := 121) (p := (9, 45)) 43 rfl rfl) (by decide) rfl) ?_
    obtain ⟨r14, hc13, h⟩ := bu_so h
    have hq12 : Q 2 sio tt cc d 176 0 [some (.ref 121), some (.int (sI s9 121 26))] [] s9 (.inl (some (.int r14)), s9) := dt176 (by omega) hl11  hc13
    refine Q.callI (gC_vi zm202 (show zM202.2.2.2.2.2[57]? = some (101, 3, .invokevirtual 113, [0, 176, 1, 9]) from rfl) zm176 (hl11.lt (a := 121) (by decide)) (hl11.T (a := 121) (p := (9, 45)) 43 rfl rfl) rfl (show aCr 1 121 [.int (sI s9 121 26), .ref 121, .ref 121] 2 = some ([some (.ref 121), some (.int (sI s9 121 26))], [.ref 121]) from rfl)) hq12 ?_
    refine Q.run zm202 1 (i' := 59) (ls' := [some (.ref 121), some (.int x1), some (.int y0)]) (st' := [.int x1, .int r14, .ref 121]) rfl ?_
    by_cases hc15 : r14 = x1
    · rw [if_pos hc15] at h
      refine Q.map (A.bF (gI_of zm202 (e := (105, 3, .if_icmp .ne 12, [65])) rfl) (fun q => of_decide_eq_true q hc15)) ?_
      refine Q.run zm202 1 (i' := 61) (ls' := [some (.ref 121), some (.int x1), some (.int y0)]) (st' := [.ref 121, .ref 121]) rfl ?_
      refine Q.map (A.gf (gI_of zm202 (e := (109, 3, .getfield 138, [9, 26])) rfl) (hl11.lt (a := 121) (by decide)) (hl11.T (a := 121) (p := (9, 45)) 43 rfl rfl) (by decide) rfl) ?_
      refine Q.run zm202 3 (i' := 69) (ls' := [some (.ref 121), some (.int x1), some (.int y0)]) (st' := [.int ((sI s9 121 26) + 2), .ref 121]) rfl ?_
      exact dt202_69 hd hk11 hl11  h
    · rw [if_neg hc15] at h
      refine Q.map (A.bT (gI_of zm202 (e := (105, 3, .if_icmp .ne 12, [65])) rfl) (decide_eq_true hc15)) ?_
      refine Q.run zm202 1 (i' := 66) (ls' := [some (.ref 121), some (.int x1), some (.int y0)]) (st' := [.ref 121, .ref 121]) rfl ?_
      refine Q.map (A.gf (gI_of zm202 (e := (118, 3, .getfield 138, [9, 26])) rfl) (hl11.lt (a := 121) (by decide)) (hl11.T (a := 121) (p := (9, 45)) 43 rfl rfl) (by decide) rfl) ?_
      refine Q.run zm202 2 (i' := 69) (ls' := [some (.ref 121), some (.int x1), some (.int y0)]) (st' := [.int ((sI s9 121 26) + 1), .ref 121]) rfl ?_
      exact dt202_69 hd hk11 hl11  h
def dm202_32 (k11 : Int32 → Int32 → aS → Option (aS)) (x1 : Int32) (s : aS) : Option (aS) :=
  dm202_35 k11 x1 1 s
set_option maxRecDepth 100000 in
theorem dt202_32 {sio : Bool} {tt : Nat} {cc : Nat → Nat → Int32} {d : Nat} (hd : 1 ≤ d) {k11 : Int32 → Int32 → aS → Option (aS)} (hk11 : ∀ {x1 : Int32} {x2 : Int32} {s : aS}, Ly tt cc s → ∀ {o : aS}, k11 x1 x2 s = some o → Q 2 sio tt cc d 202 11 [some (.ref 121), some (.int x1), some (.int x2)] [] s (.inl none, o)) {x1 : Int32} {x2 : Int32} {s : aS} (hl : Ly tt cc s) {o : aS} (h : dm202_32 k11 x1 s = some o) : Q 2 sio tt cc d 202 32 [some (.ref 121), some (.int x1), some (.int x2)] [] s (.inl none, o) := by
  unfold dm202_32 at h
  obtain ⟨d, rfl⟩ : ∃ e, d = e + 1 := ⟨d - 1, by omega⟩
  refine Q.run zm202 2 (i' := 35) (ls' := [some (.ref 121), some (.int x1), some (.int x2)]) (st' := [.int 1]) rfl ?_
  exact dt202_35 hd hk11 hl  h
def dm202_11 : Nat → Int32 → Int32 → aS → Option (aS)
  | 0, _, _, _ => none
  | n + 1, x1, x2, s =>
    if x2 = 0 then
      dm202_71 x2 s
    else
      if (sI s 121 1) ≤ (sI s 121 26) then
        dm202_71 x2 s
      else
        bu (dm176 (sI s 121 26) s) fun r5 =>
        if r5 = x1 then
          bu (dm176 ((sI s 121 26) + 1) s) fun r9 =>
          if r9 = x1 then
            dm202_32 (dm202_11 n) x1 s
          else
            dm202_35 (dm202_11 n) x1 0 s
        else
          dm202_32 (dm202_11 n) x1 s
set_option maxRecDepth 100000 in
theorem dt202_11 {sio : Bool} {tt : Nat} {cc : Nat → Nat → Int32} {d : Nat} (hd : 1 ≤ d) : ∀ (n : Nat) {x1 : Int32} {x2 : Int32} {s : aS} (_ : Ly tt cc s) {o : aS} (_ : dm202_11  n x1 x2 s = some o), Q 2 sio tt cc d 202 11 [some (.ref 121), some (.int x1), some (.int x2)] [] s (.inl none, o) := by
  obtain ⟨d, rfl⟩ : ∃ e, d = e + 1 := ⟨d - 1, by omega⟩
  intro n
  induction n with
  | zero => intro x1 x2 s hl o h; rw [dm202_11] at h; cases h
  | succ n ih =>
    intro x1 x2 s hl o h
    rw [dm202_11] at h
    refine Q.run zm202 1 (i' := 12) (ls' := [some (.ref 121), some (.int x1), some (.int x2)]) (st' := [.int x2]) rfl ?_
    by_cases hc1 : x2 = 0
    · rw [if_pos hc1] at h
      refine Q.map (A.zT (gI_of zm202 (e := (18, 3, .ifCond .eq 111, [71])) rfl) (decide_eq_true hc1)) ?_
      exact dt202_71 hd hl  h
    · rw [if_neg hc1] at h
      refine Q.map (A.zF (gI_of zm202 (e := (18, 3, .ifCond .eq 111, [71])) rfl) (fun q => hc1 (of_decide_eq_true q))) ?_
      refine Q.run zm202 1 (i' := 14) (ls' := [some (.ref 121), some (.int x1), some (.int x2)]) (st' := [.ref 121]) rfl ?_
      refine Q.map (A.gf (gI_of zm202 (e := (22, 3, .getfield 138, [9, 26])) rfl) (hl.lt (a := 121) (by decide)) (hl.T (a := 121) (p := (9, 45)) 43 rfl rfl) (by decide) rfl) ?_
      refine Q.run zm202 1 (i' := 16) (ls' := [some (.ref 121), some (.int x1), some (.int x2)]) (st' := [.ref 121, .int (sI s 121 26)]) rfl ?_
      refine Q.map (A.gf (gI_of zm202 (e := (26, 3, .getfield 103, [9, 1])) rfl) (hl.lt (a := 121) (by decide)) (hl.T (a := 121) (p := (9, 45)) 43 rfl rfl) (by decide) rfl) ?_
      by_cases hc2 : (sI s 121 1) ≤ (sI s 121 26)
      · rw [if_pos hc2] at h
        refine Q.map (A.bT (gI_of zm202 (e := (29, 3, .if_icmp .ge 100, [71])) rfl) (decide_eq_true hc2)) ?_
        exact dt202_71 hd hl  h
      · rw [if_neg hc2] at h
        refine Q.map (A.bF (gI_of zm202 (e := (29, 3, .if_icmp .ge 100, [71])) rfl) (fun q => hc2 (of_decide_eq_true q))) ?_
        refine Q.run zm202 2 (i' := 20) (ls' := [some (.ref 121), some (.int x1), some (.int x2)]) (st' := [.ref 121, .ref 121]) rfl ?_
        refine Q.map (A.gf (gI_of zm202 (e := (34, 3, .getfield 138, [9, 26])) rfl) (hl.lt (a := 121) (by decide)) (hl.T (a := 121) (p := (9, 45)) 43 rfl rfl) (by decide) rfl) ?_
        obtain ⟨r5, hc4, h⟩ := bu_so h
        have hq3 : Q 2 sio tt cc d 176 0 [some (.ref 121), some (.int (sI s 121 26))] [] s (.inl (some (.int r5)), s) := dt176 (by omega) hl  hc4
        refine Q.callI (gC_vi zm202 (show zM202.2.2.2.2.2[21]? = some (37, 3, .invokevirtual 113, [0, 176, 1, 9]) from rfl) zm176 (hl.lt (a := 121) (by decide)) (hl.T (a := 121) (p := (9, 45)) 43 rfl rfl) rfl (show aCr 1 121 [.int (sI s 121 26), .ref 121] 2 = some ([some (.ref 121), some (.int (sI s 121 26))], []) from rfl)) hq3 ?_
        refine Q.run zm202 1 (i' := 23) (ls' := [some (.ref 121), some (.int x1), some (.int x2)]) (st' := [.int x1, .int r5]) rfl ?_
        by_cases hc6 : r5 = x1
        · rw [if_pos hc6] at h
          refine Q.map (A.bF (gI_of zm202 (e := (41, 3, .if_icmp .ne 17, [32])) rfl) (fun q => of_decide_eq_true q hc6)) ?_
          refine Q.run zm202 2 (i' := 26) (ls' := [some (.ref 121), some (.int x1), some (.int x2)]) (st' := [.ref 121, .ref 121]) rfl ?_
          refine Q.map (A.gf (gI_of zm202 (e := (46, 3, .getfield 138, [9, 26])) rfl) (hl.lt (a := 121) (by decide)) (hl.T (a := 121) (p := (9, 45)) 43 rfl rfl) (by decide) rfl) ?_
          refine Q.run zm202 2 (i' := 29) (ls' := [some (.ref 121), some (.int x1), some (.int x2)]) (st' := [.int ((sI s 121 26) + 1), .ref 121]) rfl ?_
          obtain ⟨r9, hc8, h⟩ := bu_so h
          have hq7 : Q 2 sio tt cc d 176 0 [some (.ref 121), some (.int ((sI s 121 26) + 1))] [] s (.inl (some (.int r9)), s) := dt176 (by omega) hl  hc8
          refine Q.callI (gC_vi zm202 (show zM202.2.2.2.2.2[29]? = some (51, 3, .invokevirtual 113, [0, 176, 1, 9]) from rfl) zm176 (hl.lt (a := 121) (by decide)) (hl.T (a := 121) (p := (9, 45)) 43 rfl rfl) rfl (show aCr 1 121 [.int ((sI s 121 26) + 1), .ref 121] 2 = some ([some (.ref 121), some (.int ((sI s 121 26) + 1))], []) from rfl)) hq7 ?_
          refine Q.run zm202 1 (i' := 31) (ls' := [some (.ref 121), some (.int x1), some (.int x2)]) (st' := [.int x1, .int r9]) rfl ?_
          by_cases hc10 : r9 = x1
          · rw [if_pos hc10] at h
            refine Q.map (A.bF (gI_of zm202 (e := (55, 3, .if_icmp .ne 7, [34])) rfl) (fun q => of_decide_eq_true q hc10)) ?_
            exact dt202_32 hd ih hl  h
          · rw [if_neg hc10] at h
            refine Q.map (A.bT (gI_of zm202 (e := (55, 3, .if_icmp .ne 7, [34])) rfl) (decide_eq_true hc10)) ?_
            refine Q.run zm202 1 (i' := 35) (ls' := [some (.ref 121), some (.int x1), some (.int x2)]) (st' := [.int 0]) rfl ?_
            exact dt202_35 hd ih hl  h
        · rw [if_neg hc6] at h
          refine Q.map (A.bT (gI_of zm202 (e := (41, 3, .if_icmp .ne 17, [32])) rfl) (decide_eq_true hc6)) ?_
          exact dt202_32 hd ih hl  h
def dm202 (x1 : Int32) (s : aS) : Option (aS) :=
  nx (wI s 121 38 0) fun s1 =>
  nx (wI s1 121 26 ((sI s1 121 26) + 1)) fun s4 =>
  dm202_11 5000 x1 1 s4
set_option maxRecDepth 100000 in
theorem dt202 {sio : Bool} {tt : Nat} {cc : Nat → Nat → Int32} {d : Nat} (hd : 1 ≤ d) {x1 : Int32} {s : aS} (hl : Ly tt cc s) {o : aS} (h : dm202  x1 s = some o) : Q 2 sio tt cc d 202 0 [some (.ref 121), some (.int x1), none] [] s (.inl none, o) := by
  unfold dm202 at h
  obtain ⟨d, rfl⟩ : ∃ e, d = e + 1 := ⟨d - 1, by omega⟩
  refine Q.run zm202 2 (i' := 2) (ls' := [some (.ref 121), some (.int x1), none]) (st' := [.int 0, .ref 121]) rfl ?_
  obtain ⟨s1, hs2, h⟩ := nx_so h
  refine Q.pf hs2 rfl (gI_of zm202 (e := (2, 3, .putfield 174, [9, 38, 0])) rfl) (hl.lt (a := 121) (by decide)) (by decide) (hl.T (a := 121) (p := (9, 45)) 43 rfl rfl) (by decide) rfl rfl ?_
  have hl3 : Ly tt cc s1 := by rw [hs2]; exact hl.wId (by decide)
  refine Q.run zm202 2 (i' := 5) (ls' := [some (.ref 121), some (.int x1), none]) (st' := [.ref 121, .ref 121]) rfl ?_
  refine Q.map (A.gf (gI_of zm202 (e := (7, 3, .getfield 138, [9, 26])) rfl) (hl3.lt (a := 121) (by decide)) (hl3.T (a := 121) (p := (9, 45)) 43 rfl rfl) (by decide) rfl) ?_
  refine Q.run zm202 2 (i' := 8) (ls' := [some (.ref 121), some (.int x1), none]) (st' := [.int ((sI s1 121 26) + 1), .ref 121]) rfl ?_
  obtain ⟨s4, hs5, h⟩ := nx_so h
  refine Q.pf hs5 rfl (gI_of zm202 (e := (12, 3, .putfield 138, [9, 26, 0])) rfl) (hl3.lt (a := 121) (by decide)) (by decide) (hl3.T (a := 121) (p := (9, 45)) 43 rfl rfl) (by decide) rfl rfl ?_
  have hl6 : Ly tt cc s4 := by rw [hs5]; exact hl3.wId (by decide)
  refine Q.run zm202 2 (i' := 11) (ls' := [some (.ref 121), some (.int x1), some (.int 1)]) (st' := []) rfl ?_
  exact dt202_11 hd _ hl6  h
/-! 201 FormulaTreesModel.readText()V -/
set_option maxRecDepth 100000 in
theorem zm201 : zP[201]? = some zM201 := rfl
def dm201 (s : aS) : Option (aS) :=
  bu (dm202 34 s) fun s3 =>
  if (sI s3 121 27) = 0 then
    bv (dm187 1 s3) fun r8 s7 =>
    bu (dm200 r8 (sI s 121 26) 0 s7) fun s11 =>
    bu (dm194 r8 s11) fun s14 =>
    some s14
  else
    some s3
set_option maxRecDepth 100000 in
theorem dt201 {sio : Bool} {tt : Nat} {cc : Nat → Nat → Int32} {d : Nat} (hd : 2 ≤ d) {s : aS} (hl : Ly tt cc s) {o : aS} (h : dm201  s = some o) : Q 2 sio tt cc d 201 0 [some (.ref 121), none, none] [] s (.inl none, o) := by
  unfold dm201 at h
  obtain ⟨d, rfl⟩ : ∃ e, d = e + 1 := ⟨d - 1, by omega⟩
  refine Q.run zm201 1 (i' := 1) (ls' := [some (.ref 121), none, none]) (st' := [.ref 121]) rfl ?_
  refine Q.map (A.gf (gI_of zm201 (e := (1, 3, .getfield 138, [9, 26])) rfl) (hl.lt (a := 121) (by decide)) (hl.T (a := 121) (p := (9, 45)) 43 rfl rfl) (by decide) rfl) ?_
  refine Q.run zm201 3 (i' := 5) (ls' := [some (.ref 121), some (.int (sI s 121 26)), none]) (st' := [.int 34, .ref 121]) rfl ?_
  obtain ⟨s3, hc2, h⟩ := bu_so h
  have hq1 : Q 2 sio tt cc d 202 0 [some (.ref 121), some (.int 34), none] [] s (.inl none, s3) := dt202 (by omega) hl  hc2
  refine Q.callV (gC_vi zm201 (show zM201.2.2.2.2.2[5]? = some (8, 3, .invokevirtual 177, [0, 202, 1, 9]) from rfl) zm202 (hl.lt (a := 121) (by decide)) (hl.T (a := 121) (p := (9, 45)) 43 rfl rfl) rfl (show aCr 1 121 [.int 34, .ref 121] 3 = some ([some (.ref 121), some (.int 34), none], []) from rfl)) hq1 ?_
  refine Q.run zm201 1 (i' := 7) (ls' := [some (.ref 121), some (.int (sI s 121 26)), none]) (st' := [.ref 121]) rfl ?_
  refine Q.map (A.gf (gI_of zm201 (e := (12, 3, .getfield 134, [9, 27])) rfl) (hq1.1.lt (a := 121) (by decide)) (hq1.1.T (a := 121) (p := (9, 45)) 43 rfl rfl) (by decide) rfl) ?_
  by_cases hc4 : (sI s3 121 27) = 0
  · rw [if_pos hc4] at h
    refine Q.map (A.zT (gI_of zm201 (e := (15, 3, .ifCond .eq 4, [10])) rfl) (decide_eq_true hc4)) ?_
    refine Q.run zm201 2 (i' := 12) (ls' := [some (.ref 121), some (.int (sI s 121 26)), none]) (st' := [.int 1, .ref 121]) rfl ?_
    obtain ⟨r8, s7, hc6, h⟩ := bv_so h
    have hq5 : Q 2 sio tt cc d 187 0 [some (.ref 121), some (.int 1), none, none] [] s3 (.inl (some (.int r8)), s7) := dt187 (by omega) hq1.1  hc6
    refine Q.callI (gC_vi zm201 (show zM201.2.2.2.2.2[12]? = some (21, 3, .invokevirtual 167, [0, 187, 1, 9]) from rfl) zm187 (hq1.1.lt (a := 121) (by decide)) (hq1.1.T (a := 121) (p := (9, 45)) 43 rfl rfl) rfl (show aCr 1 121 [.int 1, .ref 121] 4 = some ([some (.ref 121), some (.int 1), none, none], []) from rfl)) hq5 ?_
    refine Q.run zm201 5 (i' := 18) (ls' := [some (.ref 121), some (.int (sI s 121 26)), some (.int r8)]) (st' := [.int 0, .int (sI s 121 26), .int r8, .ref 121]) rfl ?_
    obtain ⟨s11, hc10, h⟩ := bu_so h
    have hq9 : Q 2 sio tt cc d 200 0 [some (.ref 121), some (.int r8), some (.int (sI s 121 26)), some (.int 0), none] [] s7 (.inl none, s11) := dt200 (by omega) hq5.1  hc10
    refine Q.callV (gC_vi zm201 (show zM201.2.2.2.2.2[18]? = some (29, 3, .invokevirtual 170, [0, 200, 3, 9]) from rfl) zm200 (hq5.1.lt (a := 121) (by decide)) (hq5.1.T (a := 121) (p := (9, 45)) 43 rfl rfl) rfl (show aCr 3 121 [.int 0, .int (sI s 121 26), .int r8, .ref 121] 5 = some ([some (.ref 121), some (.int r8), some (.int (sI s 121 26)), some (.int 0), none], []) from rfl)) hq9 ?_
    refine Q.run zm201 2 (i' := 21) (ls' := [some (.ref 121), some (.int (sI s 121 26)), some (.int r8)]) (st' := [.int r8, .ref 121]) rfl ?_
    obtain ⟨s14, hc13, h⟩ := bu_so h
    have hq12 : Q 2 sio tt cc d 194 0 [some (.ref 121), some (.int r8)] [] s11 (.inl none, s14) := dt194 (by omega) hq9.1  hc13
    refine Q.callV (gC_vi zm201 (show zM201.2.2.2.2.2[21]? = some (34, 3, .invokevirtual 161, [0, 194, 1, 9]) from rfl) zm194 (hq9.1.lt (a := 121) (by decide)) (hq9.1.T (a := 121) (p := (9, 45)) 43 rfl rfl) rfl (show aCr 1 121 [.int r8, .ref 121] 2 = some ([some (.ref 121), some (.int r8)], []) from rfl)) hq12 ?_
    cases h
    exact Q.ret (A.rv zm201 (show zM201.2.2.2.2.2[22]? = some (37, 1, .return_, []) from rfl) rfl) hq12.1
  · rw [if_neg hc4] at h
    refine Q.map (A.zF (gI_of zm201 (e := (15, 3, .ifCond .eq 4, [10])) rfl) (fun q => hc4 (of_decide_eq_true q))) ?_
    cases h
    exact Q.ret (A.rv zm201 (show zM201.2.2.2.2.2[9]? = some (18, 1, .return_, []) from rfl) rfl) hq1.1
/-! 204 FormulaTreesModel.errorAt(II)I -/
set_option maxRecDepth 100000 in
theorem zm204 : zP[204]? = some zM204 := rfl
def dm204_57 (x1 : Int32) (x2 : Int64) (y0 : Int32) : Option (Int32) :=
  if y0 ≤ x1 then
    some 0
  else
    some (((x2 >>> ((8 * ((y0 - 1) - x1)).toInt64 &&& 63)) &&& 255).toInt32)
set_option maxRecDepth 100000 in
theorem dt204_57 {sio : Bool} {tt : Nat} {cc : Nat → Nat → Int32} {d : Nat} (hd : 0 ≤ d) {x1 : Int32} {x2 : Int64} {y0 : Int32} {x0 : Int32} {s : aS} (hl : Ly tt cc s) {o : Int32} (h : dm204_57  x1 x2 y0 = some o) : Q 2 sio tt cc d 204 57 [some (.int x0), some (.int x1), some (.long x2), none, none] [.int y0] s (.inl (some (.int o)), s) := by
  unfold dm204_57 at h
  refine Q.run zm204 3 (i' := 60) (ls' := [some (.int x0), some (.int x1), some (.long x2), none, some (.int y0)]) (st' := [.int y0, .int x1]) rfl ?_
  by_cases hc1 : y0 ≤ x1
  · rw [if_pos hc1] at h
    refine Q.map (A.bT (gI_of zm204 (e := (122, 3, .if_icmp .ge 22, [74])) rfl) (decide_eq_true hc1)) ?_
    refine Q.run zm204 1 (i' := 75) (ls' := [some (.int x0), some (.int x1), some (.long x2), none, some (.int y0)]) (st' := [.int 0]) rfl ?_
    cases h
    exact Q.ret (A.ri zm204 (show zM204.2.2.2.2.2[75]? = some (145, 1, .ireturn, []) from rfl) rfl rfl) hl
  · rw [if_neg hc1] at h
    refine Q.map (A.bF (gI_of zm204 (e := (122, 3, .if_icmp .ge 22, [74])) rfl) (fun q => hc1 (of_decide_eq_true q))) ?_
    refine Q.run zm204 13 (i' := 75) (ls' := [some (.int x0), some (.int x1), some (.long x2), none, some (.int y0)]) (st' := [.int (((x2 >>> ((8 * ((y0 - 1) - x1)).toInt64 &&& 63)) &&& 255).toInt32)]) rfl ?_
    cases h
    exact Q.ret (A.ri zm204 (show zM204.2.2.2.2.2[75]? = some (145, 1, .ireturn, []) from rfl) rfl rfl) hl
def dm204_54 (x1 : Int32) (x2 : Int64) : Option (Int32) :=
  dm204_57 x1 x2 5
set_option maxRecDepth 100000 in
theorem dt204_54 {sio : Bool} {tt : Nat} {cc : Nat → Nat → Int32} {d : Nat} (hd : 0 ≤ d) {x1 : Int32} {x2 : Int64} {x0 : Int32} {s : aS} (hl : Ly tt cc s) {o : Int32} (h : dm204_54  x1 x2 = some o) : Q 2 sio tt cc d 204 54 [some (.int x0), some (.int x1), some (.long x2), none, none] [] s (.inl (some (.int o)), s) := by
  unfold dm204_54 at h
  refine Q.run zm204 2 (i' := 57) (ls' := [some (.int x0), some (.int x1), some (.long x2), none, none]) (st' := [.int 5]) rfl ?_
  exact dt204_57 hd hl  h
def dm204_46 (x1 : Int32) (x2 : Int64) : Option (Int32) :=
  dm204_57 x1 x2 7
set_option maxRecDepth 100000 in
theorem dt204_46 {sio : Bool} {tt : Nat} {cc : Nat → Nat → Int32} {d : Nat} (hd : 0 ≤ d) {x1 : Int32} {x2 : Int64} {x0 : Int32} {s : aS} (hl : Ly tt cc s) {o : Int32} (h : dm204_46  x1 x2 = some o) : Q 2 sio tt cc d 204 46 [some (.int x0), some (.int x1), some (.long x2), none, none] [] s (.inl (some (.int o)), s) := by
  unfold dm204_46 at h
  refine Q.run zm204 2 (i' := 57) (ls' := [some (.int x0), some (.int x1), some (.long x2), none, none]) (st' := [.int 7]) rfl ?_
  exact dt204_57 hd hl  h
def dm204_38 (x1 : Int32) (x2 : Int64) : Option (Int32) :=
  dm204_57 x1 x2 6
set_option maxRecDepth 100000 in
theorem dt204_38 {sio : Bool} {tt : Nat} {cc : Nat → Nat → Int32} {d : Nat} (hd : 0 ≤ d) {x1 : Int32} {x2 : Int64} {x0 : Int32} {s : aS} (hl : Ly tt cc s) {o : Int32} (h : dm204_38  x1 x2 = some o) : Q 2 sio tt cc d 204 38 [some (.int x0), some (.int x1), some (.long x2), none, none] [] s (.inl (some (.int o)), s) := by
  unfold dm204_38 at h
  refine Q.run zm204 2 (i' := 57) (ls' := [some (.int x0), some (.int x1), some (.long x2), none, none]) (st' := [.int 6]) rfl ?_
  exact dt204_57 hd hl  h
def dm204_31 (x0 : Int32) (x1 : Int32) (y0 : Int64) : Option (Int32) :=
  if x0 = 1 then
    dm204_38 x1 y0
  else
    if x0 = 5 then
      dm204_38 x1 y0
    else
      if x0 = 2 then
        dm204_46 x1 y0
      else
        if x0 = 3 then
          dm204_46 x1 y0
        else
          if x0 = 4 then
            dm204_54 x1 y0
          else
            if x0 = 6 then
              dm204_54 x1 y0
            else
              dm204_57 x1 y0 4
set_option maxRecDepth 100000 in
theorem dt204_31 {sio : Bool} {tt : Nat} {cc : Nat → Nat → Int32} {d : Nat} (hd : 0 ≤ d) {x0 : Int32} {x1 : Int32} {y0 : Int64} {s : aS} (hl : Ly tt cc s) {o : Int32} (h : dm204_31  x0 x1 y0 = some o) : Q 2 sio tt cc d 204 31 [some (.int x0), some (.int x1), none, none, none] [.long y0] s (.inl (some (.int o)), s) := by
  unfold dm204_31 at h
  refine Q.run zm204 3 (i' := 34) (ls' := [some (.int x0), some (.int x1), some (.long y0), none, none]) (st' := [.int 1, .int x0]) rfl ?_
  by_cases hc1 : x0 = 1
  · rw [if_pos hc1] at h
    refine Q.map (A.bT (gI_of zm204 (e := (73, 3, .if_icmp .eq 8, [38])) rfl) (decide_eq_true hc1)) ?_
    exact dt204_38 hd hl  h
  · rw [if_neg hc1] at h
    refine Q.map (A.bF (gI_of zm204 (e := (73, 3, .if_icmp .eq 8, [38])) rfl) (fun q => hc1 (of_decide_eq_true q))) ?_
    refine Q.run zm204 2 (i' := 37) (ls' := [some (.int x0), some (.int x1), some (.long y0), none, none]) (st' := [.int 5, .int x0]) rfl ?_
    by_cases hc2 : x0 = 5
    · rw [if_pos hc2] at h
      refine Q.map (A.bF (gI_of zm204 (e := (78, 3, .if_icmp .ne 8, [40])) rfl) (fun q => of_decide_eq_true q hc2)) ?_
      exact dt204_38 hd hl  h
    · rw [if_neg hc2] at h
      refine Q.map (A.bT (gI_of zm204 (e := (78, 3, .if_icmp .ne 8, [40])) rfl) (decide_eq_true hc2)) ?_
      refine Q.run zm204 2 (i' := 42) (ls' := [some (.int x0), some (.int x1), some (.long y0), none, none]) (st' := [.int 2, .int x0]) rfl ?_
      by_cases hc3 : x0 = 2
      · rw [if_pos hc3] at h
        refine Q.map (A.bT (gI_of zm204 (e := (88, 3, .if_icmp .eq 8, [46])) rfl) (decide_eq_true hc3)) ?_
        exact dt204_46 hd hl  h
      · rw [if_neg hc3] at h
        refine Q.map (A.bF (gI_of zm204 (e := (88, 3, .if_icmp .eq 8, [46])) rfl) (fun q => hc3 (of_decide_eq_true q))) ?_
        refine Q.run zm204 2 (i' := 45) (ls' := [some (.int x0), some (.int x1), some (.long y0), none, none]) (st' := [.int 3, .int x0]) rfl ?_
        by_cases hc4 : x0 = 3
        · rw [if_pos hc4] at h
          refine Q.map (A.bF (gI_of zm204 (e := (93, 3, .if_icmp .ne 8, [48])) rfl) (fun q => of_decide_eq_true q hc4)) ?_
          exact dt204_46 hd hl  h
        · rw [if_neg hc4] at h
          refine Q.map (A.bT (gI_of zm204 (e := (93, 3, .if_icmp .ne 8, [48])) rfl) (decide_eq_true hc4)) ?_
          refine Q.run zm204 2 (i' := 50) (ls' := [some (.int x0), some (.int x1), some (.long y0), none, none]) (st' := [.int 4, .int x0]) rfl ?_
          by_cases hc5 : x0 = 4
          · rw [if_pos hc5] at h
            refine Q.map (A.bT (gI_of zm204 (e := (103, 3, .if_icmp .eq 9, [54])) rfl) (decide_eq_true hc5)) ?_
            exact dt204_54 hd hl  h
          · rw [if_neg hc5] at h
            refine Q.map (A.bF (gI_of zm204 (e := (103, 3, .if_icmp .eq 9, [54])) rfl) (fun q => hc5 (of_decide_eq_true q))) ?_
            refine Q.run zm204 2 (i' := 53) (ls' := [some (.int x0), some (.int x1), some (.long y0), none, none]) (st' := [.int 6, .int x0]) rfl ?_
            by_cases hc6 : x0 = 6
            · rw [if_pos hc6] at h
              refine Q.map (A.bF (gI_of zm204 (e := (109, 3, .if_icmp .ne 7, [56])) rfl) (fun q => of_decide_eq_true q hc6)) ?_
              exact dt204_54 hd hl  h
            · rw [if_neg hc6] at h
              refine Q.map (A.bT (gI_of zm204 (e := (109, 3, .if_icmp .ne 7, [56])) rfl) (decide_eq_true hc6)) ?_
              refine Q.run zm204 1 (i' := 57) (ls' := [some (.int x0), some (.int x1), some (.long y0), none, none]) (st' := [.int 4]) rfl ?_
              exact dt204_57 hd hl  h
def dm204 (x0 : Int32) (x1 : Int32) : Option (Int32) :=
  if x0 = 1 then
    dm204_31 x0 x1 38819345484833
  else
    if x0 = 2 then
      dm204_31 x0 x1 9926705954107425
    else
      if x0 = 3 then
        dm204_31 x0 x1 9946462638392609
      else
        if x0 = 4 then
          dm204_31 x0 x1 151704127009
        else
          if x0 = 5 then
            dm204_31 x0 x1 38819010004287
          else
            if x0 = 6 then
              dm204_31 x0 x1 151638068513
            else
              dm204_31 x0 x1 592326465
set_option maxRecDepth 100000 in
theorem dt204 {sio : Bool} {tt : Nat} {cc : Nat → Nat → Int32} {d : Nat} (hd : 0 ≤ d) {x0 : Int32} {x1 : Int32} {s : aS} (hl : Ly tt cc s) {o : Int32} (h : dm204  x0 x1 = some o) : Q 2 sio tt cc d 204 0 [some (.int x0), some (.int x1), none, none, none] [] s (.inl (some (.int o)), s) := by
  unfold dm204 at h
  refine Q.run zm204 2 (i' := 2) (ls' := [some (.int x0), some (.int x1), none, none, none]) (st' := [.int 1, .int x0]) rfl ?_
  by_cases hc1 : x0 = 1
  · rw [if_pos hc1] at h
    refine Q.map (A.bF (gI_of zm204 (e := (2, 3, .if_icmp .ne 9, [5])) rfl) (fun q => of_decide_eq_true q hc1)) ?_
    refine Q.run zm204 2 (i' := 31) (ls' := [some (.int x0), some (.int x1), none, none, none]) (st' := [.long 38819345484833]) rfl ?_
    exact dt204_31 hd hl  h
  · rw [if_neg hc1] at h
    refine Q.map (A.bT (gI_of zm204 (e := (2, 3, .if_icmp .ne 9, [5])) rfl) (decide_eq_true hc1)) ?_
    refine Q.run zm204 2 (i' := 7) (ls' := [some (.int x0), some (.int x1), none, none, none]) (st' := [.int 2, .int x0]) rfl ?_
    by_cases hc2 : x0 = 2
    · rw [if_pos hc2] at h
      refine Q.map (A.bF (gI_of zm204 (e := (13, 3, .if_icmp .ne 9, [10])) rfl) (fun q => of_decide_eq_true q hc2)) ?_
      refine Q.run zm204 2 (i' := 31) (ls' := [some (.int x0), some (.int x1), none, none, none]) (st' := [.long 9926705954107425]) rfl ?_
      exact dt204_31 hd hl  h
    · rw [if_neg hc2] at h
      refine Q.map (A.bT (gI_of zm204 (e := (13, 3, .if_icmp .ne 9, [10])) rfl) (decide_eq_true hc2)) ?_
      refine Q.run zm204 2 (i' := 12) (ls' := [some (.int x0), some (.int x1), none, none, none]) (st' := [.int 3, .int x0]) rfl ?_
      by_cases hc3 : x0 = 3
      · rw [if_pos hc3] at h
        refine Q.map (A.bF (gI_of zm204 (e := (24, 3, .if_icmp .ne 9, [15])) rfl) (fun q => of_decide_eq_true q hc3)) ?_
        refine Q.run zm204 2 (i' := 31) (ls' := [some (.int x0), some (.int x1), none, none, none]) (st' := [.long 9946462638392609]) rfl ?_
        exact dt204_31 hd hl  h
      · rw [if_neg hc3] at h
        refine Q.map (A.bT (gI_of zm204 (e := (24, 3, .if_icmp .ne 9, [15])) rfl) (decide_eq_true hc3)) ?_
        refine Q.run zm204 2 (i' := 17) (ls' := [some (.int x0), some (.int x1), none, none, none]) (st' := [.int 4, .int x0]) rfl ?_
        by_cases hc4 : x0 = 4
        · rw [if_pos hc4] at h
          refine Q.map (A.bF (gI_of zm204 (e := (35, 3, .if_icmp .ne 9, [20])) rfl) (fun q => of_decide_eq_true q hc4)) ?_
          refine Q.run zm204 2 (i' := 31) (ls' := [some (.int x0), some (.int x1), none, none, none]) (st' := [.long 151704127009]) rfl ?_
          exact dt204_31 hd hl  h
        · rw [if_neg hc4] at h
          refine Q.map (A.bT (gI_of zm204 (e := (35, 3, .if_icmp .ne 9, [20])) rfl) (decide_eq_true hc4)) ?_
          refine Q.run zm204 2 (i' := 22) (ls' := [some (.int x0), some (.int x1), none, none, none]) (st' := [.int 5, .int x0]) rfl ?_
          by_cases hc5 : x0 = 5
          · rw [if_pos hc5] at h
            refine Q.map (A.bF (gI_of zm204 (e := (46, 3, .if_icmp .ne 9, [25])) rfl) (fun q => of_decide_eq_true q hc5)) ?_
            refine Q.run zm204 2 (i' := 31) (ls' := [some (.int x0), some (.int x1), none, none, none]) (st' := [.long 38819010004287]) rfl ?_
            exact dt204_31 hd hl  h
          · rw [if_neg hc5] at h
            refine Q.map (A.bT (gI_of zm204 (e := (46, 3, .if_icmp .ne 9, [25])) rfl) (decide_eq_true hc5)) ?_
            refine Q.run zm204 2 (i' := 27) (ls' := [some (.int x0), some (.int x1), none, none, none]) (st' := [.int 6, .int x0]) rfl ?_
            by_cases hc6 : x0 = 6
            · rw [if_pos hc6] at h
              refine Q.map (A.bF (gI_of zm204 (e := (58, 3, .if_icmp .ne 9, [30])) rfl) (fun q => of_decide_eq_true q hc6)) ?_
              refine Q.run zm204 2 (i' := 31) (ls' := [some (.int x0), some (.int x1), none, none, none]) (st' := [.long 151638068513]) rfl ?_
              exact dt204_31 hd hl  h
            · rw [if_neg hc6] at h
              refine Q.map (A.bT (gI_of zm204 (e := (58, 3, .if_icmp .ne 9, [30])) rfl) (decide_eq_true hc6)) ?_
              refine Q.run zm204 1 (i' := 31) (ls' := [some (.int x0), some (.int x1), none, none, none]) (st' := [.long 592326465]) rfl ?_
              exact dt204_31 hd hl  h
end
