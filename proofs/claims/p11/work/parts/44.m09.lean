/-! 112 FormulaTrees$Reader.wantReference(II)V -/
set_option maxRecDepth 100000 in
theorem zm112 : zP[112]? = some zM112 := rfl
def dm112 (x1 : Int32) (x2 : Int32) (s : aS) : Option (aS) :=
  nx (wI s 106 11 x1) fun s1 =>
  nx (wI s1 106 12 x2) fun s4 =>
  nx (wI s4 106 9 2) fun s7 =>
  some s7
set_option maxRecDepth 100000 in
theorem dt112 {sio : Bool} {tt : Nat} {cc : Nat → Nat → Int32} {d : Nat} (hd : 0 ≤ d) {x1 : Int32} {x2 : Int32} {s : aS} (hl : Ly tt cc s) {o : aS} (h : dm112  x1 x2 s = some o) : Q 1 sio tt cc d 112 0 [some (.ref 106), some (.int x1), some (.int x2)] [] s (.inl none, o) := by
  unfold dm112 at h
  refine Q.run zm112 2 (i' := 2) (ls' := [some (.ref 106), some (.int x1), some (.int x2)]) (st' := [.int x1, .ref 106]) rfl ?_
  obtain ⟨s1, hs2, h⟩ := nx_so h
  refine Q.pf hs2 rfl (gI_of zm112 (e := (2, 3, .putfield 271, [4, 11, 0])) rfl) (hl.lt (a := 106) (by decide)) (by decide) (hl.T (a := 106) (p := (4, 13)) 28 rfl rfl) (by decide) rfl rfl ?_
  have hl3 : Ly tt cc s1 := by rw [hs2]; exact hl.wId (by decide)
  refine Q.run zm112 2 (i' := 5) (ls' := [some (.ref 106), some (.int x1), some (.int x2)]) (st' := [.int x2, .ref 106]) rfl ?_
  obtain ⟨s4, hs5, h⟩ := nx_so h
  refine Q.pf hs5 rfl (gI_of zm112 (e := (7, 3, .putfield 274, [4, 12, 0])) rfl) (hl3.lt (a := 106) (by decide)) (by decide) (hl3.T (a := 106) (p := (4, 13)) 28 rfl rfl) (by decide) rfl rfl ?_
  have hl6 : Ly tt cc s4 := by rw [hs5]; exact hl3.wId (by decide)
  refine Q.run zm112 2 (i' := 8) (ls' := [some (.ref 106), some (.int x1), some (.int x2)]) (st' := [.int 2, .ref 106]) rfl ?_
  obtain ⟨s7, hs8, h⟩ := nx_so h
  refine Q.pf hs8 rfl (gI_of zm112 (e := (12, 3, .putfield 68, [4, 9, 0])) rfl) (hl6.lt (a := 106) (by decide)) (by decide) (hl6.T (a := 106) (p := (4, 13)) 28 rfl rfl) (by decide) rfl rfl ?_
  have hl9 : Ly tt cc s7 := by rw [hs8]; exact hl6.wId (by decide)
  cases h
  exact Q.ret (A.rv zm112 (show zM112.2.2.2.2.2[9]? = some (15, 1, .return_, []) from rfl) rfl) hl9
/-! 114 FormulaTrees$Reader.endPrefix(I)V -/
set_option maxRecDepth 100000 in
theorem zm114 : zP[114]? = some zM114 := rfl
def dm114 (x1 : Int32) (s : aS) : Option (aS) :=
  bu (dm32 107 s) fun r3 =>
  if r3 = (-1) then
    nx (wI s 106 8 x1) fun s5 =>
    some s5
  else
    nx (wI s 106 7 ((sI s 106 7) + 1)) fun s8 =>
    bu (dm112 x1 r3 s8) fun s13 =>
    some s13
set_option maxRecDepth 100000 in
theorem dt114 {sio : Bool} {tt : Nat} {cc : Nat → Nat → Int32} {d : Nat} (hd : 3 ≤ d) {x1 : Int32} {s : aS} (hl : Ly tt cc s) {o : aS} (h : dm114  x1 s = some o) : Q 1 sio tt cc d 114 0 [some (.ref 106), some (.int x1), none] [] s (.inl none, o) := by
  unfold dm114 at h
  obtain ⟨d, rfl⟩ : ∃ e, d = e + 1 := ⟨d - 1, by omega⟩
  refine Q.run zm114 1 (i' := 1) (ls' := [some (.ref 106), some (.int x1), none]) (st' := [.ref 106]) rfl ?_
  refine Q.map (A.gf (gI_of zm114 (e := (1, 3, .getfield 44, [4, 1])) rfl) (hl.lt (a := 106) (by decide)) (hl.T (a := 106) (p := (4, 13)) 28 rfl rfl) (by decide) (hl.R 9 rfl)) ?_
  refine Q.run zm114 1 (i' := 3) (ls' := [some (.ref 106), some (.int x1), none]) (st' := [.ref 106, .ref 81]) rfl ?_
  refine Q.map (A.gf (gI_of zm114 (e := (5, 3, .getfield 14, [4, 2])) rfl) (hl.lt (a := 106) (by decide)) (hl.T (a := 106) (p := (4, 13)) 28 rfl rfl) (by decide) (hl.R 10 rfl)) ?_
  obtain ⟨r3, hc2, h⟩ := bu_so h
  have hq1 : Q 1 sio tt cc d 32 0 [some (.ref 81), some (.ref 107), none] [] s (.inl (some (.int r3)), s) := dt32 (by omega) hl (hl.Kd (a := 107) (c := 1) (n := 2) 29 rfl rfl (by decide)) hc2
  refine Q.callI (gC_vi zm114 (show zM114.2.2.2.2.2[4]? = some (8, 3, .invokevirtual 265, [0, 32, 1, 2]) from rfl) zm32 (hl.lt (a := 81) (by decide)) (hl.T (a := 81) (p := (2, 3)) 3 rfl rfl) rfl (show aCr 1 81 [.ref 107, .ref 81] 3 = some ([some (.ref 81), some (.ref 107), none], []) from rfl)) hq1 ?_
  refine Q.run zm114 3 (i' := 8) (ls' := [some (.ref 106), some (.int x1), some (.int r3)]) (st' := [.int (-1), .int r3]) rfl ?_
  by_cases hc4 : r3 = (-1)
  · rw [if_pos hc4] at h
    refine Q.map (A.bF (gI_of zm114 (e := (14, 3, .if_icmp .ne 11, [13])) rfl) (fun q => of_decide_eq_true q hc4)) ?_
    refine Q.run zm114 2 (i' := 11) (ls' := [some (.ref 106), some (.int x1), some (.int r3)]) (st' := [.int x1, .ref 106]) rfl ?_
    obtain ⟨s5, hs6, h⟩ := nx_so h
    refine Q.pf hs6 rfl (gI_of zm114 (e := (19, 3, .putfield 65, [4, 8, 0])) rfl) (hl.lt (a := 106) (by decide)) (by decide) (hl.T (a := 106) (p := (4, 13)) 28 rfl rfl) (by decide) rfl rfl ?_
    have hl7 : Ly tt cc s5 := by rw [hs6]; exact hl.wId (by decide)
    refine Q.run zm114 1 (i' := 23) (ls' := [some (.ref 106), some (.int x1), some (.int r3)]) (st' := []) rfl ?_
    cases h
    exact Q.ret (A.rv zm114 (show zM114.2.2.2.2.2[23]? = some (41, 1, .return_, []) from rfl) rfl) hl7
  · rw [if_neg hc4] at h
    refine Q.map (A.bT (gI_of zm114 (e := (14, 3, .if_icmp .ne 11, [13])) rfl) (decide_eq_true hc4)) ?_
    refine Q.run zm114 2 (i' := 15) (ls' := [some (.ref 106), some (.int x1), some (.int r3)]) (st' := [.ref 106, .ref 106]) rfl ?_
    refine Q.map (A.gf (gI_of zm114 (e := (27, 3, .getfield 61, [4, 7])) rfl) (hl.lt (a := 106) (by decide)) (hl.T (a := 106) (p := (4, 13)) 28 rfl rfl) (by decide) rfl) ?_
    refine Q.run zm114 2 (i' := 18) (ls' := [some (.ref 106), some (.int x1), some (.int r3)]) (st' := [.int ((sI s 106 7) + 1), .ref 106]) rfl ?_
    obtain ⟨s8, hs9, h⟩ := nx_so h
    refine Q.pf hs9 rfl (gI_of zm114 (e := (32, 3, .putfield 61, [4, 7, 0])) rfl) (hl.lt (a := 106) (by decide)) (by decide) (hl.T (a := 106) (p := (4, 13)) 28 rfl rfl) (by decide) rfl rfl ?_
    have hl10 : Ly tt cc s8 := by rw [hs9]; exact hl.wId (by decide)
    refine Q.run zm114 3 (i' := 22) (ls' := [some (.ref 106), some (.int x1), some (.int r3)]) (st' := [.int r3, .int x1, .ref 106]) rfl ?_
    obtain ⟨s13, hc12, h⟩ := bu_so h
    have hq11 : Q 1 sio tt cc d 112 0 [some (.ref 106), some (.int x1), some (.int r3)] [] s8 (.inl none, s13) := dt112 (by omega) hl10  hc12
    refine Q.callV (gC_vi zm114 (show zM114.2.2.2.2.2[22]? = some (38, 3, .invokevirtual 109, [0, 112, 2, 4]) from rfl) zm112 (hl10.lt (a := 106) (by decide)) (hl10.T (a := 106) (p := (4, 13)) 28 rfl rfl) rfl (show aCr 2 106 [.int r3, .int x1, .ref 106] 3 = some ([some (.ref 106), some (.int x1), some (.int r3)], []) from rfl)) hq11 ?_
    cases h
    exact Q.ret (A.rv zm114 (show zM114.2.2.2.2.2[23]? = some (41, 1, .return_, []) from rfl) rfl) hq11.1
/-! 113 FormulaTrees$Reader.readQuotedPrefix()V -/
set_option maxRecDepth 100000 in
theorem zm113 : zP[113]? = some zM113 := rfl
def dm113_18 (s : aS) : Option (aS) :=
  nx (wI s 106 8 (sI s 106 7)) fun s1 =>
  some s1
set_option maxRecDepth 100000 in
theorem dt113_18 {sio : Bool} {tt : Nat} {cc : Nat → Nat → Int32} {d : Nat} (hd : 4 ≤ d) {x1 : Int32} {s : aS} (hl : Ly tt cc s) {o : aS} (h : dm113_18  s = some o) : Q 1 sio tt cc d 113 18 [some (.ref 106), some (.int x1)] [] s (.inl none, o) := by
  unfold dm113_18 at h
  obtain ⟨d, rfl⟩ : ∃ e, d = e + 1 := ⟨d - 1, by omega⟩
  refine Q.run zm113 2 (i' := 20) (ls' := [some (.ref 106), some (.int x1)]) (st' := [.ref 106, .ref 106]) rfl ?_
  refine Q.map (A.gf (gI_of zm113 (e := (40, 3, .getfield 61, [4, 7])) rfl) (hl.lt (a := 106) (by decide)) (hl.T (a := 106) (p := (4, 13)) 28 rfl rfl) (by decide) rfl) ?_
  obtain ⟨s1, hs2, h⟩ := nx_so h
  refine Q.pf hs2 rfl (gI_of zm113 (e := (43, 3, .putfield 65, [4, 8, 0])) rfl) (hl.lt (a := 106) (by decide)) (by decide) (hl.T (a := 106) (p := (4, 13)) 28 rfl rfl) (by decide) rfl rfl ?_
  have hl3 : Ly tt cc s1 := by rw [hs2]; exact hl.wId (by decide)
  cases h
  exact Q.ret (A.rv zm113 (show zM113.2.2.2.2.2[22]? = some (46, 1, .return_, []) from rfl) rfl) hl3
def dm113 (s : aS) : Option (aS) :=
  bv (dm105 39 s) fun r4 s3 =>
  if r4 = 0 then
    dm113_18 s3
  else
    bu (dm34 79 (sI s3 106 7) s3) fun r8 =>
    if r8 = 33 then
      bu (dm114 (sI s 106 7) s3) fun s12 =>
      some s12
    else
      dm113_18 s3
set_option maxRecDepth 100000 in
theorem dt113 {sio : Bool} {tt : Nat} {cc : Nat → Nat → Int32} {d : Nat} (hd : 4 ≤ d) {s : aS} (hl : Ly tt cc s) {o : aS} (h : dm113  s = some o) : Q 1 sio tt cc d 113 0 [some (.ref 106), none] [] s (.inl none, o) := by
  unfold dm113 at h
  obtain ⟨d, rfl⟩ : ∃ e, d = e + 1 := ⟨d - 1, by omega⟩
  refine Q.run zm113 1 (i' := 1) (ls' := [some (.ref 106), none]) (st' := [.ref 106]) rfl ?_
  refine Q.map (A.gf (gI_of zm113 (e := (1, 3, .getfield 61, [4, 7])) rfl) (hl.lt (a := 106) (by decide)) (hl.T (a := 106) (p := (4, 13)) 28 rfl rfl) (by decide) rfl) ?_
  refine Q.run zm113 3 (i' := 5) (ls' := [some (.ref 106), some (.int (sI s 106 7))]) (st' := [.int 39, .ref 106]) rfl ?_
  obtain ⟨r4, s3, hc2, h⟩ := bv_so h
  have hq1 : Q 1 sio tt cc d 105 0 [some (.ref 106), some (.int 39), none, none] [] s (.inl (some (.int r4)), s3) := dt105 (by omega) hl  hc2
  refine Q.callI (gC_vi zm113 (show zM113.2.2.2.2.2[5]? = some (8, 3, .invokevirtual 225, [0, 105, 1, 4]) from rfl) zm105 (hl.lt (a := 106) (by decide)) (hl.T (a := 106) (p := (4, 13)) 28 rfl rfl) rfl (show aCr 1 106 [.int 39, .ref 106] 4 = some ([some (.ref 106), some (.int 39), none, none], []) from rfl)) hq1 ?_
  by_cases hc5 : r4 = 0
  · rw [if_pos hc5] at h
    refine Q.map (A.zT (gI_of zm113 (e := (11, 3, .ifCond .eq 27, [18])) rfl) (decide_eq_true hc5)) ?_
    exact dt113_18 hd hq1.1  h
  · rw [if_neg hc5] at h
    refine Q.map (A.zF (gI_of zm113 (e := (11, 3, .ifCond .eq 27, [18])) rfl) (fun q => hc5 (of_decide_eq_true q))) ?_
    refine Q.run zm113 1 (i' := 8) (ls' := [some (.ref 106), some (.int (sI s 106 7))]) (st' := [.ref 106]) rfl ?_
    refine Q.map (A.gf (gI_of zm113 (e := (15, 3, .getfield 41, [4, 0])) rfl) (hq1.1.lt (a := 106) (by decide)) (hq1.1.T (a := 106) (p := (4, 13)) 28 rfl rfl) (by decide) (hq1.1.R 8 rfl)) ?_
    refine Q.run zm113 1 (i' := 10) (ls' := [some (.ref 106), some (.int (sI s 106 7))]) (st' := [.ref 106, .ref 79]) rfl ?_
    refine Q.map (A.gf (gI_of zm113 (e := (19, 3, .getfield 61, [4, 7])) rfl) (hq1.1.lt (a := 106) (by decide)) (hq1.1.T (a := 106) (p := (4, 13)) 28 rfl rfl) (by decide) rfl) ?_
    obtain ⟨r8, hc7, h⟩ := bu_so h
    have hq6 : Q 1 sio tt cc d 34 0 [some (.ref 79), some (.int (sI s3 106 7))] [] s3 (.inl (some (.int r8)), s3) := dt34 (by omega) hq1.1 (hq1.1.Kd (a := 79) (c := 1) (n := 2) 1 rfl rfl (by decide)) hc7
    refine Q.callI (gC_vi zm113 (show zM113.2.2.2.2.2[11]? = some (22, 3, .invokevirtual 78, [0, 34, 1, 1]) from rfl) zm34 (hq1.1.lt (a := 79) (by decide)) (hq1.1.T (a := 79) (p := (1, 2)) 1 rfl rfl) rfl (show aCr 1 79 [.int (sI s3 106 7), .ref 79] 2 = some ([some (.ref 79), some (.int (sI s3 106 7))], []) from rfl)) hq6 ?_
    refine Q.run zm113 1 (i' := 13) (ls' := [some (.ref 106), some (.int (sI s 106 7))]) (st' := [.int 33, .int r8]) rfl ?_
    by_cases hc9 : r8 = 33
    · rw [if_pos hc9] at h
      refine Q.map (A.bF (gI_of zm113 (e := (27, 3, .if_icmp .ne 11, [18])) rfl) (fun q => of_decide_eq_true q hc9)) ?_
      refine Q.run zm113 2 (i' := 16) (ls' := [some (.ref 106), some (.int (sI s 106 7))]) (st' := [.int (sI s 106 7), .ref 106]) rfl ?_
      obtain ⟨s12, hc11, h⟩ := bu_so h
      have hq10 : Q 1 sio tt cc d 114 0 [some (.ref 106), some (.int (sI s 106 7)), none] [] s3 (.inl none, s12) := dt114 (by omega) hq1.1  hc11
      refine Q.callV (gC_vi zm113 (show zM113.2.2.2.2.2[16]? = some (32, 3, .invokevirtual 248, [0, 114, 1, 4]) from rfl) zm114 (hq1.1.lt (a := 106) (by decide)) (hq1.1.T (a := 106) (p := (4, 13)) 28 rfl rfl) rfl (show aCr 1 106 [.int (sI s 106 7), .ref 106] 3 = some ([some (.ref 106), some (.int (sI s 106 7)), none], []) from rfl)) hq10 ?_
      refine Q.run zm113 1 (i' := 22) (ls' := [some (.ref 106), some (.int (sI s 106 7))]) (st' := []) rfl ?_
      cases h
      exact Q.ret (A.rv zm113 (show zM113.2.2.2.2.2[22]? = some (46, 1, .return_, []) from rfl) rfl) hq10.1
    · rw [if_neg hc9] at h
      refine Q.map (A.bT (gI_of zm113 (e := (27, 3, .if_icmp .ne 11, [18])) rfl) (decide_eq_true hc9)) ?_
      exact dt113_18 hd hq1.1  h
/-! 116 FormulaTrees$Pending.many()I -/
set_option maxRecDepth 100000 in
theorem zm116 : zP[116]? = some zM116 := rfl
def dm116 (s : aS) : Option (Int32) :=
  some (sI s 110 2)
set_option maxRecDepth 100000 in
theorem dt116 {sio : Bool} {tt : Nat} {cc : Nat → Nat → Int32} {d : Nat} (hd : 0 ≤ d) {s : aS} (hl : Ly tt cc s) {o : Int32} (h : dm116  s = some o) : Q 1 sio tt cc d 116 0 [some (.ref 110)] [] s (.inl (some (.int o)), s) := by
  unfold dm116 at h
  refine Q.run zm116 1 (i' := 1) (ls' := [some (.ref 110)]) (st' := [.ref 110]) rfl ?_
  refine Q.map (A.gf (gI_of zm116 (e := (1, 3, .getfield 18, [6, 2])) rfl) (hl.lt (a := 110) (by decide)) (hl.T (a := 110) (p := (6, 3)) 32 rfl rfl) (by decide) rfl) ?_
  cases h
  exact Q.ret (A.ri zm116 (show zM116.2.2.2.2.2[2]? = some (4, 1, .ireturn, []) from rfl) rfl rfl) hl
/-! 117 FormulaTrees$Brackets.add(III)V -/
set_option maxRecDepth 100000 in
theorem zm117 : zP[117]? = some zM117 := rfl
def dm117 (x1 : Int32) (x2 : Int32) (x3 : Int32) (s : aS) : Option (aS) :=
  if 32 ≤ (sI s 113 3) then
    some s
  else
    if aB (sI s 113 3) 32 then
      nx (wI s 114 (jN (sI s 113 3)) x1) fun s3 =>
      if aB (sI s3 113 3) 32 then
        nx (wI s3 115 (jN (sI s3 113 3)) x2) fun s7 =>
        if aB (sI s7 113 3) 32 then
          nx (wI s7 116 (jN (sI s7 113 3)) x3) fun s11 =>
          nx (wI s11 113 3 ((sI s11 113 3) + 1)) fun s14 =>
          some s14
        else none
      else none
    else none
set_option maxRecDepth 100000 in
theorem dt117 {sio : Bool} {tt : Nat} {cc : Nat → Nat → Int32} {d : Nat} (hd : 0 ≤ d) {x1 : Int32} {x2 : Int32} {x3 : Int32} {s : aS} (hl : Ly tt cc s) {o : aS} (h : dm117  x1 x2 x3 s = some o) : Q 1 sio tt cc d 117 0 [some (.ref 113), some (.int x1), some (.int x2), some (.int x3)] [] s (.inl none, o) := by
  unfold dm117 at h
  refine Q.run zm117 1 (i' := 1) (ls' := [some (.ref 113), some (.int x1), some (.int x2), some (.int x3)]) (st' := [.ref 113]) rfl ?_
  refine Q.map (A.gf (gI_of zm117 (e := (1, 3, .getfield 21, [7, 3])) rfl) (hl.lt (a := 113) (by decide)) (hl.T (a := 113) (p := (7, 4)) 35 rfl rfl) (by decide) rfl) ?_
  refine Q.run zm117 1 (i' := 3) (ls' := [some (.ref 113), some (.int x1), some (.int x2), some (.int x3)]) (st' := [.int 32, .int (sI s 113 3)]) rfl ?_
  by_cases hc1 : 32 ≤ (sI s 113 3)
  · rw [if_pos hc1] at h
    refine Q.map (A.bT (gI_of zm117 (e := (6, 3, .if_icmp .ge 43, [28])) rfl) (decide_eq_true hc1)) ?_
    cases h
    exact Q.ret (A.rv zm117 (show zM117.2.2.2.2.2[28]? = some (49, 1, .return_, []) from rfl) rfl) hl
  · rw [if_neg hc1] at h
    refine Q.map (A.bF (gI_of zm117 (e := (6, 3, .if_icmp .ge 43, [28])) rfl) (fun q => hc1 (of_decide_eq_true q))) ?_
    refine Q.run zm117 1 (i' := 5) (ls' := [some (.ref 113), some (.int x1), some (.int x2), some (.int x3)]) (st' := [.ref 113]) rfl ?_
    refine Q.map (A.gf (gI_of zm117 (e := (10, 3, .getfield 9, [7, 0])) rfl) (hl.lt (a := 113) (by decide)) (hl.T (a := 113) (p := (7, 4)) 35 rfl rfl) (by decide) (hl.R 16 rfl)) ?_
    refine Q.run zm117 1 (i' := 7) (ls' := [some (.ref 113), some (.int x1), some (.int x2), some (.int x3)]) (st' := [.ref 113, .ref 114]) rfl ?_
    refine Q.map (A.gf (gI_of zm117 (e := (14, 3, .getfield 21, [7, 3])) rfl) (hl.lt (a := 113) (by decide)) (hl.T (a := 113) (p := (7, 4)) 35 rfl rfl) (by decide) rfl) ?_
    refine Q.run zm117 1 (i' := 9) (ls' := [some (.ref 113), some (.int x1), some (.int x2), some (.int x3)]) (st' := [.int x1, .int (sI s 113 3), .ref 114]) rfl ?_
    obtain ⟨hc2, h⟩ := ite_so h
    obtain ⟨s3, hs4, h⟩ := nx_so h
    refine Q.is hs4 rfl (gI_of zm117 (e := (18, 1, .iastore, [])) rfl) (hl.lt (a := 114) (by decide)) (by decide) (hl.T (a := 114) (p := (100, 32)) 36 rfl rfl) hc2 ?_
    have hl5 : Ly tt cc s3 := by rw [hs4]; exact hl.wId (by decide)
    refine Q.run zm117 1 (i' := 11) (ls' := [some (.ref 113), some (.int x1), some (.int x2), some (.int x3)]) (st' := [.ref 113]) rfl ?_
    refine Q.map (A.gf (gI_of zm117 (e := (20, 3, .getfield 15, [7, 1])) rfl) (hl5.lt (a := 113) (by decide)) (hl5.T (a := 113) (p := (7, 4)) 35 rfl rfl) (by decide) (hl5.R 17 rfl)) ?_
    refine Q.run zm117 1 (i' := 13) (ls' := [some (.ref 113), some (.int x1), some (.int x2), some (.int x3)]) (st' := [.ref 113, .ref 115]) rfl ?_
    refine Q.map (A.gf (gI_of zm117 (e := (24, 3, .getfield 21, [7, 3])) rfl) (hl5.lt (a := 113) (by decide)) (hl5.T (a := 113) (p := (7, 4)) 35 rfl rfl) (by decide) rfl) ?_
    refine Q.run zm117 1 (i' := 15) (ls' := [some (.ref 113), some (.int x1), some (.int x2), some (.int x3)]) (st' := [.int x2, .int (sI s3 113 3), .ref 115]) rfl ?_
    obtain ⟨hc6, h⟩ := ite_so h
    obtain ⟨s7, hs8, h⟩ := nx_so h
    refine Q.is hs8 rfl (gI_of zm117 (e := (28, 1, .iastore, [])) rfl) (hl5.lt (a := 115) (by decide)) (by decide) (hl5.T (a := 115) (p := (100, 32)) 37 rfl rfl) hc6 ?_
    have hl9 : Ly tt cc s7 := by rw [hs8]; exact hl5.wId (by decide)
    refine Q.run zm117 1 (i' := 17) (ls' := [some (.ref 113), some (.int x1), some (.int x2), some (.int x3)]) (st' := [.ref 113]) rfl ?_
    refine Q.map (A.gf (gI_of zm117 (e := (30, 3, .getfield 18, [7, 2])) rfl) (hl9.lt (a := 113) (by decide)) (hl9.T (a := 113) (p := (7, 4)) 35 rfl rfl) (by decide) (hl9.R 18 rfl)) ?_
    refine Q.run zm117 1 (i' := 19) (ls' := [some (.ref 113), some (.int x1), some (.int x2), some (.int x3)]) (st' := [.ref 113, .ref 116]) rfl ?_
    refine Q.map (A.gf (gI_of zm117 (e := (34, 3, .getfield 21, [7, 3])) rfl) (hl9.lt (a := 113) (by decide)) (hl9.T (a := 113) (p := (7, 4)) 35 rfl rfl) (by decide) rfl) ?_
    refine Q.run zm117 1 (i' := 21) (ls' := [some (.ref 113), some (.int x1), some (.int x2), some (.int x3)]) (st' := [.int x3, .int (sI s7 113 3), .ref 116]) rfl ?_
    obtain ⟨hc10, h⟩ := ite_so h
    obtain ⟨s11, hs12, h⟩ := nx_so h
    refine Q.is hs12 rfl (gI_of zm117 (e := (38, 1, .iastore, [])) rfl) (hl9.lt (a := 116) (by decide)) (by decide) (hl9.T (a := 116) (p := (100, 32)) 38 rfl rfl) hc10 ?_
    have hl13 : Ly tt cc s11 := by rw [hs12]; exact hl9.wId (by decide)
    refine Q.run zm117 2 (i' := 24) (ls' := [some (.ref 113), some (.int x1), some (.int x2), some (.int x3)]) (st' := [.ref 113, .ref 113]) rfl ?_
    refine Q.map (A.gf (gI_of zm117 (e := (41, 3, .getfield 21, [7, 3])) rfl) (hl13.lt (a := 113) (by decide)) (hl13.T (a := 113) (p := (7, 4)) 35 rfl rfl) (by decide) rfl) ?_
    refine Q.run zm117 2 (i' := 27) (ls' := [some (.ref 113), some (.int x1), some (.int x2), some (.int x3)]) (st' := [.int ((sI s11 113 3) + 1), .ref 113]) rfl ?_
    obtain ⟨s14, hs15, h⟩ := nx_so h
    refine Q.pf hs15 rfl (gI_of zm117 (e := (46, 3, .putfield 21, [7, 3, 0])) rfl) (hl13.lt (a := 113) (by decide)) (by decide) (hl13.T (a := 113) (p := (7, 4)) 35 rfl rfl) (by decide) rfl rfl ?_
    have hl16 : Ly tt cc s14 := by rw [hs15]; exact hl13.wId (by decide)
    cases h
    exact Q.ret (A.rv zm117 (show zM117.2.2.2.2.2[28]? = some (49, 1, .return_, []) from rfl) rfl) hl16
/-! 115 FormulaTrees$Reader.openBrackets(II)V -/
set_option maxRecDepth 100000 in
theorem zm115 : zP[115]? = some zM115 := rfl
def dm115_25 (y1 : Int32) (s : aS) : Option (aS) :=
  nx (wI s 106 9 y1) fun s1 =>
  nx (wI s1 106 7 ((sI s1 106 7) + 1)) fun s4 =>
  some s4
set_option maxRecDepth 100000 in
theorem dt115_25 {sio : Bool} {tt : Nat} {cc : Nat → Nat → Int32} {d : Nat} (hd : 1 ≤ d) {y1 : Int32} {x1 : Int32} {x2 : Int32} {s : aS} (hl : Ly tt cc s) {o : aS} (h : dm115_25  y1 s = some o) : Q 1 sio tt cc d 115 25 [some (.ref 106), some (.int x1), some (.int x2)] [.int y1, .ref 106] s (.inl none, o) := by
  unfold dm115_25 at h
  obtain ⟨d, rfl⟩ : ∃ e, d = e + 1 := ⟨d - 1, by omega⟩
  obtain ⟨s1, hs2, h⟩ := nx_so h
  refine Q.pf hs2 rfl (gI_of zm115 (e := (48, 3, .putfield 68, [4, 9, 0])) rfl) (hl.lt (a := 106) (by decide)) (by decide) (hl.T (a := 106) (p := (4, 13)) 28 rfl rfl) (by decide) rfl rfl ?_
  have hl3 : Ly tt cc s1 := by rw [hs2]; exact hl.wId (by decide)
  refine Q.run zm115 2 (i' := 28) (ls' := [some (.ref 106), some (.int x1), some (.int x2)]) (st' := [.ref 106, .ref 106]) rfl ?_
  refine Q.map (A.gf (gI_of zm115 (e := (53, 3, .getfield 61, [4, 7])) rfl) (hl3.lt (a := 106) (by decide)) (hl3.T (a := 106) (p := (4, 13)) 28 rfl rfl) (by decide) rfl) ?_
  refine Q.run zm115 2 (i' := 31) (ls' := [some (.ref 106), some (.int x1), some (.int x2)]) (st' := [.int ((sI s1 106 7) + 1), .ref 106]) rfl ?_
  obtain ⟨s4, hs5, h⟩ := nx_so h
  refine Q.pf hs5 rfl (gI_of zm115 (e := (58, 3, .putfield 61, [4, 7, 0])) rfl) (hl3.lt (a := 106) (by decide)) (by decide) (hl3.T (a := 106) (p := (4, 13)) 28 rfl rfl) (by decide) rfl rfl ?_
  have hl6 : Ly tt cc s4 := by rw [hs5]; exact hl3.wId (by decide)
  cases h
  exact Q.ret (A.rv zm115 (show zM115.2.2.2.2.2[32]? = some (61, 1, .return_, []) from rfl) rfl) hl6
def dm115 (x1 : Int32) (x2 : Int32) (s : aS) : Option (aS) :=
  bu (dm82 s) fun r3 =>
  if r3 < 32 then
    bu (dm116 s) fun r7 =>
    bu (dm117 x1 x2 r7 s) fun s10 =>
    if x2 = (-1) then
      dm115_25 1 s10
    else
      dm115_25 0 s10
  else
    nx (wI s 106 8 (sI s 106 7)) fun s12 =>
    some s12
set_option maxRecDepth 100000 in
theorem dt115 {sio : Bool} {tt : Nat} {cc : Nat → Nat → Int32} {d : Nat} (hd : 1 ≤ d) {x1 : Int32} {x2 : Int32} {s : aS} (hl : Ly tt cc s) {o : aS} (h : dm115  x1 x2 s = some o) : Q 1 sio tt cc d 115 0 [some (.ref 106), some (.int x1), some (.int x2)] [] s (.inl none, o) := by
  unfold dm115 at h
  obtain ⟨d, rfl⟩ : ∃ e, d = e + 1 := ⟨d - 1, by omega⟩
  refine Q.run zm115 1 (i' := 1) (ls' := [some (.ref 106), some (.int x1), some (.int x2)]) (st' := [.ref 106]) rfl ?_
  refine Q.map (A.gf (gI_of zm115 (e := (1, 3, .getfield 37, [4, 5])) rfl) (hl.lt (a := 106) (by decide)) (hl.T (a := 106) (p := (4, 13)) 28 rfl rfl) (by decide) (hl.R 13 rfl)) ?_
  obtain ⟨r3, hc2, h⟩ := bu_so h
  have hq1 : Q 1 sio tt cc d 82 0 [some (.ref 113)] [] s (.inl (some (.int r3)), s) := dt82 (by omega) hl  hc2
  refine Q.callI (gC_vi zm115 (show zM115.2.2.2.2.2[2]? = some (4, 3, .invokevirtual 93, [0, 82, 0, 7]) from rfl) zm82 (hl.lt (a := 113) (by decide)) (hl.T (a := 113) (p := (7, 4)) 35 rfl rfl) rfl (show aCr 0 113 [.ref 113] 1 = some ([some (.ref 113)], []) from rfl)) hq1 ?_
  refine Q.run zm115 1 (i' := 4) (ls' := [some (.ref 106), some (.int x1), some (.int x2)]) (st' := [.int 32, .int r3]) rfl ?_
  by_cases hc4 : r3 < 32
  · rw [if_pos hc4] at h
    refine Q.map (A.bT (gI_of zm115 (e := (9, 3, .if_icmp .lt 12, [10])) rfl) (decide_eq_true hc4)) ?_
    refine Q.run zm115 1 (i' := 11) (ls' := [some (.ref 106), some (.int x1), some (.int x2)]) (st' := [.ref 106]) rfl ?_
    refine Q.map (A.gf (gI_of zm115 (e := (22, 3, .getfield 37, [4, 5])) rfl) (hl.lt (a := 106) (by decide)) (hl.T (a := 106) (p := (4, 13)) 28 rfl rfl) (by decide) (hl.R 13 rfl)) ?_
    refine Q.run zm115 3 (i' := 15) (ls' := [some (.ref 106), some (.int x1), some (.int x2)]) (st' := [.ref 106, .int x2, .int x1, .ref 113]) rfl ?_
    refine Q.map (A.gf (gI_of zm115 (e := (28, 3, .getfield 30, [4, 4])) rfl) (hl.lt (a := 106) (by decide)) (hl.T (a := 106) (p := (4, 13)) 28 rfl rfl) (by decide) (hl.R 12 rfl)) ?_
    obtain ⟨r7, hc6, h⟩ := bu_so h
    have hq5 : Q 1 sio tt cc d 116 0 [some (.ref 110)] [] s (.inl (some (.int r7)), s) := dt116 (by omega) hl  hc6
    refine Q.callI (gC_vi zm115 (show zM115.2.2.2.2.2[16]? = some (31, 3, .invokevirtual 154, [0, 116, 0, 6]) from rfl) zm116 (hl.lt (a := 110) (by decide)) (hl.T (a := 110) (p := (6, 3)) 32 rfl rfl) rfl (show aCr 0 110 [.ref 110, .int x2, .int x1, .ref 113] 1 = some ([some (.ref 110)], [.int x2, .int x1, .ref 113]) from rfl)) hq5 ?_
    obtain ⟨s10, hc9, h⟩ := bu_so h
    have hq8 : Q 1 sio tt cc d 117 0 [some (.ref 113), some (.int x1), some (.int x2), some (.int r7)] [] s (.inl none, s10) := dt117 (by omega) hl  hc9
    refine Q.callV (gC_vi zm115 (show zM115.2.2.2.2.2[17]? = some (34, 3, .invokevirtual 157, [0, 117, 3, 7]) from rfl) zm117 (hl.lt (a := 113) (by decide)) (hl.T (a := 113) (p := (7, 4)) 35 rfl rfl) rfl (show aCr 3 113 [.int r7, .int x2, .int x1, .ref 113] 4 = some ([some (.ref 113), some (.int x1), some (.int x2), some (.int r7)], []) from rfl)) hq8 ?_
    refine Q.run zm115 3 (i' := 21) (ls' := [some (.ref 106), some (.int x1), some (.int x2)]) (st' := [.int (-1), .int x2, .ref 106]) rfl ?_
    by_cases hc11 : x2 = (-1)
    · rw [if_pos hc11] at h
      refine Q.map (A.bF (gI_of zm115 (e := (40, 3, .if_icmp .ne 7, [24])) rfl) (fun q => of_decide_eq_true q hc11)) ?_
      refine Q.run zm115 2 (i' := 25) (ls' := [some (.ref 106), some (.int x1), some (.int x2)]) (st' := [.int 1, .ref 106]) rfl ?_
      exact dt115_25 hd hq8.1  h
    · rw [if_neg hc11] at h
      refine Q.map (A.bT (gI_of zm115 (e := (40, 3, .if_icmp .ne 7, [24])) rfl) (decide_eq_true hc11)) ?_
      refine Q.run zm115 1 (i' := 25) (ls' := [some (.ref 106), some (.int x1), some (.int x2)]) (st' := [.int 0, .ref 106]) rfl ?_
      exact dt115_25 hd hq8.1  h
  · rw [if_neg hc4] at h
    refine Q.map (A.bF (gI_of zm115 (e := (9, 3, .if_icmp .lt 12, [10])) rfl) (fun q => hc4 (of_decide_eq_true q))) ?_
    refine Q.run zm115 2 (i' := 7) (ls' := [some (.ref 106), some (.int x1), some (.int x2)]) (st' := [.ref 106, .ref 106]) rfl ?_
    refine Q.map (A.gf (gI_of zm115 (e := (14, 3, .getfield 61, [4, 7])) rfl) (hl.lt (a := 106) (by decide)) (hl.T (a := 106) (p := (4, 13)) 28 rfl rfl) (by decide) rfl) ?_
    obtain ⟨s12, hs13, h⟩ := nx_so h
    refine Q.pf hs13 rfl (gI_of zm115 (e := (17, 3, .putfield 65, [4, 8, 0])) rfl) (hl.lt (a := 106) (by decide)) (by decide) (hl.T (a := 106) (p := (4, 13)) 28 rfl rfl) (by decide) rfl rfl ?_
    have hl14 : Ly tt cc s12 := by rw [hs13]; exact hl.wId (by decide)
    cases h
    exact Q.ret (A.rv zm115 (show zM115.2.2.2.2.2[9]? = some (20, 1, .return_, []) from rfl) rfl) hl14
/-! 118 FormulaTrees$Reader.readMinusBefore()V -/
set_option maxRecDepth 100000 in
theorem zm118 : zP[118]? = some zM118 := rfl
def dm118 (s : aS) : Option (aS) :=
  bv (dm70 (sI s 106 7) s) fun r4 s3 =>
  if r4 = 0 then
    some s3
  else
    vN (sR s3 106 6) (
      none
    ) fun b7 =>
      if aK s3 b7 3 then
        bu (dm94 b7 s3) fun r11 =>
        bu (dm87 6 r11 s3) fun s14 =>
        vN (sR s14 106 6) (
          vN (sR s14 106 6) (
            none
          ) fun b20 =>
            if aK s14 b20 3 then
              bu (dm94 b20 s14) fun r24 =>
              none
            else none
        ) fun b17 =>
          if aK s14 b17 3 then
            vN (sR s14 106 6) (
              none
            ) fun b26 =>
              if aK s14 b26 3 then
                bu (dm94 b26 s14) fun r30 =>
                bu (dm72 b17 r30 10 1 s14) fun s33 =>
                nx (wI s33 106 9 1) fun s37 =>
                nx (wI s37 106 7 ((sI s37 106 7) + 1)) fun s43 =>
                some s43
              else none
          else none
      else none
set_option maxRecDepth 100000 in
theorem dt118 {sio : Bool} {tt : Nat} {cc : Nat → Nat → Int32} {d : Nat} (hd : 2 ≤ d) {s : aS} (hl : Ly tt cc s) {o : aS} (h : dm118  s = some o) : Q 1 sio tt cc d 118 0 [some (.ref 106)] [] s (.inl none, o) := by
  unfold dm118 at h
  obtain ⟨d, rfl⟩ : ∃ e, d = e + 1 := ⟨d - 1, by omega⟩
  refine Q.run zm118 2 (i' := 2) (ls' := [some (.ref 106)]) (st' := [.ref 106, .ref 106]) rfl ?_
  refine Q.map (A.gf (gI_of zm118 (e := (2, 3, .getfield 61, [4, 7])) rfl) (hl.lt (a := 106) (by decide)) (hl.T (a := 106) (p := (4, 13)) 28 rfl rfl) (by decide) rfl) ?_
  obtain ⟨r4, s3, hc2, h⟩ := bv_so h
  have hq1 : Q 1 sio tt cc d 70 0 [some (.ref 106), some (.int (sI s 106 7)), none] [] s (.inl (some (.int r4)), s3) := dt70 (by omega) hl  hc2
  refine Q.callI (gC_vi zm118 (show zM118.2.2.2.2.2[3]? = some (5, 3, .invokevirtual 144, [0, 70, 1, 4]) from rfl) zm70 (hl.lt (a := 106) (by decide)) (hl.T (a := 106) (p := (4, 13)) 28 rfl rfl) rfl (show aCr 1 106 [.int (sI s 106 7), .ref 106] 3 = some ([some (.ref 106), some (.int (sI s 106 7)), none], []) from rfl)) hq1 ?_
  by_cases hc5 : r4 = 0
  · rw [if_pos hc5] at h
    refine Q.map (A.zT (gI_of zm118 (e := (8, 3, .ifCond .eq 51, [29])) rfl) (decide_eq_true hc5)) ?_
    cases h
    exact Q.ret (A.rv zm118 (show zM118.2.2.2.2.2[29]? = some (59, 1, .return_, []) from rfl) rfl) hq1.1
  · rw [if_neg hc5] at h
    refine Q.map (A.zF (gI_of zm118 (e := (8, 3, .ifCond .eq 51, [29])) rfl) (fun q => hc5 (of_decide_eq_true q))) ?_
    refine Q.run zm118 1 (i' := 6) (ls' := [some (.ref 106)]) (st' := [.ref 106]) rfl ?_
    refine Q.map (A.gf (gI_of zm118 (e := (12, 3, .getfield 30, [4, 4])) rfl) (hq1.1.lt (a := 106) (by decide)) (hq1.1.T (a := 106) (p := (4, 13)) 28 rfl rfl) (by decide) (hq1.1.R 12 rfl)) ?_
    refine Q.run zm118 2 (i' := 9) (ls' := [some (.ref 106)]) (st' := [.ref 106, .int 6, .ref 110]) rfl ?_
    rcases vN_so h with ⟨hv6, h⟩ | ⟨b7, hv6, h⟩
    · refine Q.map (A.gf (gI_of zm118 (e := (18, 3, .getfield 48, [4, 6])) rfl) (hq1.1.lt (a := 106) (by decide)) (hq1.1.T (a := 106) (p := (4, 13)) 28 rfl rfl) (by decide) hv6) ?_
      cases h
    · obtain ⟨hr8, h⟩ := ite_so h
      refine Q.map (A.gf (gI_of zm118 (e := (18, 3, .getfield 48, [4, 6])) rfl) (hq1.1.lt (a := 106) (by decide)) (hq1.1.T (a := 106) (p := (4, 13)) 28 rfl rfl) (by decide) hv6) ?_
      obtain ⟨r11, hc10, h⟩ := bu_so h
      have hq9 : Q 1 sio tt cc d 94 0 [some (.ref b7)] [] s3 (.inl (some (.int r11)), s3) := dt94 (by omega) hq1.1 hr8 hc10
      refine Q.callI (gC_vi zm118 (show zM118.2.2.2.2.2[10]? = some (21, 3, .invokevirtual 116, [0, 94, 0, 3]) from rfl) zm94 hr8.1 (hq1.1.tr hr8).1 rfl (show aCr 0 b7 [.ref b7, .int 6, .ref 110] 1 = some ([some (.ref b7)], [.int 6, .ref 110]) from rfl)) hq9 ?_
      obtain ⟨s14, hc13, h⟩ := bu_so h
      have hq12 : Q 1 sio tt cc d 87 0 [some (.ref 110), some (.int 6), some (.int r11)] [] s3 (.inl none, s14) := dt87 (by omega) hq1.1  hc13
      refine Q.callV (gC_vi zm118 (show zM118.2.2.2.2.2[11]? = some (24, 3, .invokevirtual 147, [0, 87, 2, 6]) from rfl) zm87 (hq1.1.lt (a := 110) (by decide)) (hq1.1.T (a := 110) (p := (6, 3)) 32 rfl rfl) rfl (show aCr 2 110 [.int r11, .int 6, .ref 110] 3 = some ([some (.ref 110), some (.int 6), some (.int r11)], []) from rfl)) hq12 ?_
      have hr15 : aK s14 b7 3 := hq12.2.1.k hr8
      refine Q.run zm118 1 (i' := 13) (ls' := [some (.ref 106)]) (st' := [.ref 106]) rfl ?_
      rcases vN_so h with ⟨hv16, h⟩ | ⟨b17, hv16, h⟩
      · refine Q.map (A.gf (gI_of zm118 (e := (28, 3, .getfield 48, [4, 6])) rfl) (hq12.1.lt (a := 106) (by decide)) (hq12.1.T (a := 106) (p := (4, 13)) 28 rfl rfl) (by decide) hv16) ?_
        refine Q.run zm118 1 (i' := 15) (ls' := [some (.ref 106)]) (st' := [.ref 106, .null]) rfl ?_
        rcases vN_so h with ⟨hv19, h⟩ | ⟨b20, hv19, h⟩
        · refine Q.map (A.gf (gI_of zm118 (e := (32, 3, .getfield 48, [4, 6])) rfl) (hq12.1.lt (a := 106) (by decide)) (hq12.1.T (a := 106) (p := (4, 13)) 28 rfl rfl) (by decide) hv19) ?_
          cases h
        · obtain ⟨hr21, h⟩ := ite_so h
          refine Q.map (A.gf (gI_of zm118 (e := (32, 3, .getfield 48, [4, 6])) rfl) (hq12.1.lt (a := 106) (by decide)) (hq12.1.T (a := 106) (p := (4, 13)) 28 rfl rfl) (by decide) hv19) ?_
          obtain ⟨r24, hc23, h⟩ := bu_so h
          have hq22 : Q 1 sio tt cc d 94 0 [some (.ref b20)] [] s14 (.inl (some (.int r24)), s14) := dt94 (by omega) hq12.1 hr21 hc23
          refine Q.callI (gC_vi zm118 (show zM118.2.2.2.2.2[16]? = some (35, 3, .invokevirtual 116, [0, 94, 0, 3]) from rfl) zm94 hr21.1 (hq12.1.tr hr21).1 rfl (show aCr 0 b20 [.ref b20, .null] 1 = some ([some (.ref b20)], [.null]) from rfl)) hq22 ?_
          refine Q.run zm118 2 (i' := 19) (ls' := [some (.ref 106)]) (st' := [.int 1, .int 10, .int r24, .null]) rfl ?_
          cases h
      · obtain ⟨hr18, h⟩ := ite_so h
        refine Q.map (A.gf (gI_of zm118 (e := (28, 3, .getfield 48, [4, 6])) rfl) (hq12.1.lt (a := 106) (by decide)) (hq12.1.T (a := 106) (p := (4, 13)) 28 rfl rfl) (by decide) hv16) ?_
        refine Q.run zm118 1 (i' := 15) (ls' := [some (.ref 106)]) (st' := [.ref 106, .ref b17]) rfl ?_
        rcases vN_so h with ⟨hv25, h⟩ | ⟨b26, hv25, h⟩
        · refine Q.map (A.gf (gI_of zm118 (e := (32, 3, .getfield 48, [4, 6])) rfl) (hq12.1.lt (a := 106) (by decide)) (hq12.1.T (a := 106) (p := (4, 13)) 28 rfl rfl) (by decide) hv25) ?_
          cases h
        · obtain ⟨hr27, h⟩ := ite_so h
          refine Q.map (A.gf (gI_of zm118 (e := (32, 3, .getfield 48, [4, 6])) rfl) (hq12.1.lt (a := 106) (by decide)) (hq12.1.T (a := 106) (p := (4, 13)) 28 rfl rfl) (by decide) hv25) ?_
          obtain ⟨r30, hc29, h⟩ := bu_so h
          have hq28 : Q 1 sio tt cc d 94 0 [some (.ref b26)] [] s14 (.inl (some (.int r30)), s14) := dt94 (by omega) hq12.1 hr27 hc29
          refine Q.callI (gC_vi zm118 (show zM118.2.2.2.2.2[16]? = some (35, 3, .invokevirtual 116, [0, 94, 0, 3]) from rfl) zm94 hr27.1 (hq12.1.tr hr27).1 rfl (show aCr 0 b26 [.ref b26, .ref b17] 1 = some ([some (.ref b26)], [.ref b17]) from rfl)) hq28 ?_
          refine Q.run zm118 2 (i' := 19) (ls' := [some (.ref 106)]) (st' := [.int 1, .int 10, .int r30, .ref b17]) rfl ?_
          obtain ⟨s33, hc32, h⟩ := bu_so h
          have hq31 : Q 1 sio tt cc d 72 0 [some (.ref b17), some (.int r30), some (.int 10), some (.int 1), none] [] s14 (.inl none, s33) := dt72 (by omega) hq12.1 hr18 hc32
          refine Q.callV (gC_vi zm118 (show zM118.2.2.2.2.2[19]? = some (41, 3, .invokevirtual 150, [0, 72, 3, 3]) from rfl) zm72 hr18.1 (hq12.1.tr hr18).1 rfl (show aCr 3 b17 [.int 1, .int 10, .int r30, .ref b17] 5 = some ([some (.ref b17), some (.int r30), some (.int 10), some (.int 1), none], []) from rfl)) hq31 ?_
          have hr34 : aK s33 b7 3 := hq31.2.1.k hr15
          have hr35 : aK s33 b17 3 := hq31.2.1.k hr18
          have hr36 : aK s33 b26 3 := hq31.2.1.k hr27
          refine Q.run zm118 2 (i' := 22) (ls' := [some (.ref 106)]) (st' := [.int 1, .ref 106]) rfl ?_
          obtain ⟨s37, hs38, h⟩ := nx_so h
          refine Q.pf hs38 rfl (gI_of zm118 (e := (46, 3, .putfield 68, [4, 9, 0])) rfl) (hq31.1.lt (a := 106) (by decide)) (by decide) (hq31.1.T (a := 106) (p := (4, 13)) 28 rfl rfl) (by decide) rfl rfl ?_
          have hl39 : Ly tt cc s37 := by rw [hs38]; exact hq31.1.wId (by decide)
          have hr40 : aK s37 b7 3 := by rw [hs38]; exact hr34
          have hr41 : aK s37 b17 3 := by rw [hs38]; exact hr35
          have hr42 : aK s37 b26 3 := by rw [hs38]; exact hr36
          refine Q.run zm118 2 (i' := 25) (ls' := [some (.ref 106)]) (st' := [.ref 106, .ref 106]) rfl ?_
          refine Q.map (A.gf (gI_of zm118 (e := (51, 3, .getfield 61, [4, 7])) rfl) (hl39.lt (a := 106) (by decide)) (hl39.T (a := 106) (p := (4, 13)) 28 rfl rfl) (by decide) rfl) ?_
          refine Q.run zm118 2 (i' := 28) (ls' := [some (.ref 106)]) (st' := [.int ((sI s37 106 7) + 1), .ref 106]) rfl ?_
          obtain ⟨s43, hs44, h⟩ := nx_so h
          refine Q.pf hs44 rfl (gI_of zm118 (e := (56, 3, .putfield 61, [4, 7, 0])) rfl) (hl39.lt (a := 106) (by decide)) (by decide) (hl39.T (a := 106) (p := (4, 13)) 28 rfl rfl) (by decide) rfl rfl ?_
          have hl45 : Ly tt cc s43 := by rw [hs44]; exact hl39.wId (by decide)
          have hr46 : aK s43 b7 3 := by rw [hs44]; exact hr40
          have hr47 : aK s43 b17 3 := by rw [hs44]; exact hr41
          have hr48 : aK s43 b26 3 := by rw [hs44]; exact hr42
          cases h
          exact Q.ret (A.rv zm118 (show zM118.2.2.2.2.2[29]? = some (59, 1, .return_, []) from rfl) rfl) hl45
/-! 119 FormulaTrees$Reader.readNothing(Z)V -/
set_option maxRecDepth 100000 in
theorem zm119 : zP[119]? = some zM119 := rfl
def dm119_17 (x1 : Int32) (s : aS) : Option (aS) :=
  bv (dm70 (sI s 106 7) s) fun r4 s3 =>
  if r4 = 0 then
    some s3
  else
    vN (sR s3 106 6) (
      vN (sR s3 106 6) (
        none
      ) fun b10 =>
        if aK s3 b10 3 then
          bu (dm94 b10 s3) fun r14 =>
          none
        else none
    ) fun b7 =>
      if aK s3 b7 3 then
        vN (sR s3 106 6) (
          none
        ) fun b16 =>
          if aK s3 b16 3 then
            bu (dm94 b16 s3) fun r20 =>
            bu (dm72 b7 r20 8 0 s3) fun s23 =>
            bu (dm75 x1 s23) fun s28 =>
            some s28
          else none
      else none
set_option maxRecDepth 100000 in
theorem dt119_17 {sio : Bool} {tt : Nat} {cc : Nat → Nat → Int32} {d : Nat} (hd : 4 ≤ d) {x1 : Int32} {s : aS} (hl : Ly tt cc s) {o : aS} (h : dm119_17  x1 s = some o) : Q 1 sio tt cc d 119 17 [some (.ref 106), some (.int x1)] [] s (.inl none, o) := by
  unfold dm119_17 at h
  obtain ⟨d, rfl⟩ : ∃ e, d = e + 1 := ⟨d - 1, by omega⟩
  refine Q.run zm119 2 (i' := 19) (ls' := [some (.ref 106), some (.int x1)]) (st' := [.ref 106, .ref 106]) rfl ?_
  refine Q.map (A.gf (gI_of zm119 (e := (41, 3, .getfield 61, [4, 7])) rfl) (hl.lt (a := 106) (by decide)) (hl.T (a := 106) (p := (4, 13)) 28 rfl rfl) (by decide) rfl) ?_
  obtain ⟨r4, s3, hc2, h⟩ := bv_so h
  have hq1 : Q 1 sio tt cc d 70 0 [some (.ref 106), some (.int (sI s 106 7)), none] [] s (.inl (some (.int r4)), s3) := dt70 (by omega) hl  hc2
  refine Q.callI (gC_vi zm119 (show zM119.2.2.2.2.2[20]? = some (44, 3, .invokevirtual 144, [0, 70, 1, 4]) from rfl) zm70 (hl.lt (a := 106) (by decide)) (hl.T (a := 106) (p := (4, 13)) 28 rfl rfl) rfl (show aCr 1 106 [.int (sI s 106 7), .ref 106] 3 = some ([some (.ref 106), some (.int (sI s 106 7)), none], []) from rfl)) hq1 ?_
  by_cases hc5 : r4 = 0
  · rw [if_pos hc5] at h
    refine Q.map (A.zT (gI_of zm119 (e := (47, 3, .ifCond .eq 25, [33])) rfl) (decide_eq_true hc5)) ?_
    cases h
    exact Q.ret (A.rv zm119 (show zM119.2.2.2.2.2[33]? = some (72, 1, .return_, []) from rfl) rfl) hq1.1
  · rw [if_neg hc5] at h
    refine Q.map (A.zF (gI_of zm119 (e := (47, 3, .ifCond .eq 25, [33])) rfl) (fun q => hc5 (of_decide_eq_true q))) ?_
    refine Q.run zm119 1 (i' := 23) (ls' := [some (.ref 106), some (.int x1)]) (st' := [.ref 106]) rfl ?_
    rcases vN_so h with ⟨hv6, h⟩ | ⟨b7, hv6, h⟩
    · refine Q.map (A.gf (gI_of zm119 (e := (51, 3, .getfield 48, [4, 6])) rfl) (hq1.1.lt (a := 106) (by decide)) (hq1.1.T (a := 106) (p := (4, 13)) 28 rfl rfl) (by decide) hv6) ?_
      refine Q.run zm119 1 (i' := 25) (ls' := [some (.ref 106), some (.int x1)]) (st' := [.ref 106, .null]) rfl ?_
      rcases vN_so h with ⟨hv9, h⟩ | ⟨b10, hv9, h⟩
      · refine Q.map (A.gf (gI_of zm119 (e := (55, 3, .getfield 48, [4, 6])) rfl) (hq1.1.lt (a := 106) (by decide)) (hq1.1.T (a := 106) (p := (4, 13)) 28 rfl rfl) (by decide) hv9) ?_
        cases h
      · obtain ⟨hr11, h⟩ := ite_so h
        refine Q.map (A.gf (gI_of zm119 (e := (55, 3, .getfield 48, [4, 6])) rfl) (hq1.1.lt (a := 106) (by decide)) (hq1.1.T (a := 106) (p := (4, 13)) 28 rfl rfl) (by decide) hv9) ?_
        obtain ⟨r14, hc13, h⟩ := bu_so h
        have hq12 : Q 1 sio tt cc d 94 0 [some (.ref b10)] [] s3 (.inl (some (.int r14)), s3) := dt94 (by omega) hq1.1 hr11 hc13
        refine Q.callI (gC_vi zm119 (show zM119.2.2.2.2.2[26]? = some (58, 3, .invokevirtual 116, [0, 94, 0, 3]) from rfl) zm94 hr11.1 (hq1.1.tr hr11).1 rfl (show aCr 0 b10 [.ref b10, .null] 1 = some ([some (.ref b10)], [.null]) from rfl)) hq12 ?_
        refine Q.run zm119 2 (i' := 29) (ls' := [some (.ref 106), some (.int x1)]) (st' := [.int 0, .int 8, .int r14, .null]) rfl ?_
        cases h
    · obtain ⟨hr8, h⟩ := ite_so h
      refine Q.map (A.gf (gI_of zm119 (e := (51, 3, .getfield 48, [4, 6])) rfl) (hq1.1.lt (a := 106) (by decide)) (hq1.1.T (a := 106) (p := (4, 13)) 28 rfl rfl) (by decide) hv6) ?_
      refine Q.run zm119 1 (i' := 25) (ls' := [some (.ref 106), some (.int x1)]) (st' := [.ref 106, .ref b7]) rfl ?_
      rcases vN_so h with ⟨hv15, h⟩ | ⟨b16, hv15, h⟩
      · refine Q.map (A.gf (gI_of zm119 (e := (55, 3, .getfield 48, [4, 6])) rfl) (hq1.1.lt (a := 106) (by decide)) (hq1.1.T (a := 106) (p := (4, 13)) 28 rfl rfl) (by decide) hv15) ?_
        cases h
      · obtain ⟨hr17, h⟩ := ite_so h
        refine Q.map (A.gf (gI_of zm119 (e := (55, 3, .getfield 48, [4, 6])) rfl) (hq1.1.lt (a := 106) (by decide)) (hq1.1.T (a := 106) (p := (4, 13)) 28 rfl rfl) (by decide) hv15) ?_
        obtain ⟨r20, hc19, h⟩ := bu_so h
        have hq18 : Q 1 sio tt cc d 94 0 [some (.ref b16)] [] s3 (.inl (some (.int r20)), s3) := dt94 (by omega) hq1.1 hr17 hc19
        refine Q.callI (gC_vi zm119 (show zM119.2.2.2.2.2[26]? = some (58, 3, .invokevirtual 116, [0, 94, 0, 3]) from rfl) zm94 hr17.1 (hq1.1.tr hr17).1 rfl (show aCr 0 b16 [.ref b16, .ref b7] 1 = some ([some (.ref b16)], [.ref b7]) from rfl)) hq18 ?_
        refine Q.run zm119 2 (i' := 29) (ls' := [some (.ref 106), some (.int x1)]) (st' := [.int 0, .int 8, .int r20, .ref b7]) rfl ?_
        obtain ⟨s23, hc22, h⟩ := bu_so h
        have hq21 : Q 1 sio tt cc d 72 0 [some (.ref b7), some (.int r20), some (.int 8), some (.int 0), none] [] s3 (.inl none, s23) := dt72 (by omega) hq1.1 hr8 hc22
        refine Q.callV (gC_vi zm119 (show zM119.2.2.2.2.2[29]? = some (64, 3, .invokevirtual 150, [0, 72, 3, 3]) from rfl) zm72 hr8.1 (hq1.1.tr hr8).1 rfl (show aCr 3 b7 [.int 0, .int 8, .int r20, .ref b7] 5 = some ([some (.ref b7), some (.int r20), some (.int 8), some (.int 0), none], []) from rfl)) hq21 ?_
        have hr24 : aK s23 b7 3 := hq21.2.1.k hr8
        have hr25 : aK s23 b16 3 := hq21.2.1.k hr17
        refine Q.run zm119 2 (i' := 32) (ls' := [some (.ref 106), some (.int x1)]) (st' := [.int x1, .ref 106]) rfl ?_
        obtain ⟨s28, hc27, h⟩ := bu_so h
        have hq26 : Q 1 sio tt cc d 75 0 [some (.ref 106), some (.int x1)] [] s23 (.inl none, s28) := dt75 (by omega) hq21.1  hc27
        refine Q.callV (gC_vi zm119 (show zM119.2.2.2.2.2[32]? = some (69, 3, .invokevirtual 165, [0, 75, 1, 4]) from rfl) zm75 (hq21.1.lt (a := 106) (by decide)) (hq21.1.T (a := 106) (p := (4, 13)) 28 rfl rfl) rfl (show aCr 1 106 [.int x1, .ref 106] 2 = some ([some (.ref 106), some (.int x1)], []) from rfl)) hq26 ?_
        have hr29 : aK s28 b7 3 := hq26.2.1.k hr24
        have hr30 : aK s28 b16 3 := hq26.2.1.k hr25
        cases h
        exact Q.ret (A.rv zm119 (show zM119.2.2.2.2.2[33]? = some (72, 1, .return_, []) from rfl) rfl) hq26.1
def dm119 (x1 : Int32) (s : aS) : Option (aS) :=
  if (sI s 106 9) = 0 then
    if x1 = 0 then
      dm119_17 x1 s
    else
      bu (dm74 s) fun r5 =>
      if r5 = 0 then
        bu (dm77 s) fun s9 =>
        some s9
      else
        dm119_17 x1 s
  else
    nx (wI s 106 8 (sI s 106 7)) fun s10 =>
    some s10
set_option maxRecDepth 100000 in
theorem dt119 {sio : Bool} {tt : Nat} {cc : Nat → Nat → Int32} {d : Nat} (hd : 4 ≤ d) {x1 : Int32} {s : aS} (hl : Ly tt cc s) {o : aS} (h : dm119  x1 s = some o) : Q 1 sio tt cc d 119 0 [some (.ref 106), some (.int x1)] [] s (.inl none, o) := by
  unfold dm119 at h
  obtain ⟨d, rfl⟩ : ∃ e, d = e + 1 := ⟨d - 1, by omega⟩
  refine Q.run zm119 1 (i' := 1) (ls' := [some (.ref 106), some (.int x1)]) (st' := [.ref 106]) rfl ?_
  refine Q.map (A.gf (gI_of zm119 (e := (1, 3, .getfield 68, [4, 9])) rfl) (hl.lt (a := 106) (by decide)) (hl.T (a := 106) (p := (4, 13)) 28 rfl rfl) (by decide) rfl) ?_
  by_cases hc1 : (sI s 106 9) = 0
  · rw [if_pos hc1] at h
    refine Q.map (A.zT (gI_of zm119 (e := (4, 3, .ifCond .eq 14, [8])) rfl) (decide_eq_true hc1)) ?_
    refine Q.run zm119 1 (i' := 9) (ls' := [some (.ref 106), some (.int x1)]) (st' := [.int x1]) rfl ?_
    by_cases hc2 : x1 = 0
    · rw [if_pos hc2] at h
      refine Q.map (A.zT (gI_of zm119 (e := (19, 3, .ifCond .eq 20, [17])) rfl) (decide_eq_true hc2)) ?_
      exact dt119_17 hd hl  h
    · rw [if_neg hc2] at h
      refine Q.map (A.zF (gI_of zm119 (e := (19, 3, .ifCond .eq 20, [17])) rfl) (fun q => hc2 (of_decide_eq_true q))) ?_
      refine Q.run zm119 1 (i' := 11) (ls' := [some (.ref 106), some (.int x1)]) (st' := [.ref 106]) rfl ?_
      refine Q.map (A.gf (gI_of zm119 (e := (23, 3, .getfield 37, [4, 5])) rfl) (hl.lt (a := 106) (by decide)) (hl.T (a := 106) (p := (4, 13)) 28 rfl rfl) (by decide) (hl.R 13 rfl)) ?_
      obtain ⟨r5, hc4, h⟩ := bu_so h
      have hq3 : Q 1 sio tt cc d 74 0 [some (.ref 113)] [] s (.inl (some (.int r5)), s) := dt74 (by omega) hl  hc4
      refine Q.callI (gC_vi zm119 (show zM119.2.2.2.2.2[12]? = some (26, 3, .invokevirtual 159, [0, 74, 0, 7]) from rfl) zm74 (hl.lt (a := 113) (by decide)) (hl.T (a := 113) (p := (7, 4)) 35 rfl rfl) rfl (show aCr 0 113 [.ref 113] 1 = some ([some (.ref 113)], []) from rfl)) hq3 ?_
      by_cases hc6 : r5 = 0
      · rw [if_pos hc6] at h
        refine Q.map (A.zF (gI_of zm119 (e := (29, 3, .ifCond .ne 10, [17])) rfl) (fun q => of_decide_eq_true q hc6)) ?_
        refine Q.run zm119 1 (i' := 15) (ls' := [some (.ref 106), some (.int x1)]) (st' := [.ref 106]) rfl ?_
        obtain ⟨s9, hc8, h⟩ := bu_so h
        have hq7 : Q 1 sio tt cc d 77 0 [some (.ref 106), none] [] s (.inl none, s9) := dt77 (by omega) hl  hc8
        refine Q.callV (gC_vi zm119 (show zM119.2.2.2.2.2[15]? = some (33, 3, .invokevirtual 162, [0, 77, 0, 4]) from rfl) zm77 (hl.lt (a := 106) (by decide)) (hl.T (a := 106) (p := (4, 13)) 28 rfl rfl) rfl (show aCr 0 106 [.ref 106] 2 = some ([some (.ref 106), none], []) from rfl)) hq7 ?_
        refine Q.run zm119 1 (i' := 33) (ls' := [some (.ref 106), some (.int x1)]) (st' := []) rfl ?_
        cases h
        exact Q.ret (A.rv zm119 (show zM119.2.2.2.2.2[33]? = some (72, 1, .return_, []) from rfl) rfl) hq7.1
      · rw [if_neg hc6] at h
        refine Q.map (A.zT (gI_of zm119 (e := (29, 3, .ifCond .ne 10, [17])) rfl) (decide_eq_true hc6)) ?_
        exact dt119_17 hd hl  h
  · rw [if_neg hc1] at h
    refine Q.map (A.zF (gI_of zm119 (e := (4, 3, .ifCond .eq 14, [8])) rfl) (fun q => hc1 (of_decide_eq_true q))) ?_
    refine Q.run zm119 2 (i' := 5) (ls' := [some (.ref 106), some (.int x1)]) (st' := [.ref 106, .ref 106]) rfl ?_
    refine Q.map (A.gf (gI_of zm119 (e := (9, 3, .getfield 61, [4, 7])) rfl) (hl.lt (a := 106) (by decide)) (hl.T (a := 106) (p := (4, 13)) 28 rfl rfl) (by decide) rfl) ?_
    obtain ⟨s10, hs11, h⟩ := nx_so h
    refine Q.pf hs11 rfl (gI_of zm119 (e := (12, 3, .putfield 65, [4, 8, 0])) rfl) (hl.lt (a := 106) (by decide)) (by decide) (hl.T (a := 106) (p := (4, 13)) 28 rfl rfl) (by decide) rfl rfl ?_
    have hl12 : Ly tt cc s10 := by rw [hs11]; exact hl.wId (by decide)
    refine Q.run zm119 1 (i' := 33) (ls' := [some (.ref 106), some (.int x1)]) (st' := []) rfl ?_
    cases h
    exact Q.ret (A.rv zm119 (show zM119.2.2.2.2.2[33]? = some (72, 1, .return_, []) from rfl) rfl) hl12
/-! 121 FormulaTrees$Reader.skipDigits(I)I -/
set_option maxRecDepth 100000 in
theorem zm121 : zP[121]? = some zM121 := rfl
def dm121_2 : Nat → Int32 → Int32 → aS → Option (Int32 × aS)
  | 0, _, _, _ => none
  | n + 1, x1, x2, s =>
    if x1 ≤ x2 then
      some (x2, s)
    else
      bu (dm34 79 (sI s 106 7) s) fun r4 =>
      bu (dm47 r4) fun r7 =>
      if r7 = 0 then
        some (x2, s)
      else
        nx (wI s 106 7 ((sI s 106 7) + 1)) fun s9 =>
        dm121_2 n x1 (x2 + 1) s9
set_option maxRecDepth 100000 in
theorem dt121_2 {sio : Bool} {tt : Nat} {cc : Nat → Nat → Int32} {d : Nat} (hd : 1 ≤ d) : ∀ (n : Nat) {x1 : Int32} {x2 : Int32} {s : aS} (_ : Ly tt cc s) {o : Int32 × aS} (_ : dm121_2  n x1 x2 s = some o), Q 1 sio tt cc d 121 2 [some (.ref 106), some (.int x1), some (.int x2)] [] s (.inl (some (.int o.1)), o.2) := by
  obtain ⟨d, rfl⟩ : ∃ e, d = e + 1 := ⟨d - 1, by omega⟩
  intro n
  induction n with
  | zero => intro x1 x2 s hl o h; rw [dm121_2] at h; cases h
  | succ n ih =>
    intro x1 x2 s hl o h
    rw [dm121_2] at h
    refine Q.run zm121 2 (i' := 4) (ls' := [some (.ref 106), some (.int x1), some (.int x2)]) (st' := [.int x1, .int x2]) rfl ?_
    by_cases hc1 : x1 ≤ x2
    · rw [if_pos hc1] at h
      refine Q.map (A.bT (gI_of zm121 (e := (4, 3, .if_icmp .ge 36, [20])) rfl) (decide_eq_true hc1)) ?_
      refine Q.run zm121 1 (i' := 21) (ls' := [some (.ref 106), some (.int x1), some (.int x2)]) (st' := [.int x2]) rfl ?_
      cases h
      exact Q.ret (A.ri zm121 (show zM121.2.2.2.2.2[21]? = some (41, 1, .ireturn, []) from rfl) rfl rfl) hl
    · rw [if_neg hc1] at h
      refine Q.map (A.bF (gI_of zm121 (e := (4, 3, .if_icmp .ge 36, [20])) rfl) (fun q => hc1 (of_decide_eq_true q))) ?_
      refine Q.run zm121 1 (i' := 6) (ls' := [some (.ref 106), some (.int x1), some (.int x2)]) (st' := [.ref 106]) rfl ?_
      refine Q.map (A.gf (gI_of zm121 (e := (8, 3, .getfield 41, [4, 0])) rfl) (hl.lt (a := 106) (by decide)) (hl.T (a := 106) (p := (4, 13)) 28 rfl rfl) (by decide) (hl.R 8 rfl)) ?_
      refine Q.run zm121 1 (i' := 8) (ls' := [some (.ref 106), some (.int x1), some (.int x2)]) (st' := [.ref 106, .ref 79]) rfl ?_
      refine Q.map (A.gf (gI_of zm121 (e := (12, 3, .getfield 61, [4, 7])) rfl) (hl.lt (a := 106) (by decide)) (hl.T (a := 106) (p := (4, 13)) 28 rfl rfl) (by decide) rfl) ?_
      obtain ⟨r4, hc3, h⟩ := bu_so h
      have hq2 : Q 1 sio tt cc d 34 0 [some (.ref 79), some (.int (sI s 106 7))] [] s (.inl (some (.int r4)), s) := dt34 (by omega) hl (hl.Kd (a := 79) (c := 1) (n := 2) 1 rfl rfl (by decide)) hc3
      refine Q.callI (gC_vi zm121 (show zM121.2.2.2.2.2[9]? = some (15, 3, .invokevirtual 78, [0, 34, 1, 1]) from rfl) zm34 (hl.lt (a := 79) (by decide)) (hl.T (a := 79) (p := (1, 2)) 1 rfl rfl) rfl (show aCr 1 79 [.int (sI s 106 7), .ref 79] 2 = some ([some (.ref 79), some (.int (sI s 106 7))], []) from rfl)) hq2 ?_
      obtain ⟨r7, hc6, h⟩ := bu_so h
      have hq5 : Q 1 sio tt cc d 47 0 [some (.int r4)] [] s (.inl (some (.int r7)), s) := dt47 (by omega) hl  hc6
      refine Q.callI (gC_st zm121 (show zM121.2.2.2.2.2[10]? = some (18, 3, .invokestatic 129, [0, 47, 1]) from rfl) zm47 (show aC 1 [.int r4] 1 = some ([some (.int r4)], []) from rfl)) hq5 ?_
      by_cases hc8 : r7 = 0
      · rw [if_pos hc8] at h
        refine Q.map (A.zT (gI_of zm121 (e := (21, 3, .ifCond .eq 19, [20])) rfl) (decide_eq_true hc8)) ?_
        refine Q.run zm121 1 (i' := 21) (ls' := [some (.ref 106), some (.int x1), some (.int x2)]) (st' := [.int x2]) rfl ?_
        cases h
        exact Q.ret (A.ri zm121 (show zM121.2.2.2.2.2[21]? = some (41, 1, .ireturn, []) from rfl) rfl rfl) hl
      · rw [if_neg hc8] at h
        refine Q.map (A.zF (gI_of zm121 (e := (21, 3, .ifCond .eq 19, [20])) rfl) (fun q => hc8 (of_decide_eq_true q))) ?_
        refine Q.run zm121 3 (i' := 15) (ls' := [some (.ref 106), some (.int x1), some (.int (x2 + 1))]) (st' := [.ref 106, .ref 106]) rfl ?_
        refine Q.map (A.gf (gI_of zm121 (e := (29, 3, .getfield 61, [4, 7])) rfl) (hl.lt (a := 106) (by decide)) (hl.T (a := 106) (p := (4, 13)) 28 rfl rfl) (by decide) rfl) ?_
        refine Q.run zm121 2 (i' := 18) (ls' := [some (.ref 106), some (.int x1), some (.int (x2 + 1))]) (st' := [.int ((sI s 106 7) + 1), .ref 106]) rfl ?_
        obtain ⟨s9, hs10, h⟩ := nx_so h
        refine Q.pf hs10 rfl (gI_of zm121 (e := (34, 3, .putfield 61, [4, 7, 0])) rfl) (hl.lt (a := 106) (by decide)) (by decide) (hl.T (a := 106) (p := (4, 13)) 28 rfl rfl) (by decide) rfl rfl ?_
        have hl11 : Ly tt cc s9 := by rw [hs10]; exact hl.wId (by decide)
        refine Q.run zm121 1 (i' := 2) (ls' := [some (.ref 106), some (.int x1), some (.int (x2 + 1))]) (st' := []) rfl ?_
        exact ih hl11  h
def dm121 (x1 : Int32) (s : aS) : Option (Int32 × aS) :=
  dm121_2 5000 x1 0 s
set_option maxRecDepth 100000 in
theorem dt121 {sio : Bool} {tt : Nat} {cc : Nat → Nat → Int32} {d : Nat} (hd : 1 ≤ d) {x1 : Int32} {s : aS} (hl : Ly tt cc s) {o : Int32 × aS} (h : dm121  x1 s = some o) : Q 1 sio tt cc d 121 0 [some (.ref 106), some (.int x1), none] [] s (.inl (some (.int o.1)), o.2) := by
  unfold dm121 at h
  obtain ⟨d, rfl⟩ : ∃ e, d = e + 1 := ⟨d - 1, by omega⟩
  refine Q.run zm121 2 (i' := 2) (ls' := [some (.ref 106), some (.int x1), some (.int 0)]) (st' := []) rfl ?_
  exact dt121_2 hd _ hl  h
/-! 122 FormulaTrees$Reader.hold(II)V -/
set_option maxRecDepth 100000 in
theorem zm122 : zP[122]? = some zM122 := rfl
def dm122_5 : Nat → Int32 → Int32 → aS → Option (aS)
  | 0, _, _, _ => none
  | n + 1, x2, x3, s =>
    if x2 ≤ x3 then
      some s
    else
      bu (dm34 79 x3 s) fun r4 =>
      bu (dm35 r4) fun r7 =>
      bu (dm29 107 r7 s) fun s10 =>
      dm122_5 n x2 (x3 + 1) s10
set_option maxRecDepth 100000 in
theorem dt122_5 {sio : Bool} {tt : Nat} {cc : Nat → Nat → Int32} {d : Nat} (hd : 1 ≤ d) : ∀ (n : Nat) {x2 : Int32} {x3 : Int32} {x1 : Int32} {s : aS} (_ : Ly tt cc s) {o : aS} (_ : dm122_5  n x2 x3 s = some o), Q 1 sio tt cc d 122 5 [some (.ref 106), some (.int x1), some (.int x2), some (.int x3)] [] s (.inl none, o) := by
  obtain ⟨d, rfl⟩ : ∃ e, d = e + 1 := ⟨d - 1, by omega⟩
  intro n
  induction n with
  | zero => intro x2 x3 x1 s hl o h; rw [dm122_5] at h; cases h
  | succ n ih =>
    intro x2 x3 x1 s hl o h
    rw [dm122_5] at h
    refine Q.run zm122 2 (i' := 7) (ls' := [some (.ref 106), some (.int x1), some (.int x2), some (.int x3)]) (st' := [.int x2, .int x3]) rfl ?_
    by_cases hc1 : x2 ≤ x3
    · rw [if_pos hc1] at h
      refine Q.map (A.bT (gI_of zm122 (e := (11, 3, .if_icmp .ge 27, [18])) rfl) (decide_eq_true hc1)) ?_
      cases h
      exact Q.ret (A.rv zm122 (show zM122.2.2.2.2.2[18]? = some (38, 1, .return_, []) from rfl) rfl) hl
    · rw [if_neg hc1] at h
      refine Q.map (A.bF (gI_of zm122 (e := (11, 3, .if_icmp .ge 27, [18])) rfl) (fun q => hc1 (of_decide_eq_true q))) ?_
      refine Q.run zm122 1 (i' := 9) (ls' := [some (.ref 106), some (.int x1), some (.int x2), some (.int x3)]) (st' := [.ref 106]) rfl ?_
      refine Q.map (A.gf (gI_of zm122 (e := (15, 3, .getfield 14, [4, 2])) rfl) (hl.lt (a := 106) (by decide)) (hl.T (a := 106) (p := (4, 13)) 28 rfl rfl) (by decide) (hl.R 10 rfl)) ?_
      refine Q.run zm122 1 (i' := 11) (ls' := [some (.ref 106), some (.int x1), some (.int x2), some (.int x3)]) (st' := [.ref 106, .ref 107]) rfl ?_
      refine Q.map (A.gf (gI_of zm122 (e := (19, 3, .getfield 41, [4, 0])) rfl) (hl.lt (a := 106) (by decide)) (hl.T (a := 106) (p := (4, 13)) 28 rfl rfl) (by decide) (hl.R 8 rfl)) ?_
      refine Q.run zm122 1 (i' := 13) (ls' := [some (.ref 106), some (.int x1), some (.int x2), some (.int x3)]) (st' := [.int x3, .ref 79, .ref 107]) rfl ?_
      obtain ⟨r4, hc3, h⟩ := bu_so h
      have hq2 : Q 1 sio tt cc d 34 0 [some (.ref 79), some (.int x3)] [] s (.inl (some (.int r4)), s) := dt34 (by omega) hl (hl.Kd (a := 79) (c := 1) (n := 2) 1 rfl rfl (by decide)) hc3
      refine Q.callI (gC_vi zm122 (show zM122.2.2.2.2.2[13]? = some (23, 3, .invokevirtual 78, [0, 34, 1, 1]) from rfl) zm34 (hl.lt (a := 79) (by decide)) (hl.T (a := 79) (p := (1, 2)) 1 rfl rfl) rfl (show aCr 1 79 [.int x3, .ref 79, .ref 107] 2 = some ([some (.ref 79), some (.int x3)], [.ref 107]) from rfl)) hq2 ?_
      obtain ⟨r7, hc6, h⟩ := bu_so h
      have hq5 : Q 1 sio tt cc d 35 0 [some (.int r4)] [] s (.inl (some (.int r7)), s) := dt35 (by omega) hl  hc6
      refine Q.callI (gC_st zm122 (show zM122.2.2.2.2.2[14]? = some (26, 3, .invokestatic 209, [0, 35, 1]) from rfl) zm35 (show aC 1 [.int r4, .ref 107] 1 = some ([some (.int r4)], [.ref 107]) from rfl)) hq5 ?_
      obtain ⟨s10, hc9, h⟩ := bu_so h
      have hq8 : Q 1 sio tt cc d 29 0 [some (.ref 107), some (.int r7)] [] s (.inl none, s10) := dt29 (by omega) hl (hl.Kd (a := 107) (c := 1) (n := 2) 29 rfl rfl (by decide)) hc9
      refine Q.callV (gC_vi zm122 (show zM122.2.2.2.2.2[15]? = some (29, 3, .invokevirtual 219, [0, 29, 1, 1]) from rfl) zm29 (hl.lt (a := 107) (by decide)) (hl.T (a := 107) (p := (1, 2)) 29 rfl rfl) rfl (show aCr 1 107 [.int r7, .ref 107] 2 = some ([some (.ref 107), some (.int r7)], []) from rfl)) hq8 ?_
      refine Q.run zm122 2 (i' := 5) (ls' := [some (.ref 106), some (.int x1), some (.int x2), some (.int (x3 + 1))]) (st' := []) rfl ?_
      exact ih hq8.1  h
def dm122 (x1 : Int32) (x2 : Int32) (s : aS) : Option (aS) :=
  bu (dm26 107 s) fun s3 =>
  dm122_5 5000 x2 x1 s3
set_option maxRecDepth 100000 in
theorem dt122 {sio : Bool} {tt : Nat} {cc : Nat → Nat → Int32} {d : Nat} (hd : 1 ≤ d) {x1 : Int32} {x2 : Int32} {s : aS} (hl : Ly tt cc s) {o : aS} (h : dm122  x1 x2 s = some o) : Q 1 sio tt cc d 122 0 [some (.ref 106), some (.int x1), some (.int x2), none] [] s (.inl none, o) := by
  unfold dm122 at h
  obtain ⟨d, rfl⟩ : ∃ e, d = e + 1 := ⟨d - 1, by omega⟩
  refine Q.run zm122 1 (i' := 1) (ls' := [some (.ref 106), some (.int x1), some (.int x2), none]) (st' := [.ref 106]) rfl ?_
  refine Q.map (A.gf (gI_of zm122 (e := (1, 3, .getfield 14, [4, 2])) rfl) (hl.lt (a := 106) (by decide)) (hl.T (a := 106) (p := (4, 13)) 28 rfl rfl) (by decide) (hl.R 10 rfl)) ?_
  obtain ⟨s3, hc2, h⟩ := bu_so h
  have hq1 : Q 1 sio tt cc d 26 0 [some (.ref 107)] [] s (.inl none, s3) := dt26 (by omega) hl (hl.Kd (a := 107) (c := 1) (n := 2) 29 rfl rfl (by decide)) hc2
  refine Q.callV (gC_vi zm122 (show zM122.2.2.2.2.2[2]? = some (4, 3, .invokevirtual 218, [0, 26, 0, 1]) from rfl) zm26 (hl.lt (a := 107) (by decide)) (hl.T (a := 107) (p := (1, 2)) 29 rfl rfl) rfl (show aCr 0 107 [.ref 107] 1 = some ([some (.ref 107)], []) from rfl)) hq1 ?_
  refine Q.run zm122 2 (i' := 5) (ls' := [some (.ref 106), some (.int x1), some (.int x2), some (.int x1)]) (st' := []) rfl ?_
  exact dt122_5 hd _ hq1.1  h
/-! 120 FormulaTrees$Reader.readNumber()V -/
set_option maxRecDepth 100000 in
theorem zm120 : zP[120]? = some zM120 := rfl
def dm120_78 (x1 : Int32) (x3 : Int32) (s : aS) : Option (aS) :=
  if x3 = 0 then
    nx (wI s 106 8 (sI s 106 7)) fun s2 =>
    some s2
  else
    bu (dm122 x1 (sI s 106 7) s) fun s7 =>
    bu (dm106 0 x1 s7) fun s10 =>
    some s10
set_option maxRecDepth 100000 in
theorem dt120_78 {sio : Bool} {tt : Nat} {cc : Nat → Nat → Int32} {d : Nat} (hd : 3 ≤ d) {x1 : Int32} {x3 : Int32} {x2 : Int32} {s : aS} (hl : Ly tt cc s) {o : aS} (h : dm120_78  x1 x3 s = some o) : Q 1 sio tt cc d 120 78 [some (.ref 106), some (.int x1), some (.int x2), some (.int x3)] [] s (.inl none, o) := by
  unfold dm120_78 at h
  obtain ⟨d, rfl⟩ : ∃ e, d = e + 1 := ⟨d - 1, by omega⟩
  refine Q.run zm120 1 (i' := 79) (ls' := [some (.ref 106), some (.int x1), some (.int x2), some (.int x3)]) (st' := [.int x3]) rfl ?_
  by_cases hc1 : x3 = 0
  · rw [if_pos hc1] at h
    refine Q.map (A.zT (gI_of zm120 (e := (153, 3, .ifCond .eq 21, [90])) rfl) (decide_eq_true hc1)) ?_
    refine Q.run zm120 2 (i' := 92) (ls' := [some (.ref 106), some (.int x1), some (.int x2), some (.int x3)]) (st' := [.ref 106, .ref 106]) rfl ?_
    refine Q.map (A.gf (gI_of zm120 (e := (176, 3, .getfield 61, [4, 7])) rfl) (hl.lt (a := 106) (by decide)) (hl.T (a := 106) (p := (4, 13)) 28 rfl rfl) (by decide) rfl) ?_
    obtain ⟨s2, hs3, h⟩ := nx_so h
    refine Q.pf hs3 rfl (gI_of zm120 (e := (179, 3, .putfield 65, [4, 8, 0])) rfl) (hl.lt (a := 106) (by decide)) (by decide) (hl.T (a := 106) (p := (4, 13)) 28 rfl rfl) (by decide) rfl rfl ?_
    have hl4 : Ly tt cc s2 := by rw [hs3]; exact hl.wId (by decide)
    cases h
    exact Q.ret (A.rv zm120 (show zM120.2.2.2.2.2[94]? = some (182, 1, .return_, []) from rfl) rfl) hl4
  · rw [if_neg hc1] at h
    refine Q.map (A.zF (gI_of zm120 (e := (153, 3, .ifCond .eq 21, [90])) rfl) (fun q => hc1 (of_decide_eq_true q))) ?_
    refine Q.run zm120 3 (i' := 83) (ls' := [some (.ref 106), some (.int x1), some (.int x2), some (.int x3)]) (st' := [.ref 106, .int x1, .ref 106]) rfl ?_
    refine Q.map (A.gf (gI_of zm120 (e := (159, 3, .getfield 61, [4, 7])) rfl) (hl.lt (a := 106) (by decide)) (hl.T (a := 106) (p := (4, 13)) 28 rfl rfl) (by decide) rfl) ?_
    obtain ⟨s7, hc6, h⟩ := bu_so h
    have hq5 : Q 1 sio tt cc d 122 0 [some (.ref 106), some (.int x1), some (.int (sI s 106 7)), none] [] s (.inl none, s7) := dt122 (by omega) hl  hc6
    refine Q.callV (gC_vi zm120 (show zM120.2.2.2.2.2[84]? = some (162, 3, .invokevirtual 212, [0, 122, 2, 4]) from rfl) zm122 (hl.lt (a := 106) (by decide)) (hl.T (a := 106) (p := (4, 13)) 28 rfl rfl) rfl (show aCr 2 106 [.int (sI s 106 7), .int x1, .ref 106] 4 = some ([some (.ref 106), some (.int x1), some (.int (sI s 106 7)), none], []) from rfl)) hq5 ?_
    refine Q.run zm120 3 (i' := 88) (ls' := [some (.ref 106), some (.int x1), some (.int x2), some (.int x3)]) (st' := [.int x1, .int 0, .ref 106]) rfl ?_
    obtain ⟨s10, hc9, h⟩ := bu_so h
    have hq8 : Q 1 sio tt cc d 106 0 [some (.ref 106), some (.int 0), some (.int x1), none] [] s7 (.inl none, s10) := dt106 (by omega) hq5.1  hc9
    refine Q.callV (gC_vi zm120 (show zM120.2.2.2.2.2[88]? = some (168, 3, .invokevirtual 215, [0, 106, 2, 4]) from rfl) zm106 (hq5.1.lt (a := 106) (by decide)) (hq5.1.T (a := 106) (p := (4, 13)) 28 rfl rfl) rfl (show aCr 2 106 [.int x1, .int 0, .ref 106] 4 = some ([some (.ref 106), some (.int 0), some (.int x1), none], []) from rfl)) hq8 ?_
    refine Q.run zm120 1 (i' := 94) (ls' := [some (.ref 106), some (.int x1), some (.int x2), some (.int x3)]) (st' := []) rfl ?_
    cases h
    exact Q.ret (A.rv zm120 (show zM120.2.2.2.2.2[94]? = some (182, 1, .return_, []) from rfl) rfl) hq8.1
def dm120_77 (x1 : Int32) (y0 : Int32) (s : aS) : Option (aS) :=
  dm120_78 x1 y0 s
set_option maxRecDepth 100000 in
theorem dt120_77 {sio : Bool} {tt : Nat} {cc : Nat → Nat → Int32} {d : Nat} (hd : 3 ≤ d) {x1 : Int32} {y0 : Int32} {x2 : Int32} {x3 : Int32} {s : aS} (hl : Ly tt cc s) {o : aS} (h : dm120_77  x1 y0 s = some o) : Q 1 sio tt cc d 120 77 [some (.ref 106), some (.int x1), some (.int x2), some (.int x3)] [.int y0] s (.inl none, o) := by
  unfold dm120_77 at h
  obtain ⟨d, rfl⟩ : ∃ e, d = e + 1 := ⟨d - 1, by omega⟩
  refine Q.run zm120 1 (i' := 78) (ls' := [some (.ref 106), some (.int x1), some (.int x2), some (.int y0)]) (st' := []) rfl ?_
  exact dt120_78 hd hl  h
def dm120_68 (x1 : Int32) (y1 : Int32) (y2 : Int32) (s : aS) : Option (aS) :=
  nx (wI s 106 7 (y1 + y2)) fun s1 =>
  bv (dm121 3 s1) fun r7 s6 =>
  if r7 ≤ 0 then
    dm120_77 x1 0 s6
  else
    dm120_77 x1 1 s6
set_option maxRecDepth 100000 in
theorem dt120_68 {sio : Bool} {tt : Nat} {cc : Nat → Nat → Int32} {d : Nat} (hd : 3 ≤ d) {x1 : Int32} {y1 : Int32} {y2 : Int32} {x2 : Int32} {x3 : Int32} {s : aS} (hl : Ly tt cc s) {o : aS} (h : dm120_68  x1 y1 y2 s = some o) : Q 1 sio tt cc d 120 68 [some (.ref 106), some (.int x1), some (.int x2), some (.int x3)] [.int y2, .int y1, .ref 106] s (.inl none, o) := by
  unfold dm120_68 at h
  obtain ⟨d, rfl⟩ : ∃ e, d = e + 1 := ⟨d - 1, by omega⟩
  refine Q.run zm120 1 (i' := 69) (ls' := [some (.ref 106), some (.int x1), some (.int x2), some (.int x3)]) (st' := [.int (y1 + y2), .ref 106]) rfl ?_
  obtain ⟨s1, hs2, h⟩ := nx_so h
  refine Q.pf hs2 rfl (gI_of zm120 (e := (135, 3, .putfield 61, [4, 7, 0])) rfl) (hl.lt (a := 106) (by decide)) (by decide) (hl.T (a := 106) (p := (4, 13)) 28 rfl rfl) (by decide) rfl rfl ?_
  have hl3 : Ly tt cc s1 := by rw [hs2]; exact hl.wId (by decide)
  refine Q.run zm120 2 (i' := 72) (ls' := [some (.ref 106), some (.int x1), some (.int x2), some (.int x3)]) (st' := [.int 3, .ref 106]) rfl ?_
  obtain ⟨r7, s6, hc5, h⟩ := bv_so h
  have hq4 : Q 1 sio tt cc d 121 0 [some (.ref 106), some (.int 3), none] [] s1 (.inl (some (.int r7)), s6) := dt121 (by omega) hl3  hc5
  refine Q.callI (gC_vi zm120 (show zM120.2.2.2.2.2[72]? = some (140, 3, .invokevirtual 206, [0, 121, 1, 4]) from rfl) zm121 (hl3.lt (a := 106) (by decide)) (hl3.T (a := 106) (p := (4, 13)) 28 rfl rfl) rfl (show aCr 1 106 [.int 3, .ref 106] 3 = some ([some (.ref 106), some (.int 3), none], []) from rfl)) hq4 ?_
  by_cases hc8 : r7 ≤ 0
  · rw [if_pos hc8] at h
    refine Q.map (A.zT (gI_of zm120 (e := (143, 3, .ifCond .le 7, [76])) rfl) (decide_eq_true hc8)) ?_
    refine Q.run zm120 1 (i' := 77) (ls' := [some (.ref 106), some (.int x1), some (.int x2), some (.int x3)]) (st' := [.int 0]) rfl ?_
    exact dt120_77 hd hq4.1  h
  · rw [if_neg hc8] at h
    refine Q.map (A.zF (gI_of zm120 (e := (143, 3, .ifCond .le 7, [76])) rfl) (fun q => hc8 (of_decide_eq_true q))) ?_
    refine Q.run zm120 2 (i' := 77) (ls' := [some (.ref 106), some (.int x1), some (.int x2), some (.int x3)]) (st' := [.int 1]) rfl ?_
    exact dt120_77 hd hq4.1  h
def dm120_65 (x1 : Int32) (y1 : Int32) (s : aS) : Option (aS) :=
  dm120_68 x1 y1 1 s
set_option maxRecDepth 100000 in
theorem dt120_65 {sio : Bool} {tt : Nat} {cc : Nat → Nat → Int32} {d : Nat} (hd : 3 ≤ d) {x1 : Int32} {y1 : Int32} {x2 : Int32} {x3 : Int32} {s : aS} (hl : Ly tt cc s) {o : aS} (h : dm120_65  x1 y1 s = some o) : Q 1 sio tt cc d 120 65 [some (.ref 106), some (.int x1), some (.int x2), some (.int x3)] [.int y1, .ref 106] s (.inl none, o) := by
  unfold dm120_65 at h
  obtain ⟨d, rfl⟩ : ∃ e, d = e + 1 := ⟨d - 1, by omega⟩
  refine Q.run zm120 2 (i' := 68) (ls' := [some (.ref 106), some (.int x1), some (.int x2), some (.int x3)]) (st' := [.int 1, .int y1, .ref 106]) rfl ?_
  exact dt120_68 hd hl  h
def dm120_31 (x1 : Int32) (y0 : Int32) (s : aS) : Option (aS) :=
  if y0 = 0 then
    dm120_78 x1 y0 s
  else
    bu (dm34 79 (sI s 106 7) s) fun r4 =>
    bu (dm35 r4) fun r7 =>
    if r7 = 69 then
      nx (wI s 106 7 ((sI s 106 7) + 1)) fun s9 =>
      bu (dm34 79 (sI s9 106 7) s9) fun r14 =>
      if r14 = 43 then
        dm120_65 x1 (sI s9 106 7) s9
      else
        bu (dm34 79 (sI s9 106 7) s9) fun r18 =>
        if r18 = 45 then
          dm120_65 x1 (sI s9 106 7) s9
        else
          dm120_68 x1 (sI s9 106 7) 0 s9
    else
      dm120_78 x1 y0 s
set_option maxRecDepth 100000 in
theorem dt120_31 {sio : Bool} {tt : Nat} {cc : Nat → Nat → Int32} {d : Nat} (hd : 3 ≤ d) {x1 : Int32} {y0 : Int32} {x2 : Int32} {s : aS} (hl : Ly tt cc s) {o : aS} (h : dm120_31  x1 y0 s = some o) : Q 1 sio tt cc d 120 31 [some (.ref 106), some (.int x1), some (.int x2), none] [.int y0] s (.inl none, o) := by
  unfold dm120_31 at h
  obtain ⟨d, rfl⟩ : ∃ e, d = e + 1 := ⟨d - 1, by omega⟩
  refine Q.run zm120 2 (i' := 33) (ls' := [some (.ref 106), some (.int x1), some (.int x2), some (.int y0)]) (st' := [.int y0]) rfl ?_
  by_cases hc1 : y0 = 0
  · rw [if_pos hc1] at h
    refine Q.map (A.zT (gI_of zm120 (e := (60, 3, .ifCond .eq 92, [78])) rfl) (decide_eq_true hc1)) ?_
    exact dt120_78 hd hl  h
  · rw [if_neg hc1] at h
    refine Q.map (A.zF (gI_of zm120 (e := (60, 3, .ifCond .eq 92, [78])) rfl) (fun q => hc1 (of_decide_eq_true q))) ?_
    refine Q.run zm120 1 (i' := 35) (ls' := [some (.ref 106), some (.int x1), some (.int x2), some (.int y0)]) (st' := [.ref 106]) rfl ?_
    refine Q.map (A.gf (gI_of zm120 (e := (64, 3, .getfield 41, [4, 0])) rfl) (hl.lt (a := 106) (by decide)) (hl.T (a := 106) (p := (4, 13)) 28 rfl rfl) (by decide) (hl.R 8 rfl)) ?_
    refine Q.run zm120 1 (i' := 37) (ls' := [some (.ref 106), some (.int x1), some (.int x2), some (.int y0)]) (st' := [.ref 106, .ref 79]) rfl ?_
    refine Q.map (A.gf (gI_of zm120 (e := (68, 3, .getfield 61, [4, 7])) rfl) (hl.lt (a := 106) (by decide)) (hl.T (a := 106) (p := (4, 13)) 28 rfl rfl) (by decide) rfl) ?_
    obtain ⟨r4, hc3, h⟩ := bu_so h
    have hq2 : Q 1 sio tt cc d 34 0 [some (.ref 79), some (.int (sI s 106 7))] [] s (.inl (some (.int r4)), s) := dt34 (by omega) hl (hl.Kd (a := 79) (c := 1) (n := 2) 1 rfl rfl (by decide)) hc3
    refine Q.callI (gC_vi zm120 (show zM120.2.2.2.2.2[38]? = some (71, 3, .invokevirtual 78, [0, 34, 1, 1]) from rfl) zm34 (hl.lt (a := 79) (by decide)) (hl.T (a := 79) (p := (1, 2)) 1 rfl rfl) rfl (show aCr 1 79 [.int (sI s 106 7), .ref 79] 2 = some ([some (.ref 79), some (.int (sI s 106 7))], []) from rfl)) hq2 ?_
    obtain ⟨r7, hc6, h⟩ := bu_so h
    have hq5 : Q 1 sio tt cc d 35 0 [some (.int r4)] [] s (.inl (some (.int r7)), s) := dt35 (by omega) hl  hc6
    refine Q.callI (gC_st zm120 (show zM120.2.2.2.2.2[39]? = some (74, 3, .invokestatic 209, [0, 35, 1]) from rfl) zm35 (show aC 1 [.int r4] 1 = some ([some (.int r4)], []) from rfl)) hq5 ?_
    refine Q.run zm120 1 (i' := 41) (ls' := [some (.ref 106), some (.int x1), some (.int x2), some (.int y0)]) (st' := [.int 69, .int r7]) rfl ?_
    by_cases hc8 : r7 = 69
    · rw [if_pos hc8] at h
      refine Q.map (A.bF (gI_of zm120 (e := (79, 3, .if_icmp .ne 73, [78])) rfl) (fun q => of_decide_eq_true q hc8)) ?_
      refine Q.run zm120 2 (i' := 44) (ls' := [some (.ref 106), some (.int x1), some (.int x2), some (.int y0)]) (st' := [.ref 106, .ref 106]) rfl ?_
      refine Q.map (A.gf (gI_of zm120 (e := (84, 3, .getfield 61, [4, 7])) rfl) (hl.lt (a := 106) (by decide)) (hl.T (a := 106) (p := (4, 13)) 28 rfl rfl) (by decide) rfl) ?_
      refine Q.run zm120 2 (i' := 47) (ls' := [some (.ref 106), some (.int x1), some (.int x2), some (.int y0)]) (st' := [.int ((sI s 106 7) + 1), .ref 106]) rfl ?_
      obtain ⟨s9, hs10, h⟩ := nx_so h
      refine Q.pf hs10 rfl (gI_of zm120 (e := (89, 3, .putfield 61, [4, 7, 0])) rfl) (hl.lt (a := 106) (by decide)) (by decide) (hl.T (a := 106) (p := (4, 13)) 28 rfl rfl) (by decide) rfl rfl ?_
      have hl11 : Ly tt cc s9 := by rw [hs10]; exact hl.wId (by decide)
      refine Q.run zm120 2 (i' := 50) (ls' := [some (.ref 106), some (.int x1), some (.int x2), some (.int y0)]) (st' := [.ref 106, .ref 106]) rfl ?_
      refine Q.map (A.gf (gI_of zm120 (e := (94, 3, .getfield 61, [4, 7])) rfl) (hl11.lt (a := 106) (by decide)) (hl11.T (a := 106) (p := (4, 13)) 28 rfl rfl) (by decide) rfl) ?_
      refine Q.run zm120 1 (i' := 52) (ls' := [some (.ref 106), some (.int x1), some (.int x2), some (.int y0)]) (st' := [.ref 106, .int (sI s9 106 7), .ref 106]) rfl ?_
      refine Q.map (A.gf (gI_of zm120 (e := (98, 3, .getfield 41, [4, 0])) rfl) (hl11.lt (a := 106) (by decide)) (hl11.T (a := 106) (p := (4, 13)) 28 rfl rfl) (by decide) (hl11.R 8 rfl)) ?_
      refine Q.run zm120 1 (i' := 54) (ls' := [some (.ref 106), some (.int x1), some (.int x2), some (.int y0)]) (st' := [.ref 106, .ref 79, .int (sI s9 106 7), .ref 106]) rfl ?_
      refine Q.map (A.gf (gI_of zm120 (e := (102, 3, .getfield 61, [4, 7])) rfl) (hl11.lt (a := 106) (by decide)) (hl11.T (a := 106) (p := (4, 13)) 28 rfl rfl) (by decide) rfl) ?_
      obtain ⟨r14, hc13, h⟩ := bu_so h
      have hq12 : Q 1 sio tt cc d 34 0 [some (.ref 79), some (.int (sI s9 106 7))] [] s9 (.inl (some (.int r14)), s9) := dt34 (by omega) hl11 (hl11.Kd (a := 79) (c := 1) (n := 2) 1 rfl rfl (by decide)) hc13
      refine Q.callI (gC_vi zm120 (show zM120.2.2.2.2.2[55]? = some (105, 3, .invokevirtual 78, [0, 34, 1, 1]) from rfl) zm34 (hl11.lt (a := 79) (by decide)) (hl11.T (a := 79) (p := (1, 2)) 1 rfl rfl) rfl (show aCr 1 79 [.int (sI s9 106 7), .ref 79, .int (sI s9 106 7), .ref 106] 2 = some ([some (.ref 79), some (.int (sI s9 106 7))], [.int (sI s9 106 7), .ref 106]) from rfl)) hq12 ?_
      refine Q.run zm120 1 (i' := 57) (ls' := [some (.ref 106), some (.int x1), some (.int x2), some (.int y0)]) (st' := [.int 43, .int r14, .int (sI s9 106 7), .ref 106]) rfl ?_
      by_cases hc15 : r14 = 43
      · rw [if_pos hc15] at h
        refine Q.map (A.bT (gI_of zm120 (e := (110, 3, .if_icmp .eq 19, [65])) rfl) (decide_eq_true hc15)) ?_
        exact dt120_65 hd hl11  h
      · rw [if_neg hc15] at h
        refine Q.map (A.bF (gI_of zm120 (e := (110, 3, .if_icmp .eq 19, [65])) rfl) (fun q => hc15 (of_decide_eq_true q))) ?_
        refine Q.run zm120 1 (i' := 59) (ls' := [some (.ref 106), some (.int x1), some (.int x2), some (.int y0)]) (st' := [.ref 106, .int (sI s9 106 7), .ref 106]) rfl ?_
        refine Q.map (A.gf (gI_of zm120 (e := (114, 3, .getfield 41, [4, 0])) rfl) (hl11.lt (a := 106) (by decide)) (hl11.T (a := 106) (p := (4, 13)) 28 rfl rfl) (by decide) (hl11.R 8 rfl)) ?_
        refine Q.run zm120 1 (i' := 61) (ls' := [some (.ref 106), some (.int x1), some (.int x2), some (.int y0)]) (st' := [.ref 106, .ref 79, .int (sI s9 106 7), .ref 106]) rfl ?_
        refine Q.map (A.gf (gI_of zm120 (e := (118, 3, .getfield 61, [4, 7])) rfl) (hl11.lt (a := 106) (by decide)) (hl11.T (a := 106) (p := (4, 13)) 28 rfl rfl) (by decide) rfl) ?_
        obtain ⟨r18, hc17, h⟩ := bu_so h
        have hq16 : Q 1 sio tt cc d 34 0 [some (.ref 79), some (.int (sI s9 106 7))] [] s9 (.inl (some (.int r18)), s9) := dt34 (by omega) hl11 (hl11.Kd (a := 79) (c := 1) (n := 2) 1 rfl rfl (by decide)) hc17
        refine Q.callI (gC_vi zm120 (show zM120.2.2.2.2.2[62]? = some (121, 3, .invokevirtual 78, [0, 34, 1, 1]) from rfl) zm34 (hl11.lt (a := 79) (by decide)) (hl11.T (a := 79) (p := (1, 2)) 1 rfl rfl) rfl (show aCr 1 79 [.int (sI s9 106 7), .ref 79, .int (sI s9 106 7), .ref 106] 2 = some ([some (.ref 79), some (.int (sI s9 106 7))], [.int (sI s9 106 7), .ref 106]) from rfl)) hq16 ?_
        refine Q.run zm120 1 (i' := 64) (ls' := [some (.ref 106), some (.int x1), some (.int x2), some (.int y0)]) (st' := [.int 45, .int r18, .int (sI s9 106 7), .ref 106]) rfl ?_
        by_cases hc19 : r18 = 45
        · rw [if_pos hc19] at h
          refine Q.map (A.bF (gI_of zm120 (e := (126, 3, .if_icmp .ne 7, [67])) rfl) (fun q => of_decide_eq_true q hc19)) ?_
          exact dt120_65 hd hl11  h
        · rw [if_neg hc19] at h
          refine Q.map (A.bT (gI_of zm120 (e := (126, 3, .if_icmp .ne 7, [67])) rfl) (decide_eq_true hc19)) ?_
          refine Q.run zm120 1 (i' := 68) (ls' := [some (.ref 106), some (.int x1), some (.int x2), some (.int y0)]) (st' := [.int 0, .int (sI s9 106 7), .ref 106]) rfl ?_
          exact dt120_68 hd hl11  h
    · rw [if_neg hc8] at h
      refine Q.map (A.bT (gI_of zm120 (e := (79, 3, .if_icmp .ne 73, [78])) rfl) (decide_eq_true hc8)) ?_
      exact dt120_78 hd hl  h
def dm120_26 (x1 : Int32) (x2 : Int32) (s : aS) : Option (aS) :=
  if x2 ≤ 0 then
    dm120_31 x1 0 s
  else
    dm120_31 x1 1 s
set_option maxRecDepth 100000 in
theorem dt120_26 {sio : Bool} {tt : Nat} {cc : Nat → Nat → Int32} {d : Nat} (hd : 3 ≤ d) {x1 : Int32} {x2 : Int32} {s : aS} (hl : Ly tt cc s) {o : aS} (h : dm120_26  x1 x2 s = some o) : Q 1 sio tt cc d 120 26 [some (.ref 106), some (.int x1), some (.int x2), none] [] s (.inl none, o) := by
  unfold dm120_26 at h
  obtain ⟨d, rfl⟩ : ∃ e, d = e + 1 := ⟨d - 1, by omega⟩
  refine Q.run zm120 1 (i' := 27) (ls' := [some (.ref 106), some (.int x1), some (.int x2), none]) (st' := [.int x2]) rfl ?_
  by_cases hc1 : x2 ≤ 0
  · rw [if_pos hc1] at h
    refine Q.map (A.zT (gI_of zm120 (e := (50, 3, .ifCond .le 7, [30])) rfl) (decide_eq_true hc1)) ?_
    refine Q.run zm120 1 (i' := 31) (ls' := [some (.ref 106), some (.int x1), some (.int x2), none]) (st' := [.int 0]) rfl ?_
    exact dt120_31 hd hl  h
  · rw [if_neg hc1] at h
    refine Q.map (A.zF (gI_of zm120 (e := (50, 3, .ifCond .le 7, [30])) rfl) (fun q => hc1 (of_decide_eq_true q))) ?_
    refine Q.run zm120 2 (i' := 31) (ls' := [some (.ref 106), some (.int x1), some (.int x2), none]) (st' := [.int 1]) rfl ?_
    exact dt120_31 hd hl  h
def dm120 (s : aS) : Option (aS) :=
  bv (dm121 256 s) fun r4 s3 =>
  bu (dm34 79 (sI s3 106 7) s3) fun r7 =>
  if r7 = 46 then
    nx (wI s3 106 7 ((sI s3 106 7) + 1)) fun s9 =>
    bv (dm121 256 s9) fun r15 s14 =>
    dm120_26 (sI s 106 7) (r4 + r15) s14
  else
    dm120_26 (sI s 106 7) r4 s3
set_option maxRecDepth 100000 in
theorem dt120 {sio : Bool} {tt : Nat} {cc : Nat → Nat → Int32} {d : Nat} (hd : 3 ≤ d) {s : aS} (hl : Ly tt cc s) {o : aS} (h : dm120  s = some o) : Q 1 sio tt cc d 120 0 [some (.ref 106), none, none, none] [] s (.inl none, o) := by
  unfold dm120 at h
  obtain ⟨d, rfl⟩ : ∃ e, d = e + 1 := ⟨d - 1, by omega⟩
  refine Q.run zm120 1 (i' := 1) (ls' := [some (.ref 106), none, none, none]) (st' := [.ref 106]) rfl ?_
  refine Q.map (A.gf (gI_of zm120 (e := (1, 3, .getfield 61, [4, 7])) rfl) (hl.lt (a := 106) (by decide)) (hl.T (a := 106) (p := (4, 13)) 28 rfl rfl) (by decide) rfl) ?_
  refine Q.run zm120 3 (i' := 5) (ls' := [some (.ref 106), some (.int (sI s 106 7)), none, none]) (st' := [.int 256, .ref 106]) rfl ?_
  obtain ⟨r4, s3, hc2, h⟩ := bv_so h
  have hq1 : Q 1 sio tt cc d 121 0 [some (.ref 106), some (.int 256), none] [] s (.inl (some (.int r4)), s3) := dt121 (by omega) hl  hc2
  refine Q.callI (gC_vi zm120 (show zM120.2.2.2.2.2[5]? = some (9, 3, .invokevirtual 206, [0, 121, 1, 4]) from rfl) zm121 (hl.lt (a := 106) (by decide)) (hl.T (a := 106) (p := (4, 13)) 28 rfl rfl) rfl (show aCr 1 106 [.int 256, .ref 106] 3 = some ([some (.ref 106), some (.int 256), none], []) from rfl)) hq1 ?_
  refine Q.run zm120 2 (i' := 8) (ls' := [some (.ref 106), some (.int (sI s 106 7)), some (.int r4), none]) (st' := [.ref 106]) rfl ?_
  refine Q.map (A.gf (gI_of zm120 (e := (14, 3, .getfield 41, [4, 0])) rfl) (hq1.1.lt (a := 106) (by decide)) (hq1.1.T (a := 106) (p := (4, 13)) 28 rfl rfl) (by decide) (hq1.1.R 8 rfl)) ?_
  refine Q.run zm120 1 (i' := 10) (ls' := [some (.ref 106), some (.int (sI s 106 7)), some (.int r4), none]) (st' := [.ref 106, .ref 79]) rfl ?_
  refine Q.map (A.gf (gI_of zm120 (e := (18, 3, .getfield 61, [4, 7])) rfl) (hq1.1.lt (a := 106) (by decide)) (hq1.1.T (a := 106) (p := (4, 13)) 28 rfl rfl) (by decide) rfl) ?_
  obtain ⟨r7, hc6, h⟩ := bu_so h
  have hq5 : Q 1 sio tt cc d 34 0 [some (.ref 79), some (.int (sI s3 106 7))] [] s3 (.inl (some (.int r7)), s3) := dt34 (by omega) hq1.1 (hq1.1.Kd (a := 79) (c := 1) (n := 2) 1 rfl rfl (by decide)) hc6
  refine Q.callI (gC_vi zm120 (show zM120.2.2.2.2.2[11]? = some (21, 3, .invokevirtual 78, [0, 34, 1, 1]) from rfl) zm34 (hq1.1.lt (a := 79) (by decide)) (hq1.1.T (a := 79) (p := (1, 2)) 1 rfl rfl) rfl (show aCr 1 79 [.int (sI s3 106 7), .ref 79] 2 = some ([some (.ref 79), some (.int (sI s3 106 7))], []) from rfl)) hq5 ?_
  refine Q.run zm120 1 (i' := 13) (ls' := [some (.ref 106), some (.int (sI s 106 7)), some (.int r4), none]) (st' := [.int 46, .int r7]) rfl ?_
  by_cases hc8 : r7 = 46
  · rw [if_pos hc8] at h
    refine Q.map (A.bF (gI_of zm120 (e := (26, 3, .if_icmp .ne 23, [26])) rfl) (fun q => of_decide_eq_true q hc8)) ?_
    refine Q.run zm120 2 (i' := 16) (ls' := [some (.ref 106), some (.int (sI s 106 7)), some (.int r4), none]) (st' := [.ref 106, .ref 106]) rfl ?_
    refine Q.map (A.gf (gI_of zm120 (e := (31, 3, .getfield 61, [4, 7])) rfl) (hq1.1.lt (a := 106) (by decide)) (hq1.1.T (a := 106) (p := (4, 13)) 28 rfl rfl) (by decide) rfl) ?_
    refine Q.run zm120 2 (i' := 19) (ls' := [some (.ref 106), some (.int (sI s 106 7)), some (.int r4), none]) (st' := [.int ((sI s3 106 7) + 1), .ref 106]) rfl ?_
    obtain ⟨s9, hs10, h⟩ := nx_so h
    refine Q.pf hs10 rfl (gI_of zm120 (e := (36, 3, .putfield 61, [4, 7, 0])) rfl) (hq1.1.lt (a := 106) (by decide)) (by decide) (hq1.1.T (a := 106) (p := (4, 13)) 28 rfl rfl) (by decide) rfl rfl ?_
    have hl11 : Ly tt cc s9 := by rw [hs10]; exact hq1.1.wId (by decide)
    refine Q.run zm120 3 (i' := 23) (ls' := [some (.ref 106), some (.int (sI s 106 7)), some (.int r4), none]) (st' := [.int 256, .ref 106, .int r4]) rfl ?_
    obtain ⟨r15, s14, hc13, h⟩ := bv_so h
    have hq12 : Q 1 sio tt cc d 121 0 [some (.ref 106), some (.int 256), none] [] s9 (.inl (some (.int r15)), s14) := dt121 (by omega) hl11  hc13
    refine Q.callI (gC_vi zm120 (show zM120.2.2.2.2.2[23]? = some (44, 3, .invokevirtual 206, [0, 121, 1, 4]) from rfl) zm121 (hl11.lt (a := 106) (by decide)) (hl11.T (a := 106) (p := (4, 13)) 28 rfl rfl) rfl (show aCr 1 106 [.int 256, .ref 106, .int r4] 3 = some ([some (.ref 106), some (.int 256), none], [.int r4]) from rfl)) hq12 ?_
    refine Q.run zm120 2 (i' := 26) (ls' := [some (.ref 106), some (.int (sI s 106 7)), some (.int (r4 + r15)), none]) (st' := []) rfl ?_
    exact dt120_26 hd hq12.1  h
  · rw [if_neg hc8] at h
    refine Q.map (A.bT (gI_of zm120 (e := (26, 3, .if_icmp .ne 23, [26])) rfl) (decide_eq_true hc8)) ?_
    exact dt120_26 hd hq1.1  h
/-! 124 FormulaTrees$Reader.keepWord(IIZ)V -/
set_option maxRecDepth 100000 in
theorem zm124 : zP[124]? = some zM124 := rfl
def dm124_32 (x1 : Int32) (x3 : Int32) (y1 : Int32) (s : aS) : Option (aS) :=
  bu (dm106 y1 x1 s) fun s3 =>
  if x3 = 0 then
    some s3
  else
    if (sI s3 106 8) = (-1) then
      bu (dm115 (sI s3 106 10) 0 s3) fun s8 =>
      some s8
    else
      some s3
set_option maxRecDepth 100000 in
theorem dt124_32 {sio : Bool} {tt : Nat} {cc : Nat → Nat → Int32} {d : Nat} (hd : 6 ≤ d) {x1 : Int32} {x3 : Int32} {y1 : Int32} {x2 : Int32} {x4 : Int32} {s : aS} (hl : Ly tt cc s) {o : aS} (h : dm124_32  x1 x3 y1 s = some o) : Q 1 sio tt cc d 124 32 [some (.ref 106), some (.int x1), some (.int x2), some (.int x3), some (.int x4)] [.int y1, .ref 106] s (.inl none, o) := by
  unfold dm124_32 at h
  obtain ⟨d, rfl⟩ : ∃ e, d = e + 1 := ⟨d - 1, by omega⟩
  refine Q.run zm124 1 (i' := 33) (ls' := [some (.ref 106), some (.int x1), some (.int x2), some (.int x3), some (.int x4)]) (st' := [.int x1, .int y1, .ref 106]) rfl ?_
  obtain ⟨s3, hc2, h⟩ := bu_so h
  have hq1 : Q 1 sio tt cc d 106 0 [some (.ref 106), some (.int y1), some (.int x1), none] [] s (.inl none, s3) := dt106 (by omega) hl  hc2
  refine Q.callV (gC_vi zm124 (show zM124.2.2.2.2.2[33]? = some (58, 3, .invokevirtual 215, [0, 106, 2, 4]) from rfl) zm106 (hl.lt (a := 106) (by decide)) (hl.T (a := 106) (p := (4, 13)) 28 rfl rfl) rfl (show aCr 2 106 [.int x1, .int y1, .ref 106] 4 = some ([some (.ref 106), some (.int y1), some (.int x1), none], []) from rfl)) hq1 ?_
  refine Q.run zm124 1 (i' := 35) (ls' := [some (.ref 106), some (.int x1), some (.int x2), some (.int x3), some (.int x4)]) (st' := [.int x3]) rfl ?_
  by_cases hc4 : x3 = 0
  · rw [if_pos hc4] at h
    refine Q.map (A.zT (gI_of zm124 (e := (62, 3, .ifCond .eq 20, [45])) rfl) (decide_eq_true hc4)) ?_
    cases h
    exact Q.ret (A.rv zm124 (show zM124.2.2.2.2.2[45]? = some (82, 1, .return_, []) from rfl) rfl) hq1.1
  · rw [if_neg hc4] at h
    refine Q.map (A.zF (gI_of zm124 (e := (62, 3, .ifCond .eq 20, [45])) rfl) (fun q => hc4 (of_decide_eq_true q))) ?_
    refine Q.run zm124 1 (i' := 37) (ls' := [some (.ref 106), some (.int x1), some (.int x2), some (.int x3), some (.int x4)]) (st' := [.ref 106]) rfl ?_
    refine Q.map (A.gf (gI_of zm124 (e := (66, 3, .getfield 65, [4, 8])) rfl) (hq1.1.lt (a := 106) (by decide)) (hq1.1.T (a := 106) (p := (4, 13)) 28 rfl rfl) (by decide) rfl) ?_
    refine Q.run zm124 1 (i' := 39) (ls' := [some (.ref 106), some (.int x1), some (.int x2), some (.int x3), some (.int x4)]) (st' := [.int (-1), .int (sI s3 106 8)]) rfl ?_
    by_cases hc5 : (sI s3 106 8) = (-1)
    · rw [if_pos hc5] at h
      refine Q.map (A.bF (gI_of zm124 (e := (70, 3, .if_icmp .ne 12, [45])) rfl) (fun q => of_decide_eq_true q hc5)) ?_
      refine Q.run zm124 2 (i' := 42) (ls' := [some (.ref 106), some (.int x1), some (.int x2), some (.int x3), some (.int x4)]) (st' := [.ref 106, .ref 106]) rfl ?_
      refine Q.map (A.gf (gI_of zm124 (e := (75, 3, .getfield 100, [4, 10])) rfl) (hq1.1.lt (a := 106) (by decide)) (hq1.1.T (a := 106) (p := (4, 13)) 28 rfl rfl) (by decide) rfl) ?_
      refine Q.run zm124 1 (i' := 44) (ls' := [some (.ref 106), some (.int x1), some (.int x2), some (.int x3), some (.int x4)]) (st' := [.int 0, .int (sI s3 106 10), .ref 106]) rfl ?_
      obtain ⟨s8, hc7, h⟩ := bu_so h
      have hq6 : Q 1 sio tt cc d 115 0 [some (.ref 106), some (.int (sI s3 106 10)), some (.int 0)] [] s3 (.inl none, s8) := dt115 (by omega) hq1.1  hc7
      refine Q.callV (gC_vi zm124 (show zM124.2.2.2.2.2[44]? = some (79, 3, .invokevirtual 119, [0, 115, 2, 4]) from rfl) zm115 (hq1.1.lt (a := 106) (by decide)) (hq1.1.T (a := 106) (p := (4, 13)) 28 rfl rfl) rfl (show aCr 2 106 [.int 0, .int (sI s3 106 10), .ref 106] 3 = some ([some (.ref 106), some (.int (sI s3 106 10)), some (.int 0)], []) from rfl)) hq6 ?_
      cases h
      exact Q.ret (A.rv zm124 (show zM124.2.2.2.2.2[45]? = some (82, 1, .return_, []) from rfl) rfl) hq6.1
    · rw [if_neg hc5] at h
      refine Q.map (A.bT (gI_of zm124 (e := (70, 3, .if_icmp .ne 12, [45])) rfl) (decide_eq_true hc5)) ?_
      cases h
      exact Q.ret (A.rv zm124 (show zM124.2.2.2.2.2[45]? = some (82, 1, .return_, []) from rfl) rfl) hq1.1
def dm124_9 (x1 : Int32) (x2 : Int32) (x3 : Int32) (y0 : Int32) (s : aS) : Option (aS) :=
  nx (wI s 106 7 x2) fun s1 =>
  if y0 = (-1) then
    bu (dm122 x1 x2 s1) fun s7 =>
    if x3 = 0 then
      dm124_32 x1 x3 6 s7
    else
      dm124_32 x1 x3 7 s7
  else
    bu (dm111 3 y0 x1 s1) fun s11 =>
    some s11
set_option maxRecDepth 100000 in
theorem dt124_9 {sio : Bool} {tt : Nat} {cc : Nat → Nat → Int32} {d : Nat} (hd : 6 ≤ d) {x1 : Int32} {x2 : Int32} {x3 : Int32} {y0 : Int32} {s : aS} (hl : Ly tt cc s) {o : aS} (h : dm124_9  x1 x2 x3 y0 s = some o) : Q 1 sio tt cc d 124 9 [some (.ref 106), some (.int x1), some (.int x2), some (.int x3), none] [.int y0] s (.inl none, o) := by
  unfold dm124_9 at h
  obtain ⟨d, rfl⟩ : ∃ e, d = e + 1 := ⟨d - 1, by omega⟩
  refine Q.run zm124 3 (i' := 12) (ls' := [some (.ref 106), some (.int x1), some (.int x2), some (.int x3), some (.int y0)]) (st' := [.int x2, .ref 106]) rfl ?_
  obtain ⟨s1, hs2, h⟩ := nx_so h
  refine Q.pf hs2 rfl (gI_of zm124 (e := (21, 3, .putfield 61, [4, 7, 0])) rfl) (hl.lt (a := 106) (by decide)) (by decide) (hl.T (a := 106) (p := (4, 13)) 28 rfl rfl) (by decide) rfl rfl ?_
  have hl3 : Ly tt cc s1 := by rw [hs2]; exact hl.wId (by decide)
  refine Q.run zm124 2 (i' := 15) (ls' := [some (.ref 106), some (.int x1), some (.int x2), some (.int x3), some (.int y0)]) (st' := [.int (-1), .int y0]) rfl ?_
  by_cases hc4 : y0 = (-1)
  · rw [if_pos hc4] at h
    refine Q.map (A.bT (gI_of zm124 (e := (27, 3, .if_icmp .eq 12, [22])) rfl) (decide_eq_true hc4)) ?_
    refine Q.run zm124 3 (i' := 25) (ls' := [some (.ref 106), some (.int x1), some (.int x2), some (.int x3), some (.int y0)]) (st' := [.int x2, .int x1, .ref 106]) rfl ?_
    obtain ⟨s7, hc6, h⟩ := bu_so h
    have hq5 : Q 1 sio tt cc d 122 0 [some (.ref 106), some (.int x1), some (.int x2), none] [] s1 (.inl none, s7) := dt122 (by omega) hl3  hc6
    refine Q.callV (gC_vi zm124 (show zM124.2.2.2.2.2[25]? = some (42, 3, .invokevirtual 212, [0, 122, 2, 4]) from rfl) zm122 (hl3.lt (a := 106) (by decide)) (hl3.T (a := 106) (p := (4, 13)) 28 rfl rfl) rfl (show aCr 2 106 [.int x2, .int x1, .ref 106] 4 = some ([some (.ref 106), some (.int x1), some (.int x2), none], []) from rfl)) hq5 ?_
    refine Q.run zm124 2 (i' := 28) (ls' := [some (.ref 106), some (.int x1), some (.int x2), some (.int x3), some (.int y0)]) (st' := [.int x3, .ref 106]) rfl ?_
    by_cases hc8 : x3 = 0
    · rw [if_pos hc8] at h
      refine Q.map (A.zT (gI_of zm124 (e := (47, 3, .ifCond .eq 8, [31])) rfl) (decide_eq_true hc8)) ?_
      refine Q.run zm124 1 (i' := 32) (ls' := [some (.ref 106), some (.int x1), some (.int x2), some (.int x3), some (.int y0)]) (st' := [.int 6, .ref 106]) rfl ?_
      exact dt124_32 hd hq5.1  h
    · rw [if_neg hc8] at h
      refine Q.map (A.zF (gI_of zm124 (e := (47, 3, .ifCond .eq 8, [31])) rfl) (fun q => hc8 (of_decide_eq_true q))) ?_
      refine Q.run zm124 2 (i' := 32) (ls' := [some (.ref 106), some (.int x1), some (.int x2), some (.int x3), some (.int y0)]) (st' := [.int 7, .ref 106]) rfl ?_
      exact dt124_32 hd hq5.1  h
  · rw [if_neg hc4] at h
    refine Q.map (A.bF (gI_of zm124 (e := (27, 3, .if_icmp .eq 12, [22])) rfl) (fun q => hc4 (of_decide_eq_true q))) ?_
    refine Q.run zm124 4 (i' := 20) (ls' := [some (.ref 106), some (.int x1), some (.int x2), some (.int x3), some (.int y0)]) (st' := [.int x1, .int y0, .int 3, .ref 106]) rfl ?_
    obtain ⟨s11, hc10, h⟩ := bu_so h
    have hq9 : Q 1 sio tt cc d 111 0 [some (.ref 106), some (.int 3), some (.int y0), some (.int x1), none] [] s1 (.inl none, s11) := dt111 (by omega) hl3  hc10
    refine Q.callV (gC_vi zm124 (show zM124.2.2.2.2.2[20]? = some (35, 3, .invokevirtual 238, [0, 111, 3, 4]) from rfl) zm111 (hl3.lt (a := 106) (by decide)) (hl3.T (a := 106) (p := (4, 13)) 28 rfl rfl) rfl (show aCr 3 106 [.int x1, .int y0, .int 3, .ref 106] 5 = some ([some (.ref 106), some (.int 3), some (.int y0), some (.int x1), none], []) from rfl)) hq9 ?_
    cases h
    exact Q.ret (A.rv zm124 (show zM124.2.2.2.2.2[21]? = some (38, 1, .return_, []) from rfl) rfl) hq9.1
def dm124 (x1 : Int32) (x2 : Int32) (x3 : Int32) (s : aS) : Option (aS) :=
  if x3 = 0 then
    bv (dm48 79 x1 x2 s) fun r5 s4 =>
    dm124_9 x1 x2 x3 r5 s4
  else
    dm124_9 x1 x2 x3 (-1) s
set_option maxRecDepth 100000 in
theorem dt124 {sio : Bool} {tt : Nat} {cc : Nat → Nat → Int32} {d : Nat} (hd : 6 ≤ d) {x1 : Int32} {x2 : Int32} {x3 : Int32} {s : aS} (hl : Ly tt cc s) {o : aS} (h : dm124  x1 x2 x3 s = some o) : Q 1 sio tt cc d 124 0 [some (.ref 106), some (.int x1), some (.int x2), some (.int x3), none] [] s (.inl none, o) := by
  unfold dm124 at h
  obtain ⟨d, rfl⟩ : ∃ e, d = e + 1 := ⟨d - 1, by omega⟩
  refine Q.run zm124 1 (i' := 1) (ls' := [some (.ref 106), some (.int x1), some (.int x2), some (.int x3), none]) (st' := [.int x3]) rfl ?_
  by_cases hc1 : x3 = 0
  · rw [if_pos hc1] at h
    refine Q.map (A.zT (gI_of zm124 (e := (1, 3, .ifCond .eq 7, [4])) rfl) (decide_eq_true hc1)) ?_
    refine Q.run zm124 1 (i' := 5) (ls' := [some (.ref 106), some (.int x1), some (.int x2), some (.int x3), none]) (st' := [.ref 106]) rfl ?_
    refine Q.map (A.gf (gI_of zm124 (e := (9, 3, .getfield 41, [4, 0])) rfl) (hl.lt (a := 106) (by decide)) (hl.T (a := 106) (p := (4, 13)) 28 rfl rfl) (by decide) (hl.R 8 rfl)) ?_
    refine Q.run zm124 2 (i' := 8) (ls' := [some (.ref 106), some (.int x1), some (.int x2), some (.int x3), none]) (st' := [.int x2, .int x1, .ref 79]) rfl ?_
    obtain ⟨r5, s4, hc3, h⟩ := bv_so h
    have hq2 : Q 1 sio tt cc d 48 0 [some (.ref 79), some (.int x1), some (.int x2)] [] s (.inl (some (.int r5)), s4) := dt48 (by omega) hl (hl.Kd (a := 79) (c := 1) (n := 2) 1 rfl rfl (by decide)) hc3
    refine Q.callI (gC_vi zm124 (show zM124.2.2.2.2.2[8]? = some (14, 3, .invokevirtual 262, [0, 48, 2, 1]) from rfl) zm48 (hl.lt (a := 79) (by decide)) (hl.T (a := 79) (p := (1, 2)) 1 rfl rfl) rfl (show aCr 2 79 [.int x2, .int x1, .ref 79] 3 = some ([some (.ref 79), some (.int x1), some (.int x2)], []) from rfl)) hq2 ?_
    exact dt124_9 hd hq2.1  h
  · rw [if_neg hc1] at h
    refine Q.map (A.zF (gI_of zm124 (e := (1, 3, .ifCond .eq 7, [4])) rfl) (fun q => hc1 (of_decide_eq_true q))) ?_
    refine Q.run zm124 2 (i' := 9) (ls' := [some (.ref 106), some (.int x1), some (.int x2), some (.int x3), none]) (st' := [.int (-1)]) rfl ?_
    exact dt124_9 hd hl  h
