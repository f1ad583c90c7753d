/-! 123 FormulaTrees$Reader.readWord()V -/
set_option maxRecDepth 100000 in
theorem zm123 : zP[123]? = some zM123 := rfl
def dm123_70 (y1 : Int32) (y2 : Int32) (y3 : Int32) (s : aS) : Option (aS) :=
  bu (dm124 y1 y2 y3 s) fun s3 =>
  some s3
set_option maxRecDepth 100000 in
theorem dt123_70 {sio : Bool} {tt : Nat} {cc : Nat → Nat → Int32} {d : Nat} (hd : 7 ≤ d) {y1 : Int32} {y2 : Int32} {y3 : Int32} {x1 : Int32} {x2 : Int32} {x3 : Int32} {x4 : Int32} {s : aS} (hl : Ly tt cc s) {o : aS} (h : dm123_70  y1 y2 y3 s = some o) : Q 1 sio tt cc d 123 70 [some (.ref 106), some (.int x1), some (.int x2), some (.int x3), some (.int x4)] [.int y3, .int y2, .int y1, .ref 106] s (.inl none, o) := by
  unfold dm123_70 at h
  obtain ⟨d, rfl⟩ : ∃ e, d = e + 1 := ⟨d - 1, by omega⟩
  obtain ⟨s3, hc2, h⟩ := bu_so h
  have hq1 : Q 1 sio tt cc d 124 0 [some (.ref 106), some (.int y1), some (.int y2), some (.int y3), none] [] s (.inl none, s3) := dt124 (by omega) hl  hc2
  refine Q.callV (gC_vi zm123 (show zM123.2.2.2.2.2[70]? = some (134, 3, .invokevirtual 258, [0, 124, 3, 4]) from rfl) zm124 (hl.lt (a := 106) (by decide)) (hl.T (a := 106) (p := (4, 13)) 28 rfl rfl) rfl (show aCr 3 106 [.int y3, .int y2, .int y1, .ref 106] 5 = some ([some (.ref 106), some (.int y1), some (.int y2), some (.int y3), none], []) from rfl)) hq1 ?_
  cases h
  exact Q.ret (A.rv zm123 (show zM123.2.2.2.2.2[71]? = some (137, 1, .return_, []) from rfl) rfl) hq1.1
def dm123_61 (x1 : Int32) (x2 : Int32) (x3 : Int32) (s : aS) : Option (aS) :=
  if x3 = 40 then
    dm123_70 x1 x2 1 s
  else
    dm123_70 x1 x2 0 s
set_option maxRecDepth 100000 in
theorem dt123_61 {sio : Bool} {tt : Nat} {cc : Nat → Nat → Int32} {d : Nat} (hd : 7 ≤ d) {x1 : Int32} {x2 : Int32} {x3 : Int32} {x4 : Int32} {s : aS} (hl : Ly tt cc s) {o : aS} (h : dm123_61  x1 x2 x3 s = some o) : Q 1 sio tt cc d 123 61 [some (.ref 106), some (.int x1), some (.int x2), some (.int x3), some (.int x4)] [] s (.inl none, o) := by
  unfold dm123_61 at h
  obtain ⟨d, rfl⟩ : ∃ e, d = e + 1 := ⟨d - 1, by omega⟩
  refine Q.run zm123 5 (i' := 66) (ls' := [some (.ref 106), some (.int x1), some (.int x2), some (.int x3), some (.int x4)]) (st' := [.int 40, .int x3, .int x2, .int x1, .ref 106]) rfl ?_
  by_cases hc1 : x3 = 40
  · rw [if_pos hc1] at h
    refine Q.map (A.bF (gI_of zm123 (e := (126, 3, .if_icmp .ne 7, [69])) rfl) (fun q => of_decide_eq_true q hc1)) ?_
    refine Q.run zm123 2 (i' := 70) (ls' := [some (.ref 106), some (.int x1), some (.int x2), some (.int x3), some (.int x4)]) (st' := [.int 1, .int x2, .int x1, .ref 106]) rfl ?_
    exact dt123_70 hd hl  h
  · rw [if_neg hc1] at h
    refine Q.map (A.bT (gI_of zm123 (e := (126, 3, .if_icmp .ne 7, [69])) rfl) (decide_eq_true hc1)) ?_
    refine Q.run zm123 1 (i' := 70) (ls' := [some (.ref 106), some (.int x1), some (.int x2), some (.int x3), some (.int x4)]) (st' := [.int 0, .int x2, .int x1, .ref 106]) rfl ?_
    exact dt123_70 hd hl  h
def dm123_48 (x1 : Int32) (x2 : Int32) (x3 : Int32) (x4 : Int32) (s : aS) : Option (aS) :=
  if x4 = 0 then
    dm123_61 x1 x2 x3 s
  else
    bu (dm93 s) fun r4 =>
    if r4 ≤ x2 then
      dm123_61 x1 x2 x3 s
    else
      bu (dm93 s) fun r8 =>
      nx (wI s 106 8 r8) fun s9 =>
      some s9
set_option maxRecDepth 100000 in
theorem dt123_48 {sio : Bool} {tt : Nat} {cc : Nat → Nat → Int32} {d : Nat} (hd : 7 ≤ d) {x1 : Int32} {x2 : Int32} {x3 : Int32} {x4 : Int32} {s : aS} (hl : Ly tt cc s) {o : aS} (h : dm123_48  x1 x2 x3 x4 s = some o) : Q 1 sio tt cc d 123 48 [some (.ref 106), some (.int x1), some (.int x2), some (.int x3), some (.int x4)] [] s (.inl none, o) := by
  unfold dm123_48 at h
  obtain ⟨d, rfl⟩ : ∃ e, d = e + 1 := ⟨d - 1, by omega⟩
  refine Q.run zm123 1 (i' := 49) (ls' := [some (.ref 106), some (.int x1), some (.int x2), some (.int x3), some (.int x4)]) (st' := [.int x4]) rfl ?_
  by_cases hc1 : x4 = 0
  · rw [if_pos hc1] at h
    refine Q.map (A.zT (gI_of zm123 (e := (92, 3, .ifCond .eq 28, [61])) rfl) (decide_eq_true hc1)) ?_
    exact dt123_61 hd hl  h
  · rw [if_neg hc1] at h
    refine Q.map (A.zF (gI_of zm123 (e := (92, 3, .ifCond .eq 28, [61])) rfl) (fun q => hc1 (of_decide_eq_true q))) ?_
    refine Q.run zm123 1 (i' := 51) (ls' := [some (.ref 106), some (.int x1), some (.int x2), some (.int x3), some (.int x4)]) (st' := [.ref 106]) rfl ?_
    refine Q.map (A.gf (gI_of zm123 (e := (96, 3, .getfield 23, [4, 3])) rfl) (hl.lt (a := 106) (by decide)) (hl.T (a := 106) (p := (4, 13)) 28 rfl rfl) (by decide) (hl.R 11 rfl)) ?_
    obtain ⟨r4, hc3, h⟩ := bu_so h
    have hq2 : Q 1 sio tt cc d 93 0 [some (.ref 109)] [] s (.inl (some (.int r4)), s) := dt93 (by omega) hl  hc3
    refine Q.callI (gC_vi zm123 (show zM123.2.2.2.2.2[52]? = some (99, 3, .invokevirtual 255, [0, 93, 0, 5]) from rfl) zm93 (hl.lt (a := 109) (by decide)) (hl.T (a := 109) (p := (5, 4)) 31 rfl rfl) rfl (show aCr 0 109 [.ref 109] 1 = some ([some (.ref 109)], []) from rfl)) hq2 ?_
    refine Q.run zm123 1 (i' := 54) (ls' := [some (.ref 106), some (.int x1), some (.int x2), some (.int x3), some (.int x4)]) (st' := [.int x2, .int r4]) rfl ?_
    by_cases hc5 : r4 ≤ x2
    · rw [if_pos hc5] at h
      refine Q.map (A.bT (gI_of zm123 (e := (103, 3, .if_icmp .le 17, [61])) rfl) (decide_eq_true hc5)) ?_
      exact dt123_61 hd hl  h
    · rw [if_neg hc5] at h
      refine Q.map (A.bF (gI_of zm123 (e := (103, 3, .if_icmp .le 17, [61])) rfl) (fun q => hc5 (of_decide_eq_true q))) ?_
      refine Q.run zm123 2 (i' := 57) (ls' := [some (.ref 106), some (.int x1), some (.int x2), some (.int x3), some (.int x4)]) (st' := [.ref 106, .ref 106]) rfl ?_
      refine Q.map (A.gf (gI_of zm123 (e := (108, 3, .getfield 23, [4, 3])) rfl) (hl.lt (a := 106) (by decide)) (hl.T (a := 106) (p := (4, 13)) 28 rfl rfl) (by decide) (hl.R 11 rfl)) ?_
      obtain ⟨r8, hc7, h⟩ := bu_so h
      have hq6 : Q 1 sio tt cc d 93 0 [some (.ref 109)] [] s (.inl (some (.int r8)), s) := dt93 (by omega) hl  hc7
      refine Q.callI (gC_vi zm123 (show zM123.2.2.2.2.2[58]? = some (111, 3, .invokevirtual 255, [0, 93, 0, 5]) from rfl) zm93 (hl.lt (a := 109) (by decide)) (hl.T (a := 109) (p := (5, 4)) 31 rfl rfl) rfl (show aCr 0 109 [.ref 109, .ref 106] 1 = some ([some (.ref 109)], [.ref 106]) from rfl)) hq6 ?_
      obtain ⟨s9, hs10, h⟩ := nx_so h
      refine Q.pf hs10 rfl (gI_of zm123 (e := (114, 3, .putfield 65, [4, 8, 0])) rfl) (hl.lt (a := 106) (by decide)) (by decide) (hl.T (a := 106) (p := (4, 13)) 28 rfl rfl) (by decide) rfl rfl ?_
      have hl11 : Ly tt cc s9 := by rw [hs10]; exact hl.wId (by decide)
      refine Q.run zm123 1 (i' := 71) (ls' := [some (.ref 106), some (.int x1), some (.int x2), some (.int x3), some (.int x4)]) (st' := []) rfl ?_
      cases h
      exact Q.ret (A.rv zm123 (show zM123.2.2.2.2.2[71]? = some (137, 1, .return_, []) from rfl) rfl) hl11
def dm123_19 (x1 : Int32) (x2 : Int32) (x3 : Int32) (y0 : Int32) (s : aS) : Option (aS) :=
  if x3 = 33 then
    bu (dm122 x1 x2 s) fun s4 =>
    nx (wI s4 106 7 x2) fun s5 =>
    bu (dm114 x1 s5) fun s10 =>
    some s10
  else
    if y0 = 0 then
      dm123_48 x1 x2 x3 y0 s
    else
      bv (dm89 79 x1 s) fun r15 s14 =>
      if r15 = 0 then
        dm123_48 x1 x2 x3 y0 s14
      else
        bu (dm112 x1 (-1) s14) fun s19 =>
        some s19
set_option maxRecDepth 100000 in
theorem dt123_19 {sio : Bool} {tt : Nat} {cc : Nat → Nat → Int32} {d : Nat} (hd : 7 ≤ d) {x1 : Int32} {x2 : Int32} {x3 : Int32} {y0 : Int32} {s : aS} (hl : Ly tt cc s) {o : aS} (h : dm123_19  x1 x2 x3 y0 s = some o) : Q 1 sio tt cc d 123 19 [some (.ref 106), some (.int x1), some (.int x2), some (.int x3), none] [.int y0] s (.inl none, o) := by
  unfold dm123_19 at h
  obtain ⟨d, rfl⟩ : ∃ e, d = e + 1 := ⟨d - 1, by omega⟩
  refine Q.run zm123 3 (i' := 22) (ls' := [some (.ref 106), some (.int x1), some (.int x2), some (.int x3), some (.int y0)]) (st' := [.int 33, .int x3]) rfl ?_
  by_cases hc1 : x3 = 33
  · rw [if_pos hc1] at h
    refine Q.map (A.bF (gI_of zm123 (e := (39, 3, .if_icmp .ne 22, [34])) rfl) (fun q => of_decide_eq_true q hc1)) ?_
    refine Q.run zm123 3 (i' := 26) (ls' := [some (.ref 106), some (.int x1), some (.int x2), some (.int x3), some (.int y0)]) (st' := [.int x2, .int x1, .ref 106]) rfl ?_
    obtain ⟨s4, hc3, h⟩ := bu_so h
    have hq2 : Q 1 sio tt cc d 122 0 [some (.ref 106), some (.int x1), some (.int x2), none] [] s (.inl none, s4) := dt122 (by omega) hl  hc3
    refine Q.callV (gC_vi zm123 (show zM123.2.2.2.2.2[26]? = some (45, 3, .invokevirtual 212, [0, 122, 2, 4]) from rfl) zm122 (hl.lt (a := 106) (by decide)) (hl.T (a := 106) (p := (4, 13)) 28 rfl rfl) rfl (show aCr 2 106 [.int x2, .int x1, .ref 106] 4 = some ([some (.ref 106), some (.int x1), some (.int x2), none], []) from rfl)) hq2 ?_
    refine Q.run zm123 2 (i' := 29) (ls' := [some (.ref 106), some (.int x1), some (.int x2), some (.int x3), some (.int y0)]) (st' := [.int x2, .ref 106]) rfl ?_
    obtain ⟨s5, hs6, h⟩ := nx_so h
    refine Q.pf hs6 rfl (gI_of zm123 (e := (50, 3, .putfield 61, [4, 7, 0])) rfl) (hq2.1.lt (a := 106) (by decide)) (by decide) (hq2.1.T (a := 106) (p := (4, 13)) 28 rfl rfl) (by decide) rfl rfl ?_
    have hl7 : Ly tt cc s5 := by rw [hs6]; exact hq2.1.wId (by decide)
    refine Q.run zm123 2 (i' := 32) (ls' := [some (.ref 106), some (.int x1), some (.int x2), some (.int x3), some (.int y0)]) (st' := [.int x1, .ref 106]) rfl ?_
    obtain ⟨s10, hc9, h⟩ := bu_so h
    have hq8 : Q 1 sio tt cc d 114 0 [some (.ref 106), some (.int x1), none] [] s5 (.inl none, s10) := dt114 (by omega) hl7  hc9
    refine Q.callV (gC_vi zm123 (show zM123.2.2.2.2.2[32]? = some (55, 3, .invokevirtual 248, [0, 114, 1, 4]) from rfl) zm114 (hl7.lt (a := 106) (by decide)) (hl7.T (a := 106) (p := (4, 13)) 28 rfl rfl) rfl (show aCr 1 106 [.int x1, .ref 106] 3 = some ([some (.ref 106), some (.int x1), none], []) from rfl)) hq8 ?_
    refine Q.run zm123 1 (i' := 71) (ls' := [some (.ref 106), some (.int x1), some (.int x2), some (.int x3), some (.int y0)]) (st' := []) rfl ?_
    cases h
    exact Q.ret (A.rv zm123 (show zM123.2.2.2.2.2[71]? = some (137, 1, .return_, []) from rfl) rfl) hq8.1
  · rw [if_neg hc1] at h
    refine Q.map (A.bT (gI_of zm123 (e := (39, 3, .if_icmp .ne 22, [34])) rfl) (decide_eq_true hc1)) ?_
    refine Q.run zm123 1 (i' := 35) (ls' := [some (.ref 106), some (.int x1), some (.int x2), some (.int x3), some (.int y0)]) (st' := [.int y0]) rfl ?_
    by_cases hc11 : y0 = 0
    · rw [if_pos hc11] at h
      refine Q.map (A.zT (gI_of zm123 (e := (63, 3, .ifCond .eq 27, [48])) rfl) (decide_eq_true hc11)) ?_
      exact dt123_48 hd hl  h
    · rw [if_neg hc11] at h
      refine Q.map (A.zF (gI_of zm123 (e := (63, 3, .ifCond .eq 27, [48])) rfl) (fun q => hc11 (of_decide_eq_true q))) ?_
      refine Q.run zm123 1 (i' := 37) (ls' := [some (.ref 106), some (.int x1), some (.int x2), some (.int x3), some (.int y0)]) (st' := [.ref 106]) rfl ?_
      refine Q.map (A.gf (gI_of zm123 (e := (67, 3, .getfield 23, [4, 3])) rfl) (hl.lt (a := 106) (by decide)) (hl.T (a := 106) (p := (4, 13)) 28 rfl rfl) (by decide) (hl.R 11 rfl)) ?_
      refine Q.run zm123 1 (i' := 39) (ls' := [some (.ref 106), some (.int x1), some (.int x2), some (.int x3), some (.int y0)]) (st' := [.ref 106, .ref 109]) rfl ?_
      refine Q.map (A.gf (gI_of zm123 (e := (71, 3, .getfield 41, [4, 0])) rfl) (hl.lt (a := 106) (by decide)) (hl.T (a := 106) (p := (4, 13)) 28 rfl rfl) (by decide) (hl.R 8 rfl)) ?_
      refine Q.run zm123 1 (i' := 41) (ls' := [some (.ref 106), some (.int x1), some (.int x2), some (.int x3), some (.int y0)]) (st' := [.int x1, .ref 79, .ref 109]) rfl ?_
      obtain ⟨r15, s14, hc13, h⟩ := bv_so h
      have hq12 : Q 1 sio tt cc d 89 0 [some (.ref 109), some (.ref 79), some (.int x1)] [] s (.inl (some (.int r15)), s14) := dt89 (by omega) hl (hl.Kd (a := 79) (c := 1) (n := 2) 1 rfl rfl (by decide)) hc13
      refine Q.callI (gC_vi zm123 (show zM123.2.2.2.2.2[41]? = some (75, 3, .invokevirtual 251, [0, 89, 2, 5]) from rfl) zm89 (hl.lt (a := 109) (by decide)) (hl.T (a := 109) (p := (5, 4)) 31 rfl rfl) rfl (show aCr 2 109 [.int x1, .ref 79, .ref 109] 3 = some ([some (.ref 109), some (.ref 79), some (.int x1)], []) from rfl)) hq12 ?_
      by_cases hc16 : r15 = 0
      · rw [if_pos hc16] at h
        refine Q.map (A.zT (gI_of zm123 (e := (78, 3, .ifCond .eq 12, [48])) rfl) (decide_eq_true hc16)) ?_
        exact dt123_48 hd hq12.1  h
      · rw [if_neg hc16] at h
        refine Q.map (A.zF (gI_of zm123 (e := (78, 3, .ifCond .eq 12, [48])) rfl) (fun q => hc16 (of_decide_eq_true q))) ?_
        refine Q.run zm123 3 (i' := 46) (ls' := [some (.ref 106), some (.int x1), some (.int x2), some (.int x3), some (.int y0)]) (st' := [.int (-1), .int x1, .ref 106]) rfl ?_
        obtain ⟨s19, hc18, h⟩ := bu_so h
        have hq17 : Q 1 sio tt cc d 112 0 [some (.ref 106), some (.int x1), some (.int (-1))] [] s14 (.inl none, s19) := dt112 (by omega) hq12.1  hc18
        refine Q.callV (gC_vi zm123 (show zM123.2.2.2.2.2[46]? = some (84, 3, .invokevirtual 109, [0, 112, 2, 4]) from rfl) zm112 (hq12.1.lt (a := 106) (by decide)) (hq12.1.T (a := 106) (p := (4, 13)) 28 rfl rfl) rfl (show aCr 2 106 [.int (-1), .int x1, .ref 106] 3 = some ([some (.ref 106), some (.int x1), some (.int (-1))], []) from rfl)) hq17 ?_
        refine Q.run zm123 1 (i' := 71) (ls' := [some (.ref 106), some (.int x1), some (.int x2), some (.int x3), some (.int y0)]) (st' := []) rfl ?_
        cases h
        exact Q.ret (A.rv zm123 (show zM123.2.2.2.2.2[71]? = some (137, 1, .return_, []) from rfl) rfl) hq17.1
def dm123 (s : aS) : Option (aS) :=
  bu (dm43 79 (sI s 106 7) s) fun r3 =>
  bu (dm34 79 r3 s) fun r6 =>
  if r6 = 40 then
    dm123_19 (sI s 106 7) r3 r6 0 s
  else
    dm123_19 (sI s 106 7) r3 r6 1 s
set_option maxRecDepth 100000 in
theorem dt123 {sio : Bool} {tt : Nat} {cc : Nat → Nat → Int32} {d : Nat} (hd : 7 ≤ d) {s : aS} (hl : Ly tt cc s) {o : aS} (h : dm123  s = some o) : Q 1 sio tt cc d 123 0 [some (.ref 106), none, none, none, none] [] s (.inl none, o) := by
  unfold dm123 at h
  obtain ⟨d, rfl⟩ : ∃ e, d = e + 1 := ⟨d - 1, by omega⟩
  refine Q.run zm123 1 (i' := 1) (ls' := [some (.ref 106), none, none, none, none]) (st' := [.ref 106]) rfl ?_
  refine Q.map (A.gf (gI_of zm123 (e := (1, 3, .getfield 61, [4, 7])) rfl) (hl.lt (a := 106) (by decide)) (hl.T (a := 106) (p := (4, 13)) 28 rfl rfl) (by decide) rfl) ?_
  refine Q.run zm123 2 (i' := 4) (ls' := [some (.ref 106), some (.int (sI s 106 7)), none, none, none]) (st' := [.ref 106]) rfl ?_
  refine Q.map (A.gf (gI_of zm123 (e := (6, 3, .getfield 41, [4, 0])) rfl) (hl.lt (a := 106) (by decide)) (hl.T (a := 106) (p := (4, 13)) 28 rfl rfl) (by decide) (hl.R 8 rfl)) ?_
  refine Q.run zm123 1 (i' := 6) (ls' := [some (.ref 106), some (.int (sI s 106 7)), none, none, none]) (st' := [.int (sI s 106 7), .ref 79]) rfl ?_
  obtain ⟨r3, hc2, h⟩ := bu_so h
  have hq1 : Q 1 sio tt cc d 43 0 [some (.ref 79), some (.int (sI s 106 7)), none] [] s (.inl (some (.int r3)), s) := dt43 (by omega) hl (hl.Kd (a := 79) (c := 1) (n := 2) 1 rfl rfl (by decide)) hc2
  refine Q.callI (gC_vi zm123 (show zM123.2.2.2.2.2[6]? = some (10, 3, .invokevirtual 245, [0, 43, 1, 1]) from rfl) zm43 (hl.lt (a := 79) (by decide)) (hl.T (a := 79) (p := (1, 2)) 1 rfl rfl) rfl (show aCr 1 79 [.int (sI s 106 7), .ref 79] 3 = some ([some (.ref 79), some (.int (sI s 106 7)), none], []) from rfl)) hq1 ?_
  refine Q.run zm123 2 (i' := 9) (ls' := [some (.ref 106), some (.int (sI s 106 7)), some (.int r3), none, none]) (st' := [.ref 106]) rfl ?_
  refine Q.map (A.gf (gI_of zm123 (e := (15, 3, .getfield 41, [4, 0])) rfl) (hl.lt (a := 106) (by decide)) (hl.T (a := 106) (p := (4, 13)) 28 rfl rfl) (by decide) (hl.R 8 rfl)) ?_
  refine Q.run zm123 1 (i' := 11) (ls' := [some (.ref 106), some (.int (sI s 106 7)), some (.int r3), none, none]) (st' := [.int r3, .ref 79]) rfl ?_
  obtain ⟨r6, hc5, h⟩ := bu_so h
  have hq4 : Q 1 sio tt cc d 34 0 [some (.ref 79), some (.int r3)] [] s (.inl (some (.int r6)), s) := dt34 (by omega) hl (hl.Kd (a := 79) (c := 1) (n := 2) 1 rfl rfl (by decide)) hc5
  refine Q.callI (gC_vi zm123 (show zM123.2.2.2.2.2[11]? = some (19, 3, .invokevirtual 78, [0, 34, 1, 1]) from rfl) zm34 (hl.lt (a := 79) (by decide)) (hl.T (a := 79) (p := (1, 2)) 1 rfl rfl) rfl (show aCr 1 79 [.int r3, .ref 79] 2 = some ([some (.ref 79), some (.int r3)], []) from rfl)) hq4 ?_
  refine Q.run zm123 3 (i' := 15) (ls' := [some (.ref 106), some (.int (sI s 106 7)), some (.int r3), some (.int r6), none]) (st' := [.int 40, .int r6]) rfl ?_
  by_cases hc7 : r6 = 40
  · rw [if_pos hc7] at h
    refine Q.map (A.bT (gI_of zm123 (e := (26, 3, .if_icmp .eq 7, [18])) rfl) (decide_eq_true hc7)) ?_
    refine Q.run zm123 1 (i' := 19) (ls' := [some (.ref 106), some (.int (sI s 106 7)), some (.int r3), some (.int r6), none]) (st' := [.int 0]) rfl ?_
    exact dt123_19 hd hl  h
  · rw [if_neg hc7] at h
    refine Q.map (A.bF (gI_of zm123 (e := (26, 3, .if_icmp .eq 7, [18])) rfl) (fun q => hc7 (of_decide_eq_true q))) ?_
    refine Q.run zm123 2 (i' := 19) (ls' := [some (.ref 106), some (.int (sI s 106 7)), some (.int r3), some (.int r6), none]) (st' := [.int 1]) rfl ?_
    exact dt123_19 hd hl  h
/-! 103 FormulaTrees$Reader.readOperand(I)V -/
set_option maxRecDepth 100000 in
theorem zm103 : zP[103]? = some zM103 := rfl
def dm103_52 (s : aS) : Option (aS) :=
  bu (dm120 s) fun s3 =>
  some s3
set_option maxRecDepth 100000 in
theorem dt103_52 {sio : Bool} {tt : Nat} {cc : Nat → Nat → Int32} {d : Nat} (hd : 8 ≤ d) {x1 : Int32} {s : aS} (hl : Ly tt cc s) {o : aS} (h : dm103_52  s = some o) : Q 1 sio tt cc d 103 52 [some (.ref 106), some (.int x1)] [] s (.inl none, o) := by
  unfold dm103_52 at h
  obtain ⟨d, rfl⟩ : ∃ e, d = e + 1 := ⟨d - 1, by omega⟩
  refine Q.run zm103 1 (i' := 53) (ls' := [some (.ref 106), some (.int x1)]) (st' := [.ref 106]) rfl ?_
  obtain ⟨s3, hc2, h⟩ := bu_so h
  have hq1 : Q 1 sio tt cc d 120 0 [some (.ref 106), none, none, none] [] s (.inl none, s3) := dt120 (by omega) hl  hc2
  refine Q.callV (gC_vi zm103 (show zM103.2.2.2.2.2[53]? = some (169, 3, .invokevirtual 135, [0, 120, 0, 4]) from rfl) zm120 (hl.lt (a := 106) (by decide)) (hl.T (a := 106) (p := (4, 13)) 28 rfl rfl) rfl (show aCr 0 106 [.ref 106] 4 = some ([some (.ref 106), none, none, none], []) from rfl)) hq1 ?_
  refine Q.run zm103 1 (i' := 65) (ls' := [some (.ref 106), some (.int x1)]) (st' := []) rfl ?_
  cases h
  exact Q.ret (A.rv zm103 (show zM103.2.2.2.2.2[65]? = some (197, 1, .return_, []) from rfl) rfl) hq1.1
def dm103_44 (y1 : Int32) (s : aS) : Option (aS) :=
  bu (dm119 y1 s) fun s3 =>
  some s3
set_option maxRecDepth 100000 in
theorem dt103_44 {sio : Bool} {tt : Nat} {cc : Nat → Nat → Int32} {d : Nat} (hd : 8 ≤ d) {y1 : Int32} {x1 : Int32} {s : aS} (hl : Ly tt cc s) {o : aS} (h : dm103_44  y1 s = some o) : Q 1 sio tt cc d 103 44 [some (.ref 106), some (.int x1)] [.int y1, .ref 106] s (.inl none, o) := by
  unfold dm103_44 at h
  obtain ⟨d, rfl⟩ : ∃ e, d = e + 1 := ⟨d - 1, by omega⟩
  obtain ⟨s3, hc2, h⟩ := bu_so h
  have hq1 : Q 1 sio tt cc d 119 0 [some (.ref 106), some (.int y1)] [] s (.inl none, s3) := dt119 (by omega) hl  hc2
  refine Q.callV (gC_vi zm103 (show zM103.2.2.2.2.2[44]? = some (149, 3, .invokevirtual 125, [0, 119, 1, 4]) from rfl) zm119 (hl.lt (a := 106) (by decide)) (hl.T (a := 106) (p := (4, 13)) 28 rfl rfl) rfl (show aCr 1 106 [.int y1, .ref 106] 2 = some ([some (.ref 106), some (.int y1)], []) from rfl)) hq1 ?_
  refine Q.run zm103 1 (i' := 65) (ls' := [some (.ref 106), some (.int x1)]) (st' := []) rfl ?_
  cases h
  exact Q.ret (A.rv zm103 (show zM103.2.2.2.2.2[65]? = some (197, 1, .return_, []) from rfl) rfl) hq1.1
def dm103 (x1 : Int32) (s : aS) : Option (aS) :=
  if x1 = 34 then
    bu (dm104 s) fun s4 =>
    some s4
  else
    if x1 = 35 then
      bu (dm108 s) fun s8 =>
      some s8
    else
      if x1 = 36 then
        bu (dm112 (sI s 106 7) (-1) s) fun s12 =>
        some s12
      else
        if x1 = 37 then
          bu (dm47 x1) fun r16 =>
          if r16 = 0 then
            if x1 = 46 then
              dm103_52 s
            else
              bu (dm44 x1) fun r21 =>
              if r21 = 0 then
                nx (wI s 106 8 (sI s 106 7)) fun s23 =>
                some s23
              else
                bu (dm123 s) fun s28 =>
                some s28
          else
            dm103_52 s
        else
          if x1 = 38 then
            bu (dm47 x1) fun r32 =>
            if r32 = 0 then
              if x1 = 46 then
                dm103_52 s
              else
                bu (dm44 x1) fun r37 =>
                if r37 = 0 then
                  nx (wI s 106 8 (sI s 106 7)) fun s39 =>
                  some s39
                else
                  bu (dm123 s) fun s44 =>
                  some s44
            else
              dm103_52 s
          else
            if x1 = 39 then
              bu (dm113 s) fun s48 =>
              some s48
            else
              if x1 = 40 then
                vN (sR s 106 6) (
                  none
                ) fun b51 =>
                  if aK s b51 3 then
                    bu (dm94 b51 s) fun r55 =>
                    bu (dm115 r55 (-1) s) fun s58 =>
                    some s58
                  else none
              else
                if x1 = 41 then
                  if x1 = 41 then
                    dm103_44 1 s
                  else
                    dm103_44 0 s
                else
                  if x1 = 42 then
                    bu (dm47 x1) fun r65 =>
                    if r65 = 0 then
                      if x1 = 46 then
                        dm103_52 s
                      else
                        bu (dm44 x1) fun r70 =>
                        if r70 = 0 then
                          nx (wI s 106 8 (sI s 106 7)) fun s72 =>
                          some s72
                        else
                          bu (dm123 s) fun s77 =>
                          some s77
                    else
                      dm103_52 s
                  else
                    if x1 = 43 then
                      nx (wI s 106 7 ((sI s 106 7) + 1)) fun s79 =>
                      nx (wI s79 106 9 1) fun s82 =>
                      some s82
                    else
                      if x1 = 44 then
                        if x1 = 41 then
                          dm103_44 1 s
                        else
                          dm103_44 0 s
                      else
                        if x1 = 45 then
                          bu (dm118 s) fun s90 =>
                          some s90
                        else
                          bu (dm47 x1) fun r93 =>
                          if r93 = 0 then
                            if x1 = 46 then
                              dm103_52 s
                            else
                              bu (dm44 x1) fun r98 =>
                              if r98 = 0 then
                                nx (wI s 106 8 (sI s 106 7)) fun s100 =>
                                some s100
                              else
                                bu (dm123 s) fun s105 =>
                                some s105
                          else
                            dm103_52 s
set_option maxRecDepth 100000 in
theorem dt103 {sio : Bool} {tt : Nat} {cc : Nat → Nat → Int32} {d : Nat} (hd : 8 ≤ d) {x1 : Int32} {s : aS} (hl : Ly tt cc s) {o : aS} (h : dm103  x1 s = some o) : Q 1 sio tt cc d 103 0 [some (.ref 106), some (.int x1)] [] s (.inl none, o) := by
  unfold dm103 at h
  obtain ⟨d, rfl⟩ : ∃ e, d = e + 1 := ⟨d - 1, by omega⟩
  refine Q.run zm103 1 (i' := 1) (ls' := [some (.ref 106), some (.int x1)]) (st' := [.int x1]) rfl ?_
  by_cases hc1 : x1 = 34
  · rw [if_pos hc1] at h
    refine Q.map (A.ts (gI_of zm103 (e := (1, 63, .tableswitch 154 34 45 #[63, 70, 77, 154, 154, 89, 96, 136, 154, 111, 136, 129], [46, 2, 5, 8, 46, 46, 14, 17, 37, 46, 24, 37, 34])) rfl) (t := 2) (by rw [hc1] <;> decide)) ?_
    refine Q.run zm103 1 (i' := 3) (ls' := [some (.ref 106), some (.int x1)]) (st' := [.ref 106]) rfl ?_
    obtain ⟨s4, hc3, h⟩ := bu_so h
    have hq2 : Q 1 sio tt cc d 104 0 [some (.ref 106), none] [] s (.inl none, s4) := dt104 (by omega) hl  hc3
    refine Q.callV (gC_vi zm103 (show zM103.2.2.2.2.2[3]? = some (65, 3, .invokevirtual 103, [0, 104, 0, 4]) from rfl) zm104 (hl.lt (a := 106) (by decide)) (hl.T (a := 106) (p := (4, 13)) 28 rfl rfl) rfl (show aCr 0 106 [.ref 106] 2 = some ([some (.ref 106), none], []) from rfl)) hq2 ?_
    refine Q.run zm103 1 (i' := 65) (ls' := [some (.ref 106), some (.int x1)]) (st' := []) rfl ?_
    cases h
    exact Q.ret (A.rv zm103 (show zM103.2.2.2.2.2[65]? = some (197, 1, .return_, []) from rfl) rfl) hq2.1
  · rw [if_neg hc1] at h
    by_cases hc5 : x1 = 35
    · rw [if_pos hc5] at h
      refine Q.map (A.ts (gI_of zm103 (e := (1, 63, .tableswitch 154 34 45 #[63, 70, 77, 154, 154, 89, 96, 136, 154, 111, 136, 129], [46, 2, 5, 8, 46, 46, 14, 17, 37, 46, 24, 37, 34])) rfl) (t := 5) (by rw [hc5] <;> decide)) ?_
      refine Q.run zm103 1 (i' := 6) (ls' := [some (.ref 106), some (.int x1)]) (st' := [.ref 106]) rfl ?_
      obtain ⟨s8, hc7, h⟩ := bu_so h
      have hq6 : Q 1 sio tt cc d 108 0 [some (.ref 106), none, none, none, none] [] s (.inl none, s8) := dt108 (by omega) hl  hc7
      refine Q.callV (gC_vi zm103 (show zM103.2.2.2.2.2[6]? = some (72, 3, .invokevirtual 106, [0, 108, 0, 4]) from rfl) zm108 (hl.lt (a := 106) (by decide)) (hl.T (a := 106) (p := (4, 13)) 28 rfl rfl) rfl (show aCr 0 106 [.ref 106] 5 = some ([some (.ref 106), none, none, none, none], []) from rfl)) hq6 ?_
      refine Q.run zm103 1 (i' := 65) (ls' := [some (.ref 106), some (.int x1)]) (st' := []) rfl ?_
      cases h
      exact Q.ret (A.rv zm103 (show zM103.2.2.2.2.2[65]? = some (197, 1, .return_, []) from rfl) rfl) hq6.1
    · rw [if_neg hc5] at h
      by_cases hc9 : x1 = 36
      · rw [if_pos hc9] at h
        refine Q.map (A.ts (gI_of zm103 (e := (1, 63, .tableswitch 154 34 45 #[63, 70, 77, 154, 154, 89, 96, 136, 154, 111, 136, 129], [46, 2, 5, 8, 46, 46, 14, 17, 37, 46, 24, 37, 34])) rfl) (t := 8) (by rw [hc9] <;> decide)) ?_
        refine Q.run zm103 2 (i' := 10) (ls' := [some (.ref 106), some (.int x1)]) (st' := [.ref 106, .ref 106]) rfl ?_
        refine Q.map (A.gf (gI_of zm103 (e := (80, 3, .getfield 61, [4, 7])) rfl) (hl.lt (a := 106) (by decide)) (hl.T (a := 106) (p := (4, 13)) 28 rfl rfl) (by decide) rfl) ?_
        refine Q.run zm103 1 (i' := 12) (ls' := [some (.ref 106), some (.int x1)]) (st' := [.int (-1), .int (sI s 106 7), .ref 106]) rfl ?_
        obtain ⟨s12, hc11, h⟩ := bu_so h
        have hq10 : Q 1 sio tt cc d 112 0 [some (.ref 106), some (.int (sI s 106 7)), some (.int (-1))] [] s (.inl none, s12) := dt112 (by omega) hl  hc11
        refine Q.callV (gC_vi zm103 (show zM103.2.2.2.2.2[12]? = some (84, 3, .invokevirtual 109, [0, 112, 2, 4]) from rfl) zm112 (hl.lt (a := 106) (by decide)) (hl.T (a := 106) (p := (4, 13)) 28 rfl rfl) rfl (show aCr 2 106 [.int (-1), .int (sI s 106 7), .ref 106] 3 = some ([some (.ref 106), some (.int (sI s 106 7)), some (.int (-1))], []) from rfl)) hq10 ?_
        refine Q.run zm103 1 (i' := 65) (ls' := [some (.ref 106), some (.int x1)]) (st' := []) rfl ?_
        cases h
        exact Q.ret (A.rv zm103 (show zM103.2.2.2.2.2[65]? = some (197, 1, .return_, []) from rfl) rfl) hq10.1
      · rw [if_neg hc9] at h
        by_cases hc13 : x1 = 37
        · rw [if_pos hc13] at h
          refine Q.map (A.ts (gI_of zm103 (e := (1, 63, .tableswitch 154 34 45 #[63, 70, 77, 154, 154, 89, 96, 136, 154, 111, 136, 129], [46, 2, 5, 8, 46, 46, 14, 17, 37, 46, 24, 37, 34])) rfl) (t := 46) (by rw [hc13] <;> decide)) ?_
          refine Q.run zm103 1 (i' := 47) (ls' := [some (.ref 106), some (.int x1)]) (st' := [.int x1]) rfl ?_
          obtain ⟨r16, hc15, h⟩ := bu_so h
          have hq14 : Q 1 sio tt cc d 47 0 [some (.int x1)] [] s (.inl (some (.int r16)), s) := dt47 (by omega) hl  hc15
          refine Q.callI (gC_st zm103 (show zM103.2.2.2.2.2[47]? = some (156, 3, .invokestatic 129, [0, 47, 1]) from rfl) zm47 (show aC 1 [.int x1] 1 = some ([some (.int x1)], []) from rfl)) hq14 ?_
          by_cases hc17 : r16 = 0
          · rw [if_pos hc17] at h
            refine Q.map (A.zF (gI_of zm103 (e := (159, 3, .ifCond .ne 9, [52])) rfl) (fun q => of_decide_eq_true q hc17)) ?_
            refine Q.run zm103 2 (i' := 51) (ls' := [some (.ref 106), some (.int x1)]) (st' := [.int 46, .int x1]) rfl ?_
            by_cases hc18 : x1 = 46
            · rw [if_pos hc18] at h
              refine Q.map (A.bF (gI_of zm103 (e := (165, 3, .if_icmp .ne 10, [55])) rfl) (fun q => of_decide_eq_true q hc18)) ?_
              exact dt103_52 hd hl  h
            · rw [if_neg hc18] at h
              refine Q.map (A.bT (gI_of zm103 (e := (165, 3, .if_icmp .ne 10, [55])) rfl) (decide_eq_true hc18)) ?_
              refine Q.run zm103 1 (i' := 56) (ls' := [some (.ref 106), some (.int x1)]) (st' := [.int x1]) rfl ?_
              obtain ⟨r21, hc20, h⟩ := bu_so h
              have hq19 : Q 1 sio tt cc d 44 0 [some (.int x1)] [] s (.inl (some (.int r21)), s) := dt44 (by omega) hl  hc20
              refine Q.callI (gC_st zm103 (show zM103.2.2.2.2.2[56]? = some (176, 3, .invokestatic 138, [0, 44, 1]) from rfl) zm44 (show aC 1 [.int x1] 1 = some ([some (.int x1)], []) from rfl)) hq19 ?_
              by_cases hc22 : r21 = 0
              · rw [if_pos hc22] at h
                refine Q.map (A.zT (gI_of zm103 (e := (179, 3, .ifCond .eq 10, [61])) rfl) (decide_eq_true hc22)) ?_
                refine Q.run zm103 2 (i' := 63) (ls' := [some (.ref 106), some (.int x1)]) (st' := [.ref 106, .ref 106]) rfl ?_
                refine Q.map (A.gf (gI_of zm103 (e := (191, 3, .getfield 61, [4, 7])) rfl) (hl.lt (a := 106) (by decide)) (hl.T (a := 106) (p := (4, 13)) 28 rfl rfl) (by decide) rfl) ?_
                obtain ⟨s23, hs24, h⟩ := nx_so h
                refine Q.pf hs24 rfl (gI_of zm103 (e := (194, 3, .putfield 65, [4, 8, 0])) rfl) (hl.lt (a := 106) (by decide)) (by decide) (hl.T (a := 106) (p := (4, 13)) 28 rfl rfl) (by decide) rfl rfl ?_
                have hl25 : Ly tt cc s23 := by rw [hs24]; exact hl.wId (by decide)
                cases h
                exact Q.ret (A.rv zm103 (show zM103.2.2.2.2.2[65]? = some (197, 1, .return_, []) from rfl) rfl) hl25
              · rw [if_neg hc22] at h
                refine Q.map (A.zF (gI_of zm103 (e := (179, 3, .ifCond .eq 10, [61])) rfl) (fun q => hc22 (of_decide_eq_true q))) ?_
                refine Q.run zm103 1 (i' := 59) (ls' := [some (.ref 106), some (.int x1)]) (st' := [.ref 106]) rfl ?_
                obtain ⟨s28, hc27, h⟩ := bu_so h
                have hq26 : Q 1 sio tt cc d 123 0 [some (.ref 106), none, none, none, none] [] s (.inl none, s28) := dt123 (by omega) hl  hc27
                refine Q.callV (gC_vi zm103 (show zM103.2.2.2.2.2[59]? = some (183, 3, .invokevirtual 141, [0, 123, 0, 4]) from rfl) zm123 (hl.lt (a := 106) (by decide)) (hl.T (a := 106) (p := (4, 13)) 28 rfl rfl) rfl (show aCr 0 106 [.ref 106] 5 = some ([some (.ref 106), none, none, none, none], []) from rfl)) hq26 ?_
                refine Q.run zm103 1 (i' := 65) (ls' := [some (.ref 106), some (.int x1)]) (st' := []) rfl ?_
                cases h
                exact Q.ret (A.rv zm103 (show zM103.2.2.2.2.2[65]? = some (197, 1, .return_, []) from rfl) rfl) hq26.1
          · rw [if_neg hc17] at h
            refine Q.map (A.zT (gI_of zm103 (e := (159, 3, .ifCond .ne 9, [52])) rfl) (decide_eq_true hc17)) ?_
            exact dt103_52 hd hl  h
        · rw [if_neg hc13] at h
          by_cases hc29 : x1 = 38
          · rw [if_pos hc29] at h
            refine Q.map (A.ts (gI_of zm103 (e := (1, 63, .tableswitch 154 34 45 #[63, 70, 77, 154, 154, 89, 96, 136, 154, 111, 136, 129], [46, 2, 5, 8, 46, 46, 14, 17, 37, 46, 24, 37, 34])) rfl) (t := 46) (by rw [hc29] <;> decide)) ?_
            refine Q.run zm103 1 (i' := 47) (ls' := [some (.ref 106), some (.int x1)]) (st' := [.int x1]) rfl ?_
            obtain ⟨r32, hc31, h⟩ := bu_so h
            have hq30 : Q 1 sio tt cc d 47 0 [some (.int x1)] [] s (.inl (some (.int r32)), s) := dt47 (by omega) hl  hc31
            refine Q.callI (gC_st zm103 (show zM103.2.2.2.2.2[47]? = some (156, 3, .invokestatic 129, [0, 47, 1]) from rfl) zm47 (show aC 1 [.int x1] 1 = some ([some (.int x1)], []) from rfl)) hq30 ?_
            by_cases hc33 : r32 = 0
            · rw [if_pos hc33] at h
              refine Q.map (A.zF (gI_of zm103 (e := (159, 3, .ifCond .ne 9, [52])) rfl) (fun q => of_decide_eq_true q hc33)) ?_
              refine Q.run zm103 2 (i' := 51) (ls' := [some (.ref 106), some (.int x1)]) (st' := [.int 46, .int x1]) rfl ?_
              by_cases hc34 : x1 = 46
              · rw [if_pos hc34] at h
                refine Q.map (A.bF (gI_of zm103 (e := (165, 3, .if_icmp .ne 10, [55])) rfl) (fun q => of_decide_eq_true q hc34)) ?_
                exact dt103_52 hd hl  h
              · rw [if_neg hc34] at h
                refine Q.map (A.bT (gI_of zm103 (e := (165, 3, .if_icmp .ne 10, [55])) rfl) (decide_eq_true hc34)) ?_
                refine Q.run zm103 1 (i' := 56) (ls' := [some (.ref 106), some (.int x1)]) (st' := [.int x1]) rfl ?_
                obtain ⟨r37, hc36, h⟩ := bu_so h
                have hq35 : Q 1 sio tt cc d 44 0 [some (.int x1)] [] s (.inl (some (.int r37)), s) := dt44 (by omega) hl  hc36
                refine Q.callI (gC_st zm103 (show zM103.2.2.2.2.2[56]? = some (176, 3, .invokestatic 138, [0, 44, 1]) from rfl) zm44 (show aC 1 [.int x1] 1 = some ([some (.int x1)], []) from rfl)) hq35 ?_
                by_cases hc38 : r37 = 0
                · rw [if_pos hc38] at h
                  refine Q.map (A.zT (gI_of zm103 (e := (179, 3, .ifCond .eq 10, [61])) rfl) (decide_eq_true hc38)) ?_
                  refine Q.run zm103 2 (i' := 63) (ls' := [some (.ref 106), some (.int x1)]) (st' := [.ref 106, .ref 106]) rfl ?_
                  refine Q.map (A.gf (gI_of zm103 (e := (191, 3, .getfield 61, [4, 7])) rfl) (hl.lt (a := 106) (by decide)) (hl.T (a := 106) (p := (4, 13)) 28 rfl rfl) (by decide) rfl) ?_
                  obtain ⟨s39, hs40, h⟩ := nx_so h
                  refine Q.pf hs40 rfl (gI_of zm103 (e := (194, 3, .putfield 65, [4, 8, 0])) rfl) (hl.lt (a := 106) (by decide)) (by decide) (hl.T (a := 106) (p := (4, 13)) 28 rfl rfl) (by decide) rfl rfl ?_
                  have hl41 : Ly tt cc s39 := by rw [hs40]; exact hl.wId (by decide)
                  cases h
                  exact Q.ret (A.rv zm103 (show zM103.2.2.2.2.2[65]? = some (197, 1, .return_, []) from rfl) rfl) hl41
                · rw [if_neg hc38] at h
                  refine Q.map (A.zF (gI_of zm103 (e := (179, 3, .ifCond .eq 10, [61])) rfl) (fun q => hc38 (of_decide_eq_true q))) ?_
                  refine Q.run zm103 1 (i' := 59) (ls' := [some (.ref 106), some (.int x1)]) (st' := [.ref 106]) rfl ?_
                  obtain ⟨s44, hc43, h⟩ := bu_so h
                  have hq42 : Q 1 sio tt cc d 123 0 [some (.ref 106), none, none, none, none] [] s (.inl none, s44) := dt123 (by omega) hl  hc43
                  refine Q.callV (gC_vi zm103 (show zM103.2.2.2.2.2[59]? = some (183, 3, .invokevirtual 141, [0, 123, 0, 4]) from rfl) zm123 (hl.lt (a := 106) (by decide)) (hl.T (a := 106) (p := (4, 13)) 28 rfl rfl) rfl (show aCr 0 106 [.ref 106] 5 = some ([some (.ref 106), none, none, none, none], []) from rfl)) hq42 ?_
                  refine Q.run zm103 1 (i' := 65) (ls' := [some (.ref 106), some (.int x1)]) (st' := []) rfl ?_
                  cases h
                  exact Q.ret (A.rv zm103 (show zM103.2.2.2.2.2[65]? = some (197, 1, .return_, []) from rfl) rfl) hq42.1
            · rw [if_neg hc33] at h
              refine Q.map (A.zT (gI_of zm103 (e := (159, 3, .ifCond .ne 9, [52])) rfl) (decide_eq_true hc33)) ?_
              exact dt103_52 hd hl  h
          · rw [if_neg hc29] at h
            by_cases hc45 : x1 = 39
            · rw [if_pos hc45] at h
              refine Q.map (A.ts (gI_of zm103 (e := (1, 63, .tableswitch 154 34 45 #[63, 70, 77, 154, 154, 89, 96, 136, 154, 111, 136, 129], [46, 2, 5, 8, 46, 46, 14, 17, 37, 46, 24, 37, 34])) rfl) (t := 14) (by rw [hc45] <;> decide)) ?_
              refine Q.run zm103 1 (i' := 15) (ls' := [some (.ref 106), some (.int x1)]) (st' := [.ref 106]) rfl ?_
              obtain ⟨s48, hc47, h⟩ := bu_so h
              have hq46 : Q 1 sio tt cc d 113 0 [some (.ref 106), none] [] s (.inl none, s48) := dt113 (by omega) hl  hc47
              refine Q.callV (gC_vi zm103 (show zM103.2.2.2.2.2[15]? = some (91, 3, .invokevirtual 113, [0, 113, 0, 4]) from rfl) zm113 (hl.lt (a := 106) (by decide)) (hl.T (a := 106) (p := (4, 13)) 28 rfl rfl) rfl (show aCr 0 106 [.ref 106] 2 = some ([some (.ref 106), none], []) from rfl)) hq46 ?_
              refine Q.run zm103 1 (i' := 65) (ls' := [some (.ref 106), some (.int x1)]) (st' := []) rfl ?_
              cases h
              exact Q.ret (A.rv zm103 (show zM103.2.2.2.2.2[65]? = some (197, 1, .return_, []) from rfl) rfl) hq46.1
            · rw [if_neg hc45] at h
              by_cases hc49 : x1 = 40
              · rw [if_pos hc49] at h
                refine Q.map (A.ts (gI_of zm103 (e := (1, 63, .tableswitch 154 34 45 #[63, 70, 77, 154, 154, 89, 96, 136, 154, 111, 136, 129], [46, 2, 5, 8, 46, 46, 14, 17, 37, 46, 24, 37, 34])) rfl) (t := 17) (by rw [hc49] <;> decide)) ?_
                refine Q.run zm103 2 (i' := 19) (ls' := [some (.ref 106), some (.int x1)]) (st' := [.ref 106, .ref 106]) rfl ?_
                rcases vN_so h with ⟨hv50, h⟩ | ⟨b51, hv50, h⟩
                · refine Q.map (A.gf (gI_of zm103 (e := (99, 3, .getfield 48, [4, 6])) rfl) (hl.lt (a := 106) (by decide)) (hl.T (a := 106) (p := (4, 13)) 28 rfl rfl) (by decide) hv50) ?_
                  cases h
                · obtain ⟨hr52, h⟩ := ite_so h
                  refine Q.map (A.gf (gI_of zm103 (e := (99, 3, .getfield 48, [4, 6])) rfl) (hl.lt (a := 106) (by decide)) (hl.T (a := 106) (p := (4, 13)) 28 rfl rfl) (by decide) hv50) ?_
                  obtain ⟨r55, hc54, h⟩ := bu_so h
                  have hq53 : Q 1 sio tt cc d 94 0 [some (.ref b51)] [] s (.inl (some (.int r55)), s) := dt94 (by omega) hl hr52 hc54
                  refine Q.callI (gC_vi zm103 (show zM103.2.2.2.2.2[20]? = some (102, 3, .invokevirtual 116, [0, 94, 0, 3]) from rfl) zm94 hr52.1 (hl.tr hr52).1 rfl (show aCr 0 b51 [.ref b51, .ref 106] 1 = some ([some (.ref b51)], [.ref 106]) from rfl)) hq53 ?_
                  refine Q.run zm103 1 (i' := 22) (ls' := [some (.ref 106), some (.int x1)]) (st' := [.int (-1), .int r55, .ref 106]) rfl ?_
                  obtain ⟨s58, hc57, h⟩ := bu_so h
                  have hq56 : Q 1 sio tt cc d 115 0 [some (.ref 106), some (.int r55), some (.int (-1))] [] s (.inl none, s58) := dt115 (by omega) hl  hc57
                  refine Q.callV (gC_vi zm103 (show zM103.2.2.2.2.2[22]? = some (106, 3, .invokevirtual 119, [0, 115, 2, 4]) from rfl) zm115 (hl.lt (a := 106) (by decide)) (hl.T (a := 106) (p := (4, 13)) 28 rfl rfl) rfl (show aCr 2 106 [.int (-1), .int r55, .ref 106] 3 = some ([some (.ref 106), some (.int r55), some (.int (-1))], []) from rfl)) hq56 ?_
                  have hr59 : aK s58 b51 3 := hq56.2.1.k hr52
                  refine Q.run zm103 1 (i' := 65) (ls' := [some (.ref 106), some (.int x1)]) (st' := []) rfl ?_
                  cases h
                  exact Q.ret (A.rv zm103 (show zM103.2.2.2.2.2[65]? = some (197, 1, .return_, []) from rfl) rfl) hq56.1
              · rw [if_neg hc49] at h
                by_cases hc60 : x1 = 41
                · rw [if_pos hc60] at h
                  refine Q.map (A.ts (gI_of zm103 (e := (1, 63, .tableswitch 154 34 45 #[63, 70, 77, 154, 154, 89, 96, 136, 154, 111, 136, 129], [46, 2, 5, 8, 46, 46, 14, 17, 37, 46, 24, 37, 34])) rfl) (t := 37) (by rw [hc60] <;> decide)) ?_
                  refine Q.run zm103 3 (i' := 40) (ls' := [some (.ref 106), some (.int x1)]) (st' := [.int 41, .int x1, .ref 106]) rfl ?_
                  by_cases hc61 : x1 = 41
                  · rw [if_pos hc61] at h
                    refine Q.map (A.bF (gI_of zm103 (e := (141, 3, .if_icmp .ne 7, [43])) rfl) (fun q => of_decide_eq_true q hc61)) ?_
                    refine Q.run zm103 2 (i' := 44) (ls' := [some (.ref 106), some (.int x1)]) (st' := [.int 1, .ref 106]) rfl ?_
                    exact dt103_44 hd hl  h
                  · rw [if_neg hc61] at h
                    refine Q.map (A.bT (gI_of zm103 (e := (141, 3, .if_icmp .ne 7, [43])) rfl) (decide_eq_true hc61)) ?_
                    refine Q.run zm103 1 (i' := 44) (ls' := [some (.ref 106), some (.int x1)]) (st' := [.int 0, .ref 106]) rfl ?_
                    exact dt103_44 hd hl  h
                · rw [if_neg hc60] at h
                  by_cases hc62 : x1 = 42
                  · rw [if_pos hc62] at h
                    refine Q.map (A.ts (gI_of zm103 (e := (1, 63, .tableswitch 154 34 45 #[63, 70, 77, 154, 154, 89, 96, 136, 154, 111, 136, 129], [46, 2, 5, 8, 46, 46, 14, 17, 37, 46, 24, 37, 34])) rfl) (t := 46) (by rw [hc62] <;> decide)) ?_
                    refine Q.run zm103 1 (i' := 47) (ls' := [some (.ref 106), some (.int x1)]) (st' := [.int x1]) rfl ?_
                    obtain ⟨r65, hc64, h⟩ := bu_so h
                    have hq63 : Q 1 sio tt cc d 47 0 [some (.int x1)] [] s (.inl (some (.int r65)), s) := dt47 (by omega) hl  hc64
                    refine Q.callI (gC_st zm103 (show zM103.2.2.2.2.2[47]? = some (156, 3, .invokestatic 129, [0, 47, 1]) from rfl) zm47 (show aC 1 [.int x1] 1 = some ([some (.int x1)], []) from rfl)) hq63 ?_
                    by_cases hc66 : r65 = 0
                    · rw [if_pos hc66] at h
                      refine Q.map (A.zF (gI_of zm103 (e := (159, 3, .ifCond .ne 9, [52])) rfl) (fun q => of_decide_eq_true q hc66)) ?_
                      refine Q.run zm103 2 (i' := 51) (ls' := [some (.ref 106), some (.int x1)]) (st' := [.int 46, .int x1]) rfl ?_
                      by_cases hc67 : x1 = 46
                      · rw [if_pos hc67] at h
                        refine Q.map (A.bF (gI_of zm103 (e := (165, 3, .if_icmp .ne 10, [55])) rfl) (fun q => of_decide_eq_true q hc67)) ?_
                        exact dt103_52 hd hl  h
                      · rw [if_neg hc67] at h
                        refine Q.map (A.bT (gI_of zm103 (e := (165, 3, .if_icmp .ne 10, [55])) rfl) (decide_eq_true hc67)) ?_
                        refine Q.run zm103 1 (i' := 56) (ls' := [some (.ref 106), some (.int x1)]) (st' := [.int x1]) rfl ?_
                        obtain ⟨r70, hc69, h⟩ := bu_so h
                        have hq68 : Q 1 sio tt cc d 44 0 [some (.int x1)] [] s (.inl (some (.int r70)), s) := dt44 (by omega) hl  hc69
                        refine Q.callI (gC_st zm103 (show zM103.2.2.2.2.2[56]? = some (176, 3, .invokestatic 138, [0, 44, 1]) from rfl) zm44 (show aC 1 [.int x1] 1 = some ([some (.int x1)], []) from rfl)) hq68 ?_
                        by_cases hc71 : r70 = 0
                        · rw [if_pos hc71] at h
                          refine Q.map (A.zT (gI_of zm103 (e := (179, 3, .ifCond .eq 10, [61])) rfl) (decide_eq_true hc71)) ?_
                          refine Q.run zm103 2 (i' := 63) (ls' := [some (.ref 106), some (.int x1)]) (st' := [.ref 106, .ref 106]) rfl ?_
                          refine Q.map (A.gf (gI_of zm103 (e := (191, 3, .getfield 61, [4, 7])) rfl) (hl.lt (a := 106) (by decide)) (hl.T (a := 106) (p := (4, 13)) 28 rfl rfl) (by decide) rfl) ?_
                          obtain ⟨s72, hs73, h⟩ := nx_so h
                          refine Q.pf hs73 rfl (gI_of zm103 (e := (194, 3, .putfield 65, [4, 8, 0])) rfl) (hl.lt (a := 106) (by decide)) (by decide) (hl.T (a := 106) (p := (4, 13)) 28 rfl rfl) (by decide) rfl rfl ?_
                          have hl74 : Ly tt cc s72 := by rw [hs73]; exact hl.wId (by decide)
                          cases h
                          exact Q.ret (A.rv zm103 (show zM103.2.2.2.2.2[65]? = some (197, 1, .return_, []) from rfl) rfl) hl74
                        · rw [if_neg hc71] at h
                          refine Q.map (A.zF (gI_of zm103 (e := (179, 3, .ifCond .eq 10, [61])) rfl) (fun q => hc71 (of_decide_eq_true q))) ?_
                          refine Q.run zm103 1 (i' := 59) (ls' := [some (.ref 106), some (.int x1)]) (st' := [.ref 106]) rfl ?_
                          obtain ⟨s77, hc76, h⟩ := bu_so h
                          have hq75 : Q 1 sio tt cc d 123 0 [some (.ref 106), none, none, none, none] [] s (.inl none, s77) := dt123 (by omega) hl  hc76
                          refine Q.callV (gC_vi zm103 (show zM103.2.2.2.2.2[59]? = some (183, 3, .invokevirtual 141, [0, 123, 0, 4]) from rfl) zm123 (hl.lt (a := 106) (by decide)) (hl.T (a := 106) (p := (4, 13)) 28 rfl rfl) rfl (show aCr 0 106 [.ref 106] 5 = some ([some (.ref 106), none, none, none, none], []) from rfl)) hq75 ?_
                          refine Q.run zm103 1 (i' := 65) (ls' := [some (.ref 106), some (.int x1)]) (st' := []) rfl ?_
                          cases h
                          exact Q.ret (A.rv zm103 (show zM103.2.2.2.2.2[65]? = some (197, 1, .return_, []) from rfl) rfl) hq75.1
                    · rw [if_neg hc66] at h
                      refine Q.map (A.zT (gI_of zm103 (e := (159, 3, .ifCond .ne 9, [52])) rfl) (decide_eq_true hc66)) ?_
                      exact dt103_52 hd hl  h
                  · rw [if_neg hc62] at h
                    by_cases hc78 : x1 = 43
                    · rw [if_pos hc78] at h
                      refine Q.map (A.ts (gI_of zm103 (e := (1, 63, .tableswitch 154 34 45 #[63, 70, 77, 154, 154, 89, 96, 136, 154, 111, 136, 129], [46, 2, 5, 8, 46, 46, 14, 17, 37, 46, 24, 37, 34])) rfl) (t := 24) (by rw [hc78] <;> decide)) ?_
                      refine Q.run zm103 2 (i' := 26) (ls' := [some (.ref 106), some (.int x1)]) (st' := [.ref 106, .ref 106]) rfl ?_
                      refine Q.map (A.gf (gI_of zm103 (e := (114, 3, .getfield 61, [4, 7])) rfl) (hl.lt (a := 106) (by decide)) (hl.T (a := 106) (p := (4, 13)) 28 rfl rfl) (by decide) rfl) ?_
                      refine Q.run zm103 2 (i' := 29) (ls' := [some (.ref 106), some (.int x1)]) (st' := [.int ((sI s 106 7) + 1), .ref 106]) rfl ?_
                      obtain ⟨s79, hs80, h⟩ := nx_so h
                      refine Q.pf hs80 rfl (gI_of zm103 (e := (119, 3, .putfield 61, [4, 7, 0])) rfl) (hl.lt (a := 106) (by decide)) (by decide) (hl.T (a := 106) (p := (4, 13)) 28 rfl rfl) (by decide) rfl rfl ?_
                      have hl81 : Ly tt cc s79 := by rw [hs80]; exact hl.wId (by decide)
                      refine Q.run zm103 2 (i' := 32) (ls' := [some (.ref 106), some (.int x1)]) (st' := [.int 1, .ref 106]) rfl ?_
                      obtain ⟨s82, hs83, h⟩ := nx_so h
                      refine Q.pf hs83 rfl (gI_of zm103 (e := (124, 3, .putfield 68, [4, 9, 0])) rfl) (hl81.lt (a := 106) (by decide)) (by decide) (hl81.T (a := 106) (p := (4, 13)) 28 rfl rfl) (by decide) rfl rfl ?_
                      have hl84 : Ly tt cc s82 := by rw [hs83]; exact hl81.wId (by decide)
                      refine Q.run zm103 1 (i' := 65) (ls' := [some (.ref 106), some (.int x1)]) (st' := []) rfl ?_
                      cases h
                      exact Q.ret (A.rv zm103 (show zM103.2.2.2.2.2[65]? = some (197, 1, .return_, []) from rfl) rfl) hl84
                    · rw [if_neg hc78] at h
                      by_cases hc85 : x1 = 44
                      · rw [if_pos hc85] at h
                        refine Q.map (A.ts (gI_of zm103 (e := (1, 63, .tableswitch 154 34 45 #[63, 70, 77, 154, 154, 89, 96, 136, 154, 111, 136, 129], [46, 2, 5, 8, 46, 46, 14, 17, 37, 46, 24, 37, 34])) rfl) (t := 37) (by rw [hc85] <;> decide)) ?_
                        refine Q.run zm103 3 (i' := 40) (ls' := [some (.ref 106), some (.int x1)]) (st' := [.int 41, .int x1, .ref 106]) rfl ?_
                        by_cases hc86 : x1 = 41
                        · rw [if_pos hc86] at h
                          refine Q.map (A.bF (gI_of zm103 (e := (141, 3, .if_icmp .ne 7, [43])) rfl) (fun q => of_decide_eq_true q hc86)) ?_
                          refine Q.run zm103 2 (i' := 44) (ls' := [some (.ref 106), some (.int x1)]) (st' := [.int 1, .ref 106]) rfl ?_
                          exact dt103_44 hd hl  h
                        · rw [if_neg hc86] at h
                          refine Q.map (A.bT (gI_of zm103 (e := (141, 3, .if_icmp .ne 7, [43])) rfl) (decide_eq_true hc86)) ?_
                          refine Q.run zm103 1 (i' := 44) (ls' := [some (.ref 106), some (.int x1)]) (st' := [.int 0, .ref 106]) rfl ?_
                          exact dt103_44 hd hl  h
                      · rw [if_neg hc85] at h
                        by_cases hc87 : x1 = 45
                        · rw [if_pos hc87] at h
                          refine Q.map (A.ts (gI_of zm103 (e := (1, 63, .tableswitch 154 34 45 #[63, 70, 77, 154, 154, 89, 96, 136, 154, 111, 136, 129], [46, 2, 5, 8, 46, 46, 14, 17, 37, 46, 24, 37, 34])) rfl) (t := 34) (by rw [hc87] <;> decide)) ?_
                          refine Q.run zm103 1 (i' := 35) (ls' := [some (.ref 106), some (.int x1)]) (st' := [.ref 106]) rfl ?_
                          obtain ⟨s90, hc89, h⟩ := bu_so h
                          have hq88 : Q 1 sio tt cc d 118 0 [some (.ref 106)] [] s (.inl none, s90) := dt118 (by omega) hl  hc89
                          refine Q.callV (gC_vi zm103 (show zM103.2.2.2.2.2[35]? = some (131, 3, .invokevirtual 122, [0, 118, 0, 4]) from rfl) zm118 (hl.lt (a := 106) (by decide)) (hl.T (a := 106) (p := (4, 13)) 28 rfl rfl) rfl (show aCr 0 106 [.ref 106] 1 = some ([some (.ref 106)], []) from rfl)) hq88 ?_
                          refine Q.run zm103 1 (i' := 65) (ls' := [some (.ref 106), some (.int x1)]) (st' := []) rfl ?_
                          cases h
                          exact Q.ret (A.rv zm103 (show zM103.2.2.2.2.2[65]? = some (197, 1, .return_, []) from rfl) rfl) hq88.1
                        · rw [if_neg hc87] at h
                          refine Q.map (A.ts (gI_of zm103 (e := (1, 63, .tableswitch 154 34 45 #[63, 70, 77, 154, 154, 89, 96, 136, 154, 111, 136, 129], [46, 2, 5, 8, 46, 46, 14, 17, 37, 46, 24, 37, 34])) rfl) (t := 46) (by have := (show x1.toInt ≠ 34 ∧ x1.toInt ≠ 35 ∧ x1.toInt ≠ 36 ∧ x1.toInt ≠ 37 ∧ x1.toInt ≠ 38 ∧ x1.toInt ≠ 39 ∧ x1.toInt ≠ 40 ∧ x1.toInt ≠ 41 ∧ x1.toInt ≠ 42 ∧ x1.toInt ≠ 43 ∧ x1.toInt ≠ 44 ∧ x1.toInt ≠ 45 from ⟨i32_ne (n := 34) hc1 (by decide), i32_ne (n := 35) hc5 (by decide), i32_ne (n := 36) hc9 (by decide), i32_ne (n := 37) hc13 (by decide), i32_ne (n := 38) hc29 (by decide), i32_ne (n := 39) hc45 (by decide), i32_ne (n := 40) hc49 (by decide), i32_ne (n := 41) hc60 (by decide), i32_ne (n := 42) hc62 (by decide), i32_ne (n := 43) hc78 (by decide), i32_ne (n := 44) hc85 (by decide), i32_ne (n := 45) hc87 (by decide)⟩); rw [if_pos]; omega)) ?_
                          refine Q.run zm103 1 (i' := 47) (ls' := [some (.ref 106), some (.int x1)]) (st' := [.int x1]) rfl ?_
                          obtain ⟨r93, hc92, h⟩ := bu_so h
                          have hq91 : Q 1 sio tt cc d 47 0 [some (.int x1)] [] s (.inl (some (.int r93)), s) := dt47 (by omega) hl  hc92
                          refine Q.callI (gC_st zm103 (show zM103.2.2.2.2.2[47]? = some (156, 3, .invokestatic 129, [0, 47, 1]) from rfl) zm47 (show aC 1 [.int x1] 1 = some ([some (.int x1)], []) from rfl)) hq91 ?_
                          by_cases hc94 : r93 = 0
                          · rw [if_pos hc94] at h
                            refine Q.map (A.zF (gI_of zm103 (e := (159, 3, .ifCond .ne 9, [52])) rfl) (fun q => of_decide_eq_true q hc94)) ?_
                            refine Q.run zm103 2 (i' := 51) (ls' := [some (.ref 106), some (.int x1)]) (st' := [.int 46, .int x1]) rfl ?_
                            by_cases hc95 : x1 = 46
                            · rw [if_pos hc95] at h
                              refine Q.map (A.bF (gI_of zm103 (e := (165, 3, .if_icmp .ne 10, [55])) rfl) (fun q => of_decide_eq_true q hc95)) ?_
                              exact dt103_52 hd hl  h
                            · rw [if_neg hc95] at h
                              refine Q.map (A.bT (gI_of zm103 (e := (165, 3, .if_icmp .ne 10, [55])) rfl) (decide_eq_true hc95)) ?_
                              refine Q.run zm103 1 (i' := 56) (ls' := [some (.ref 106), some (.int x1)]) (st' := [.int x1]) rfl ?_
                              obtain ⟨r98, hc97, h⟩ := bu_so h
                              have hq96 : Q 1 sio tt cc d 44 0 [some (.int x1)] [] s (.inl (some (.int r98)), s) := dt44 (by omega) hl  hc97
                              refine Q.callI (gC_st zm103 (show zM103.2.2.2.2.2[56]? = some (176, 3, .invokestatic 138, [0, 44, 1]) from rfl) zm44 (show aC 1 [.int x1] 1 = some ([some (.int x1)], []) from rfl)) hq96 ?_
                              by_cases hc99 : r98 = 0
                              · rw [if_pos hc99] at h
                                refine Q.map (A.zT (gI_of zm103 (e := (179, 3, .ifCond .eq 10, [61])) rfl) (decide_eq_true hc99)) ?_
                                refine Q.run zm103 2 (i' := 63) (ls' := [some (.ref 106), some (.int x1)]) (st' := [.ref 106, .ref 106]) rfl ?_
                                refine Q.map (A.gf (gI_of zm103 (e := (191, 3, .getfield 61, [4, 7])) rfl) (hl.lt (a := 106) (by decide)) (hl.T (a := 106) (p := (4, 13)) 28 rfl rfl) (by decide) rfl) ?_
                                obtain ⟨s100, hs101, h⟩ := nx_so h
                                refine Q.pf hs101 rfl (gI_of zm103 (e := (194, 3, .putfield 65, [4, 8, 0])) rfl) (hl.lt (a := 106) (by decide)) (by decide) (hl.T (a := 106) (p := (4, 13)) 28 rfl rfl) (by decide) rfl rfl ?_
                                have hl102 : Ly tt cc s100 := by rw [hs101]; exact hl.wId (by decide)
                                cases h
                                exact Q.ret (A.rv zm103 (show zM103.2.2.2.2.2[65]? = some (197, 1, .return_, []) from rfl) rfl) hl102
                              · rw [if_neg hc99] at h
                                refine Q.map (A.zF (gI_of zm103 (e := (179, 3, .ifCond .eq 10, [61])) rfl) (fun q => hc99 (of_decide_eq_true q))) ?_
                                refine Q.run zm103 1 (i' := 59) (ls' := [some (.ref 106), some (.int x1)]) (st' := [.ref 106]) rfl ?_
                                obtain ⟨s105, hc104, h⟩ := bu_so h
                                have hq103 : Q 1 sio tt cc d 123 0 [some (.ref 106), none, none, none, none] [] s (.inl none, s105) := dt123 (by omega) hl  hc104
                                refine Q.callV (gC_vi zm103 (show zM103.2.2.2.2.2[59]? = some (183, 3, .invokevirtual 141, [0, 123, 0, 4]) from rfl) zm123 (hl.lt (a := 106) (by decide)) (hl.T (a := 106) (p := (4, 13)) 28 rfl rfl) rfl (show aCr 0 106 [.ref 106] 5 = some ([some (.ref 106), none, none, none, none], []) from rfl)) hq103 ?_
                                refine Q.run zm103 1 (i' := 65) (ls' := [some (.ref 106), some (.int x1)]) (st' := []) rfl ?_
                                cases h
                                exact Q.ret (A.rv zm103 (show zM103.2.2.2.2.2[65]? = some (197, 1, .return_, []) from rfl) rfl) hq103.1
                          · rw [if_neg hc94] at h
                            refine Q.map (A.zT (gI_of zm103 (e := (159, 3, .ifCond .ne 9, [52])) rfl) (decide_eq_true hc94)) ?_
                            exact dt103_52 hd hl  h
/-! 63 FormulaTrees$Reader.readInto(LFormulaTrees$Tree;)I -/
set_option maxRecDepth 100000 in
theorem zm63 : zP[63]? = some zM63 := rfl
def dm63_92 (s : aS) : Option (Int32 × aS) :=
  bu (dm28 79 s) fun r3 =>
  nx (wI s 106 8 r3) fun s4 =>
  some (sI s4 106 8, s4)
set_option maxRecDepth 100000 in
theorem dt63_92 {sio : Bool} {tt : Nat} {cc : Nat → Nat → Int32} {d : Nat} (hd : 9 ≤ d) {b1 : Nat} {x2 : Int32} {s : aS} (hl : Ly tt cc s) {o : Int32 × aS} (h : dm63_92  s = some o) : Q 1 sio tt cc d 63 92 [some (.ref 106), some (.ref b1), some (.int x2)] [] s (.inl (some (.int o.1)), o.2) := by
  unfold dm63_92 at h
  obtain ⟨d, rfl⟩ : ∃ e, d = e + 1 := ⟨d - 1, by omega⟩
  refine Q.run zm63 2 (i' := 94) (ls' := [some (.ref 106), some (.ref b1), some (.int x2)]) (st' := [.ref 106, .ref 106]) rfl ?_
  refine Q.map (A.gf (gI_of zm63 (e := (194, 3, .getfield 41, [4, 0])) rfl) (hl.lt (a := 106) (by decide)) (hl.T (a := 106) (p := (4, 13)) 28 rfl rfl) (by decide) (hl.R 8 rfl)) ?_
  obtain ⟨r3, hc2, h⟩ := bu_so h
  have hq1 : Q 1 sio tt cc d 28 0 [some (.ref 79)] [] s (.inl (some (.int r3)), s) := dt28 (by omega) hl (hl.Kd (a := 79) (c := 1) (n := 2) 1 rfl rfl (by decide)) hc2
  refine Q.callI (gC_vi zm63 (show zM63.2.2.2.2.2[95]? = some (197, 3, .invokevirtual 74, [0, 28, 0, 1]) from rfl) zm28 (hl.lt (a := 79) (by decide)) (hl.T (a := 79) (p := (1, 2)) 1 rfl rfl) rfl (show aCr 0 79 [.ref 79, .ref 106] 1 = some ([some (.ref 79)], [.ref 106]) from rfl)) hq1 ?_
  obtain ⟨s4, hs5, h⟩ := nx_so h
  refine Q.pf hs5 rfl (gI_of zm63 (e := (200, 3, .putfield 65, [4, 8, 0])) rfl) (hl.lt (a := 106) (by decide)) (by decide) (hl.T (a := 106) (p := (4, 13)) 28 rfl rfl) (by decide) rfl rfl ?_
  have hl6 : Ly tt cc s4 := by rw [hs5]; exact hl.wId (by decide)
  refine Q.run zm63 1 (i' := 98) (ls' := [some (.ref 106), some (.ref b1), some (.int x2)]) (st' := [.ref 106]) rfl ?_
  refine Q.map (A.gf (gI_of zm63 (e := (204, 3, .getfield 65, [4, 8])) rfl) (hl6.lt (a := 106) (by decide)) (hl6.T (a := 106) (p := (4, 13)) 28 rfl rfl) (by decide) rfl) ?_
  cases h
  exact Q.ret (A.ri zm63 (show zM63.2.2.2.2.2[99]? = some (207, 1, .ireturn, []) from rfl) rfl rfl) hl6
def dm63_78 (k26 : Int32 → aS → Option (Int32 × aS)) (x2 : Int32) (s : aS) : Option (Int32 × aS) :=
  k26 (x2 + 1) s
set_option maxRecDepth 100000 in
theorem dt63_78 {sio : Bool} {tt : Nat} {cc : Nat → Nat → Int32} {d : Nat} (hd : 9 ≤ d) {k26 : Int32 → aS → Option (Int32 × aS)} (hk26 : ∀ {x2 : Int32} {b1 : Nat} {s : aS}, Ly tt cc s → ∀ {o : Int32 × aS}, k26 x2 s = some o → Q 1 sio tt cc d 63 26 [some (.ref 106), some (.ref b1), some (.int x2)] [] s (.inl (some (.int o.1)), o.2)) {x2 : Int32} {b1 : Nat} {s : aS} (hl : Ly tt cc s) {o : Int32 × aS} (h : dm63_78 k26 x2 s = some o) : Q 1 sio tt cc d 63 78 [some (.ref 106), some (.ref b1), some (.int x2)] [] s (.inl (some (.int o.1)), o.2) := by
  unfold dm63_78 at h
  obtain ⟨d, rfl⟩ : ∃ e, d = e + 1 := ⟨d - 1, by omega⟩
  refine Q.run zm63 2 (i' := 26) (ls' := [some (.ref 106), some (.ref b1), some (.int (x2 + 1))]) (st' := []) rfl ?_
  exact hk26 hl  h
def dm63_80 (s : aS) : Option (Int32 × aS) :=
  if (sI s 106 8) = (-1) then
    if (sI s 106 9) < 4 then
      dm63_92 s
    else
      bu (dm82 s) fun r5 =>
      if r5 ≤ 0 then
        some (sI s 106 8, s)
      else
        dm63_92 s
  else
    some (sI s 106 8, s)
set_option maxRecDepth 100000 in
theorem dt63_80 {sio : Bool} {tt : Nat} {cc : Nat → Nat → Int32} {d : Nat} (hd : 9 ≤ d) {b1 : Nat} {x2 : Int32} {s : aS} (hl : Ly tt cc s) {o : Int32 × aS} (h : dm63_80  s = some o) : Q 1 sio tt cc d 63 80 [some (.ref 106), some (.ref b1), some (.int x2)] [] s (.inl (some (.int o.1)), o.2) := by
  unfold dm63_80 at h
  obtain ⟨d, rfl⟩ : ∃ e, d = e + 1 := ⟨d - 1, by omega⟩
  refine Q.run zm63 1 (i' := 81) (ls' := [some (.ref 106), some (.ref b1), some (.int x2)]) (st' := [.ref 106]) rfl ?_
  refine Q.map (A.gf (gI_of zm63 (e := (167, 3, .getfield 65, [4, 8])) rfl) (hl.lt (a := 106) (by decide)) (hl.T (a := 106) (p := (4, 13)) 28 rfl rfl) (by decide) rfl) ?_
  refine Q.run zm63 1 (i' := 83) (ls' := [some (.ref 106), some (.ref b1), some (.int x2)]) (st' := [.int (-1), .int (sI s 106 8)]) rfl ?_
  by_cases hc1 : (sI s 106 8) = (-1)
  · rw [if_pos hc1] at h
    refine Q.map (A.bF (gI_of zm63 (e := (171, 3, .if_icmp .ne 32, [97])) rfl) (fun q => of_decide_eq_true q hc1)) ?_
    refine Q.run zm63 1 (i' := 85) (ls' := [some (.ref 106), some (.ref b1), some (.int x2)]) (st' := [.ref 106]) rfl ?_
    refine Q.map (A.gf (gI_of zm63 (e := (175, 3, .getfield 68, [4, 9])) rfl) (hl.lt (a := 106) (by decide)) (hl.T (a := 106) (p := (4, 13)) 28 rfl rfl) (by decide) rfl) ?_
    refine Q.run zm63 1 (i' := 87) (ls' := [some (.ref 106), some (.ref b1), some (.int x2)]) (st' := [.int 4, .int (sI s 106 9)]) rfl ?_
    by_cases hc2 : (sI s 106 9) < 4
    · rw [if_pos hc2] at h
      refine Q.map (A.bT (gI_of zm63 (e := (179, 3, .if_icmp .lt 13, [92])) rfl) (decide_eq_true hc2)) ?_
      exact dt63_92 hd hl  h
    · rw [if_neg hc2] at h
      refine Q.map (A.bF (gI_of zm63 (e := (179, 3, .if_icmp .lt 13, [92])) rfl) (fun q => hc2 (of_decide_eq_true q))) ?_
      refine Q.run zm63 1 (i' := 89) (ls' := [some (.ref 106), some (.ref b1), some (.int x2)]) (st' := [.ref 106]) rfl ?_
      refine Q.map (A.gf (gI_of zm63 (e := (183, 3, .getfield 37, [4, 5])) rfl) (hl.lt (a := 106) (by decide)) (hl.T (a := 106) (p := (4, 13)) 28 rfl rfl) (by decide) (hl.R 13 rfl)) ?_
      obtain ⟨r5, hc4, h⟩ := bu_so h
      have hq3 : Q 1 sio tt cc d 82 0 [some (.ref 113)] [] s (.inl (some (.int r5)), s) := dt82 (by omega) hl  hc4
      refine Q.callI (gC_vi zm63 (show zM63.2.2.2.2.2[90]? = some (186, 3, .invokevirtual 93, [0, 82, 0, 7]) from rfl) zm82 (hl.lt (a := 113) (by decide)) (hl.T (a := 113) (p := (7, 4)) 35 rfl rfl) rfl (show aCr 0 113 [.ref 113] 1 = some ([some (.ref 113)], []) from rfl)) hq3 ?_
      by_cases hc6 : r5 ≤ 0
      · rw [if_pos hc6] at h
        refine Q.map (A.zT (gI_of zm63 (e := (189, 3, .ifCond .le 14, [97])) rfl) (decide_eq_true hc6)) ?_
        refine Q.run zm63 1 (i' := 98) (ls' := [some (.ref 106), some (.ref b1), some (.int x2)]) (st' := [.ref 106]) rfl ?_
        refine Q.map (A.gf (gI_of zm63 (e := (204, 3, .getfield 65, [4, 8])) rfl) (hl.lt (a := 106) (by decide)) (hl.T (a := 106) (p := (4, 13)) 28 rfl rfl) (by decide) rfl) ?_
        cases h
        exact Q.ret (A.ri zm63 (show zM63.2.2.2.2.2[99]? = some (207, 1, .ireturn, []) from rfl) rfl rfl) hl
      · rw [if_neg hc6] at h
        refine Q.map (A.zF (gI_of zm63 (e := (189, 3, .ifCond .le 14, [97])) rfl) (fun q => hc6 (of_decide_eq_true q))) ?_
        exact dt63_92 hd hl  h
  · rw [if_neg hc1] at h
    refine Q.map (A.bT (gI_of zm63 (e := (171, 3, .if_icmp .ne 32, [97])) rfl) (decide_eq_true hc1)) ?_
    refine Q.run zm63 1 (i' := 98) (ls' := [some (.ref 106), some (.ref b1), some (.int x2)]) (st' := [.ref 106]) rfl ?_
    refine Q.map (A.gf (gI_of zm63 (e := (204, 3, .getfield 65, [4, 8])) rfl) (hl.lt (a := 106) (by decide)) (hl.T (a := 106) (p := (4, 13)) 28 rfl rfl) (by decide) rfl) ?_
    cases h
    exact Q.ret (A.ri zm63 (show zM63.2.2.2.2.2[99]? = some (207, 1, .ireturn, []) from rfl) rfl rfl) hl
def dm63_72 (k26 : Int32 → aS → Option (Int32 × aS)) (x2 : Int32) (s : aS) : Option (Int32 × aS) :=
  if (sI s 106 9) = 2 then
    dm63_78 k26 x2 s
  else
    bu (dm67 s) fun s4 =>
    dm63_78 k26 x2 s4
set_option maxRecDepth 100000 in
theorem dt63_72 {sio : Bool} {tt : Nat} {cc : Nat → Nat → Int32} {d : Nat} (hd : 9 ≤ d) {k26 : Int32 → aS → Option (Int32 × aS)} (hk26 : ∀ {x2 : Int32} {b1 : Nat} {s : aS}, Ly tt cc s → ∀ {o : Int32 × aS}, k26 x2 s = some o → Q 1 sio tt cc d 63 26 [some (.ref 106), some (.ref b1), some (.int x2)] [] s (.inl (some (.int o.1)), o.2)) {x2 : Int32} {b1 : Nat} {s : aS} (hl : Ly tt cc s) {o : Int32 × aS} (h : dm63_72 k26 x2 s = some o) : Q 1 sio tt cc d 63 72 [some (.ref 106), some (.ref b1), some (.int x2)] [] s (.inl (some (.int o.1)), o.2) := by
  unfold dm63_72 at h
  obtain ⟨d, rfl⟩ : ∃ e, d = e + 1 := ⟨d - 1, by omega⟩
  refine Q.run zm63 1 (i' := 73) (ls' := [some (.ref 106), some (.ref b1), some (.int x2)]) (st' := [.ref 106]) rfl ?_
  refine Q.map (A.gf (gI_of zm63 (e := (149, 3, .getfield 68, [4, 9])) rfl) (hl.lt (a := 106) (by decide)) (hl.T (a := 106) (p := (4, 13)) 28 rfl rfl) (by decide) rfl) ?_
  refine Q.run zm63 1 (i' := 75) (ls' := [some (.ref 106), some (.ref b1), some (.int x2)]) (st' := [.int 2, .int (sI s 106 9)]) rfl ?_
  by_cases hc1 : (sI s 106 9) = 2
  · rw [if_pos hc1] at h
    refine Q.map (A.bT (gI_of zm63 (e := (153, 3, .if_icmp .eq 7, [78])) rfl) (decide_eq_true hc1)) ?_
    exact dt63_78 hd hk26 hl  h
  · rw [if_neg hc1] at h
    refine Q.map (A.bF (gI_of zm63 (e := (153, 3, .if_icmp .eq 7, [78])) rfl) (fun q => hc1 (of_decide_eq_true q))) ?_
    refine Q.run zm63 1 (i' := 77) (ls' := [some (.ref 106), some (.ref b1), some (.int x2)]) (st' := [.ref 106]) rfl ?_
    obtain ⟨s4, hc3, h⟩ := bu_so h
    have hq2 : Q 1 sio tt cc d 67 0 [some (.ref 106)] [] s (.inl none, s4) := dt67 (by omega) hl  hc3
    refine Q.callV (gC_vi zm63 (show zM63.2.2.2.2.2[77]? = some (157, 3, .invokevirtual 71, [0, 67, 0, 4]) from rfl) zm67 (hl.lt (a := 106) (by decide)) (hl.T (a := 106) (p := (4, 13)) 28 rfl rfl) rfl (show aCr 0 106 [.ref 106] 1 = some ([some (.ref 106)], []) from rfl)) hq2 ?_
    exact dt63_78 hd hk26 hq2.1  h
def dm63_26 : Nat → Int32 → aS → Option (Int32 × aS)
  | 0, _, _ => none
  | n + 1, x2, s =>
    if 512 ≤ x2 then
      dm63_80 s
    else
      bu (dm28 79 s) fun r4 =>
      if r4 ≤ (sI s 106 7) then
        dm63_80 s
      else
        if (sI s 106 8) = (-1) then
          if (sI s 106 9) < 4 then
            if (sI s 106 9) = 2 then
              bu (dm88 s) fun s11 =>
              dm63_72 (dm63_26 n) x2 s11
            else
              if (sI s 106 9) = 3 then
                bu (dm99 s) fun s15 =>
                dm63_72 (dm63_26 n) x2 s15
              else
                bu (dm34 79 (sI s 106 7) s) fun r18 =>
                bu (dm103 r18 s) fun s21 =>
                dm63_72 (dm63_26 n) x2 s21
          else
            bu (dm34 79 (sI s 106 7) s) fun r24 =>
            bu (dm68 r24 s) fun s27 =>
            dm63_72 (dm63_26 n) x2 s27
        else
          dm63_80 s
set_option maxRecDepth 100000 in
theorem dt63_26 {sio : Bool} {tt : Nat} {cc : Nat → Nat → Int32} {d : Nat} (hd : 9 ≤ d) : ∀ (n : Nat) {x2 : Int32} {b1 : Nat} {s : aS} (_ : Ly tt cc s) {o : Int32 × aS} (_ : dm63_26  n x2 s = some o), Q 1 sio tt cc d 63 26 [some (.ref 106), some (.ref b1), some (.int x2)] [] s (.inl (some (.int o.1)), o.2) := by
  obtain ⟨d, rfl⟩ : ∃ e, d = e + 1 := ⟨d - 1, by omega⟩
  intro n
  induction n with
  | zero => intro x2 b1 s hl o h; rw [dm63_26] at h; cases h
  | succ n ih =>
    intro x2 b1 s hl o h
    rw [dm63_26] at h
    refine Q.run zm63 2 (i' := 28) (ls' := [some (.ref 106), some (.ref b1), some (.int x2)]) (st' := [.int 512, .int x2]) rfl ?_
    by_cases hc1 : 512 ≤ x2
    · rw [if_pos hc1] at h
      refine Q.map (A.bT (gI_of zm63 (e := (52, 3, .if_icmp .ge 114, [80])) rfl) (decide_eq_true hc1)) ?_
      exact dt63_80 hd hl  h
    · rw [if_neg hc1] at h
      refine Q.map (A.bF (gI_of zm63 (e := (52, 3, .if_icmp .ge 114, [80])) rfl) (fun q => hc1 (of_decide_eq_true q))) ?_
      refine Q.run zm63 1 (i' := 30) (ls' := [some (.ref 106), some (.ref b1), some (.int x2)]) (st' := [.ref 106]) rfl ?_
      refine Q.map (A.gf (gI_of zm63 (e := (56, 3, .getfield 61, [4, 7])) rfl) (hl.lt (a := 106) (by decide)) (hl.T (a := 106) (p := (4, 13)) 28 rfl rfl) (by decide) rfl) ?_
      refine Q.run zm63 1 (i' := 32) (ls' := [some (.ref 106), some (.ref b1), some (.int x2)]) (st' := [.ref 106, .int (sI s 106 7)]) rfl ?_
      refine Q.map (A.gf (gI_of zm63 (e := (60, 3, .getfield 41, [4, 0])) rfl) (hl.lt (a := 106) (by decide)) (hl.T (a := 106) (p := (4, 13)) 28 rfl rfl) (by decide) (hl.R 8 rfl)) ?_
      obtain ⟨r4, hc3, h⟩ := bu_so h
      have hq2 : Q 1 sio tt cc d 28 0 [some (.ref 79)] [] s (.inl (some (.int r4)), s) := dt28 (by omega) hl (hl.Kd (a := 79) (c := 1) (n := 2) 1 rfl rfl (by decide)) hc3
      refine Q.callI (gC_vi zm63 (show zM63.2.2.2.2.2[33]? = some (63, 3, .invokevirtual 74, [0, 28, 0, 1]) from rfl) zm28 (hl.lt (a := 79) (by decide)) (hl.T (a := 79) (p := (1, 2)) 1 rfl rfl) rfl (show aCr 0 79 [.ref 79, .int (sI s 106 7)] 1 = some ([some (.ref 79)], [.int (sI s 106 7)]) from rfl)) hq2 ?_
      by_cases hc5 : r4 ≤ (sI s 106 7)
      · rw [if_pos hc5] at h
        refine Q.map (A.bT (gI_of zm63 (e := (66, 3, .if_icmp .ge 100, [80])) rfl) (decide_eq_true hc5)) ?_
        exact dt63_80 hd hl  h
      · rw [if_neg hc5] at h
        refine Q.map (A.bF (gI_of zm63 (e := (66, 3, .if_icmp .ge 100, [80])) rfl) (fun q => hc5 (of_decide_eq_true q))) ?_
        refine Q.run zm63 1 (i' := 36) (ls' := [some (.ref 106), some (.ref b1), some (.int x2)]) (st' := [.ref 106]) rfl ?_
        refine Q.map (A.gf (gI_of zm63 (e := (70, 3, .getfield 65, [4, 8])) rfl) (hl.lt (a := 106) (by decide)) (hl.T (a := 106) (p := (4, 13)) 28 rfl rfl) (by decide) rfl) ?_
        refine Q.run zm63 1 (i' := 38) (ls' := [some (.ref 106), some (.ref b1), some (.int x2)]) (st' := [.int (-1), .int (sI s 106 8)]) rfl ?_
        by_cases hc6 : (sI s 106 8) = (-1)
        · rw [if_pos hc6] at h
          refine Q.map (A.bF (gI_of zm63 (e := (74, 3, .if_icmp .ne 92, [80])) rfl) (fun q => of_decide_eq_true q hc6)) ?_
          refine Q.run zm63 1 (i' := 40) (ls' := [some (.ref 106), some (.ref b1), some (.int x2)]) (st' := [.ref 106]) rfl ?_
          refine Q.map (A.gf (gI_of zm63 (e := (78, 3, .getfield 68, [4, 9])) rfl) (hl.lt (a := 106) (by decide)) (hl.T (a := 106) (p := (4, 13)) 28 rfl rfl) (by decide) rfl) ?_
          refine Q.run zm63 1 (i' := 42) (ls' := [some (.ref 106), some (.ref b1), some (.int x2)]) (st' := [.int 4, .int (sI s 106 9)]) rfl ?_
          by_cases hc7 : (sI s 106 9) < 4
          · rw [if_pos hc7] at h
            refine Q.map (A.bT (gI_of zm63 (e := (82, 3, .if_icmp .lt 21, [51])) rfl) (decide_eq_true hc7)) ?_
            refine Q.run zm63 1 (i' := 52) (ls' := [some (.ref 106), some (.ref b1), some (.int x2)]) (st' := [.ref 106]) rfl ?_
            refine Q.map (A.gf (gI_of zm63 (e := (104, 3, .getfield 68, [4, 9])) rfl) (hl.lt (a := 106) (by decide)) (hl.T (a := 106) (p := (4, 13)) 28 rfl rfl) (by decide) rfl) ?_
            refine Q.run zm63 1 (i' := 54) (ls' := [some (.ref 106), some (.ref b1), some (.int x2)]) (st' := [.int 2, .int (sI s 106 9)]) rfl ?_
            by_cases hc8 : (sI s 106 9) = 2
            · rw [if_pos hc8] at h
              refine Q.map (A.bF (gI_of zm63 (e := (108, 3, .if_icmp .ne 10, [58])) rfl) (fun q => of_decide_eq_true q hc8)) ?_
              refine Q.run zm63 1 (i' := 56) (ls' := [some (.ref 106), some (.ref b1), some (.int x2)]) (st' := [.ref 106]) rfl ?_
              obtain ⟨s11, hc10, h⟩ := bu_so h
              have hq9 : Q 1 sio tt cc d 88 0 [some (.ref 106), none] [] s (.inl none, s11) := dt88 (by omega) hl  hc10
              refine Q.callV (gC_vi zm63 (show zM63.2.2.2.2.2[56]? = some (112, 3, .invokevirtual 84, [0, 88, 0, 4]) from rfl) zm88 (hl.lt (a := 106) (by decide)) (hl.T (a := 106) (p := (4, 13)) 28 rfl rfl) rfl (show aCr 0 106 [.ref 106] 2 = some ([some (.ref 106), none], []) from rfl)) hq9 ?_
              refine Q.run zm63 1 (i' := 72) (ls' := [some (.ref 106), some (.ref b1), some (.int x2)]) (st' := []) rfl ?_
              exact dt63_72 hd ih hq9.1  h
            · rw [if_neg hc8] at h
              refine Q.map (A.bT (gI_of zm63 (e := (108, 3, .if_icmp .ne 10, [58])) rfl) (decide_eq_true hc8)) ?_
              refine Q.run zm63 1 (i' := 59) (ls' := [some (.ref 106), some (.ref b1), some (.int x2)]) (st' := [.ref 106]) rfl ?_
              refine Q.map (A.gf (gI_of zm63 (e := (119, 3, .getfield 68, [4, 9])) rfl) (hl.lt (a := 106) (by decide)) (hl.T (a := 106) (p := (4, 13)) 28 rfl rfl) (by decide) rfl) ?_
              refine Q.run zm63 1 (i' := 61) (ls' := [some (.ref 106), some (.ref b1), some (.int x2)]) (st' := [.int 3, .int (sI s 106 9)]) rfl ?_
              by_cases hc12 : (sI s 106 9) = 3
              · rw [if_pos hc12] at h
                refine Q.map (A.bF (gI_of zm63 (e := (123, 3, .if_icmp .ne 10, [65])) rfl) (fun q => of_decide_eq_true q hc12)) ?_
                refine Q.run zm63 1 (i' := 63) (ls' := [some (.ref 106), some (.ref b1), some (.int x2)]) (st' := [.ref 106]) rfl ?_
                obtain ⟨s15, hc14, h⟩ := bu_so h
                have hq13 : Q 1 sio tt cc d 99 0 [some (.ref 106)] [] s (.inl none, s15) := dt99 (by omega) hl  hc14
                refine Q.callV (gC_vi zm63 (show zM63.2.2.2.2.2[63]? = some (127, 3, .invokevirtual 87, [0, 99, 0, 4]) from rfl) zm99 (hl.lt (a := 106) (by decide)) (hl.T (a := 106) (p := (4, 13)) 28 rfl rfl) rfl (show aCr 0 106 [.ref 106] 1 = some ([some (.ref 106)], []) from rfl)) hq13 ?_
                refine Q.run zm63 1 (i' := 72) (ls' := [some (.ref 106), some (.ref b1), some (.int x2)]) (st' := []) rfl ?_
                exact dt63_72 hd ih hq13.1  h
              · rw [if_neg hc12] at h
                refine Q.map (A.bT (gI_of zm63 (e := (123, 3, .if_icmp .ne 10, [65])) rfl) (decide_eq_true hc12)) ?_
                refine Q.run zm63 2 (i' := 67) (ls' := [some (.ref 106), some (.ref b1), some (.int x2)]) (st' := [.ref 106, .ref 106]) rfl ?_
                refine Q.map (A.gf (gI_of zm63 (e := (135, 3, .getfield 41, [4, 0])) rfl) (hl.lt (a := 106) (by decide)) (hl.T (a := 106) (p := (4, 13)) 28 rfl rfl) (by decide) (hl.R 8 rfl)) ?_
                refine Q.run zm63 1 (i' := 69) (ls' := [some (.ref 106), some (.ref b1), some (.int x2)]) (st' := [.ref 106, .ref 79, .ref 106]) rfl ?_
                refine Q.map (A.gf (gI_of zm63 (e := (139, 3, .getfield 61, [4, 7])) rfl) (hl.lt (a := 106) (by decide)) (hl.T (a := 106) (p := (4, 13)) 28 rfl rfl) (by decide) rfl) ?_
                obtain ⟨r18, hc17, h⟩ := bu_so h
                have hq16 : Q 1 sio tt cc d 34 0 [some (.ref 79), some (.int (sI s 106 7))] [] s (.inl (some (.int r18)), s) := dt34 (by omega) hl (hl.Kd (a := 79) (c := 1) (n := 2) 1 rfl rfl (by decide)) hc17
                refine Q.callI (gC_vi zm63 (show zM63.2.2.2.2.2[70]? = some (142, 3, .invokevirtual 78, [0, 34, 1, 1]) from rfl) zm34 (hl.lt (a := 79) (by decide)) (hl.T (a := 79) (p := (1, 2)) 1 rfl rfl) rfl (show aCr 1 79 [.int (sI s 106 7), .ref 79, .ref 106] 2 = some ([some (.ref 79), some (.int (sI s 106 7))], [.ref 106]) from rfl)) hq16 ?_
                obtain ⟨s21, hc20, h⟩ := bu_so h
                have hq19 : Q 1 sio tt cc d 103 0 [some (.ref 106), some (.int r18)] [] s (.inl none, s21) := dt103 (by omega) hl  hc20
                refine Q.callV (gC_vi zm63 (show zM63.2.2.2.2.2[71]? = some (145, 3, .invokevirtual 90, [0, 103, 1, 4]) from rfl) zm103 (hl.lt (a := 106) (by decide)) (hl.T (a := 106) (p := (4, 13)) 28 rfl rfl) rfl (show aCr 1 106 [.int r18, .ref 106] 2 = some ([some (.ref 106), some (.int r18)], []) from rfl)) hq19 ?_
                exact dt63_72 hd ih hq19.1  h
          · rw [if_neg hc7] at h
            refine Q.map (A.bF (gI_of zm63 (e := (82, 3, .if_icmp .lt 21, [51])) rfl) (fun q => hc7 (of_decide_eq_true q))) ?_
            refine Q.run zm63 2 (i' := 45) (ls' := [some (.ref 106), some (.ref b1), some (.int x2)]) (st' := [.ref 106, .ref 106]) rfl ?_
            refine Q.map (A.gf (gI_of zm63 (e := (87, 3, .getfield 41, [4, 0])) rfl) (hl.lt (a := 106) (by decide)) (hl.T (a := 106) (p := (4, 13)) 28 rfl rfl) (by decide) (hl.R 8 rfl)) ?_
            refine Q.run zm63 1 (i' := 47) (ls' := [some (.ref 106), some (.ref b1), some (.int x2)]) (st' := [.ref 106, .ref 79, .ref 106]) rfl ?_
            refine Q.map (A.gf (gI_of zm63 (e := (91, 3, .getfield 61, [4, 7])) rfl) (hl.lt (a := 106) (by decide)) (hl.T (a := 106) (p := (4, 13)) 28 rfl rfl) (by decide) rfl) ?_
            obtain ⟨r24, hc23, h⟩ := bu_so h
            have hq22 : Q 1 sio tt cc d 34 0 [some (.ref 79), some (.int (sI s 106 7))] [] s (.inl (some (.int r24)), s) := dt34 (by omega) hl (hl.Kd (a := 79) (c := 1) (n := 2) 1 rfl rfl (by decide)) hc23
            refine Q.callI (gC_vi zm63 (show zM63.2.2.2.2.2[48]? = some (94, 3, .invokevirtual 78, [0, 34, 1, 1]) from rfl) zm34 (hl.lt (a := 79) (by decide)) (hl.T (a := 79) (p := (1, 2)) 1 rfl rfl) rfl (show aCr 1 79 [.int (sI s 106 7), .ref 79, .ref 106] 2 = some ([some (.ref 79), some (.int (sI s 106 7))], [.ref 106]) from rfl)) hq22 ?_
            obtain ⟨s27, hc26, h⟩ := bu_so h
            have hq25 : Q 1 sio tt cc d 68 0 [some (.ref 106), some (.int r24)] [] s (.inl none, s27) := dt68 (by omega) hl  hc26
            refine Q.callV (gC_vi zm63 (show zM63.2.2.2.2.2[49]? = some (97, 3, .invokevirtual 81, [0, 68, 1, 4]) from rfl) zm68 (hl.lt (a := 106) (by decide)) (hl.T (a := 106) (p := (4, 13)) 28 rfl rfl) rfl (show aCr 1 106 [.int r24, .ref 106] 2 = some ([some (.ref 106), some (.int r24)], []) from rfl)) hq25 ?_
            refine Q.run zm63 1 (i' := 72) (ls' := [some (.ref 106), some (.ref b1), some (.int x2)]) (st' := []) rfl ?_
            exact dt63_72 hd ih hq25.1  h
        · rw [if_neg hc6] at h
          refine Q.map (A.bT (gI_of zm63 (e := (74, 3, .if_icmp .ne 92, [80])) rfl) (decide_eq_true hc6)) ?_
          exact dt63_80 hd hl  h
def dm63 (b1 : Nat) (s : aS) : Option (Int32 × aS) :=
  nx (wR s 106 6 (.ref b1)) fun s1 =>
  vN (sR s1 106 6) (
    none
  ) fun b6 =>
    if aK s1 b6 3 then
      bu (dm64 b6 s1) fun s10 =>
      bu (dm65 0 s10) fun s15 =>
      bu (dm66 s15) fun s20 =>
      nx (wI s20 106 7 0) fun s23 =>
      nx (wI s23 106 8 (-1)) fun s28 =>
      nx (wI s28 106 9 1) fun s33 =>
      bu (dm67 s33) fun s40 =>
      dm63_26 5000 0 s40
    else none
set_option maxRecDepth 100000 in
theorem dt63 {sio : Bool} {tt : Nat} {cc : Nat → Nat → Int32} {d : Nat} (hd : 9 ≤ d) {b1 : Nat} {s : aS} (hl : Ly tt cc s) (hk_b1 : aK s b1 3) {o : Int32 × aS} (h : dm63  b1 s = some o) : Q 1 sio tt cc d 63 0 [some (.ref 106), some (.ref b1), none] [] s (.inl (some (.int o.1)), o.2) := by
  unfold dm63 at h
  obtain ⟨d, rfl⟩ : ∃ e, d = e + 1 := ⟨d - 1, by omega⟩
  refine Q.run zm63 2 (i' := 2) (ls' := [some (.ref 106), some (.ref b1), none]) (st' := [.ref b1, .ref 106]) rfl ?_
  obtain ⟨s1, hs2, h⟩ := nx_so h
  refine Q.pr hs2 rfl (gI_of zm63 (e := (2, 3, .putfield 48, [4, 6, 2])) rfl) (hl.lt (a := 106) (by decide)) (by decide) (hl.T (a := 106) (p := (4, 13)) 28 rfl rfl) (by decide) rfl rfl ?_
  have hl3 : Ly tt cc s1 := by rw [hs2]; exact hl.wRd (hl.T (a := 106) (p := (4, 13)) 28 rfl rfl) (by decide) (by decide)
  have hr4 : aK s1 b1 3 := by rw [hs2]; exact hk_b1
  refine Q.run zm63 1 (i' := 4) (ls' := [some (.ref 106), some (.ref b1), none]) (st' := [.ref 106]) rfl ?_
  rcases vN_so h with ⟨hv5, h⟩ | ⟨b6, hv5, h⟩
  · refine Q.map (A.gf (gI_of zm63 (e := (6, 3, .getfield 48, [4, 6])) rfl) (hl3.lt (a := 106) (by decide)) (hl3.T (a := 106) (p := (4, 13)) 28 rfl rfl) (by decide) hv5) ?_
    cases h
  · obtain ⟨hr7, h⟩ := ite_so h
    refine Q.map (A.gf (gI_of zm63 (e := (6, 3, .getfield 48, [4, 6])) rfl) (hl3.lt (a := 106) (by decide)) (hl3.T (a := 106) (p := (4, 13)) 28 rfl rfl) (by decide) hv5) ?_
    obtain ⟨s10, hc9, h⟩ := bu_so h
    have hq8 : Q 1 sio tt cc d 64 0 [some (.ref b6)] [] s1 (.inl none, s10) := dt64 (by omega) hl3 hr7 hc9
    refine Q.callV (gC_vi zm63 (show zM63.2.2.2.2.2[5]? = some (9, 3, .invokevirtual 52, [0, 64, 0, 3]) from rfl) zm64 hr7.1 (hl3.tr hr7).1 rfl (show aCr 0 b6 [.ref b6] 1 = some ([some (.ref b6)], []) from rfl)) hq8 ?_
    have hr11 : aK s10 b1 3 := hq8.2.1.k hr4
    have hr12 : aK s10 b6 3 := hq8.2.1.k hr7
    refine Q.run zm63 1 (i' := 7) (ls' := [some (.ref 106), some (.ref b1), none]) (st' := [.ref 106]) rfl ?_
    refine Q.map (A.gf (gI_of zm63 (e := (13, 3, .getfield 30, [4, 4])) rfl) (hq8.1.lt (a := 106) (by decide)) (hq8.1.T (a := 106) (p := (4, 13)) 28 rfl rfl) (by decide) (hq8.1.R 12 rfl)) ?_
    refine Q.run zm63 1 (i' := 9) (ls' := [some (.ref 106), some (.ref b1), none]) (st' := [.int 0, .ref 110]) rfl ?_
    obtain ⟨s15, hc14, h⟩ := bu_so h
    have hq13 : Q 1 sio tt cc d 65 0 [some (.ref 110), some (.int 0)] [] s10 (.inl none, s15) := dt65 (by omega) hq8.1  hc14
    refine Q.callV (gC_vi zm63 (show zM63.2.2.2.2.2[9]? = some (17, 3, .invokevirtual 57, [0, 65, 1, 6]) from rfl) zm65 (hq8.1.lt (a := 110) (by decide)) (hq8.1.T (a := 110) (p := (6, 3)) 32 rfl rfl) rfl (show aCr 1 110 [.int 0, .ref 110] 2 = some ([some (.ref 110), some (.int 0)], []) from rfl)) hq13 ?_
    have hr16 : aK s15 b1 3 := hq13.2.1.k hr11
    have hr17 : aK s15 b6 3 := hq13.2.1.k hr12
    refine Q.run zm63 1 (i' := 11) (ls' := [some (.ref 106), some (.ref b1), none]) (st' := [.ref 106]) rfl ?_
    refine Q.map (A.gf (gI_of zm63 (e := (21, 3, .getfield 37, [4, 5])) rfl) (hq13.1.lt (a := 106) (by decide)) (hq13.1.T (a := 106) (p := (4, 13)) 28 rfl rfl) (by decide) (hq13.1.R 13 rfl)) ?_
    obtain ⟨s20, hc19, h⟩ := bu_so h
    have hq18 : Q 1 sio tt cc d 66 0 [some (.ref 113)] [] s15 (.inl none, s20) := dt66 (by omega) hq13.1  hc19
    refine Q.callV (gC_vi zm63 (show zM63.2.2.2.2.2[12]? = some (24, 3, .invokevirtual 60, [0, 66, 0, 7]) from rfl) zm66 (hq13.1.lt (a := 113) (by decide)) (hq13.1.T (a := 113) (p := (7, 4)) 35 rfl rfl) rfl (show aCr 0 113 [.ref 113] 1 = some ([some (.ref 113)], []) from rfl)) hq18 ?_
    have hr21 : aK s20 b1 3 := hq18.2.1.k hr16
    have hr22 : aK s20 b6 3 := hq18.2.1.k hr17
    refine Q.run zm63 2 (i' := 15) (ls' := [some (.ref 106), some (.ref b1), none]) (st' := [.int 0, .ref 106]) rfl ?_
    obtain ⟨s23, hs24, h⟩ := nx_so h
    refine Q.pf hs24 rfl (gI_of zm63 (e := (29, 3, .putfield 61, [4, 7, 0])) rfl) (hq18.1.lt (a := 106) (by decide)) (by decide) (hq18.1.T (a := 106) (p := (4, 13)) 28 rfl rfl) (by decide) rfl rfl ?_
    have hl25 : Ly tt cc s23 := by rw [hs24]; exact hq18.1.wId (by decide)
    have hr26 : aK s23 b1 3 := by rw [hs24]; exact hr21
    have hr27 : aK s23 b6 3 := by rw [hs24]; exact hr22
    refine Q.run zm63 2 (i' := 18) (ls' := [some (.ref 106), some (.ref b1), none]) (st' := [.int (-1), .ref 106]) rfl ?_
    obtain ⟨s28, hs29, h⟩ := nx_so h
    refine Q.pf hs29 rfl (gI_of zm63 (e := (34, 3, .putfield 65, [4, 8, 0])) rfl) (hl25.lt (a := 106) (by decide)) (by decide) (hl25.T (a := 106) (p := (4, 13)) 28 rfl rfl) (by decide) rfl rfl ?_
    have hl30 : Ly tt cc s28 := by rw [hs29]; exact hl25.wId (by decide)
    have hr31 : aK s28 b1 3 := by rw [hs29]; exact hr26
    have hr32 : aK s28 b6 3 := by rw [hs29]; exact hr27
    refine Q.run zm63 2 (i' := 21) (ls' := [some (.ref 106), some (.ref b1), none]) (st' := [.int 1, .ref 106]) rfl ?_
    obtain ⟨s33, hs34, h⟩ := nx_so h
    refine Q.pf hs34 rfl (gI_of zm63 (e := (39, 3, .putfield 68, [4, 9, 0])) rfl) (hl30.lt (a := 106) (by decide)) (by decide) (hl30.T (a := 106) (p := (4, 13)) 28 rfl rfl) (by decide) rfl rfl ?_
    have hl35 : Ly tt cc s33 := by rw [hs34]; exact hl30.wId (by decide)
    have hr36 : aK s33 b1 3 := by rw [hs34]; exact hr31
    have hr37 : aK s33 b6 3 := by rw [hs34]; exact hr32
    refine Q.run zm63 1 (i' := 23) (ls' := [some (.ref 106), some (.ref b1), none]) (st' := [.ref 106]) rfl ?_
    obtain ⟨s40, hc39, h⟩ := bu_so h
    have hq38 : Q 1 sio tt cc d 67 0 [some (.ref 106)] [] s33 (.inl none, s40) := dt67 (by omega) hl35  hc39
    refine Q.callV (gC_vi zm63 (show zM63.2.2.2.2.2[23]? = some (43, 3, .invokevirtual 71, [0, 67, 0, 4]) from rfl) zm67 (hl35.lt (a := 106) (by decide)) (hl35.T (a := 106) (p := (4, 13)) 28 rfl rfl) rfl (show aCr 0 106 [.ref 106] 1 = some ([some (.ref 106)], []) from rfl)) hq38 ?_
    have hr41 : aK s40 b1 3 := hq38.2.1.k hr36
    have hr42 : aK s40 b6 3 := hq38.2.1.k hr37
    refine Q.run zm63 2 (i' := 26) (ls' := [some (.ref 106), some (.ref b1), some (.int 0)]) (st' := []) rfl ?_
    exact dt63_26 hd _ hq38.1  h
