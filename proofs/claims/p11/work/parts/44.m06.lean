/-! 69 FormulaTrees$Reader.readPercent()V -/
set_option maxRecDepth 100000 in
theorem zm69 : zP[69]? = some zM69 := rfl
def dm69 (s : aS) : Option (aS) :=
  bv (dm70 (sI s 106 7) s) fun r4 s3 =>
  if r4 = 0 then
    some s3
  else
    vN (sR s3 106 6) (
      none
    ) fun b7 =>
      if aK s3 b7 3 then
        bu (dm72 b7 (sI s3 106 10) 9 1 s3) fun s11 =>
        nx (wI s11 106 9 4) fun s13 =>
        nx (wI s13 106 7 ((sI s13 106 7) + 1)) fun s17 =>
        some s17
      else none
set_option maxRecDepth 100000 in
theorem dt69 {sio : Bool} {tt : Nat} {cc : Nat → Nat → Int32} {d : Nat} (hd : 2 ≤ d) {s : aS} (hl : Ly tt cc s) {o : aS} (h : dm69  s = some o) : Q 1 sio tt cc d 69 0 [some (.ref 106)] [] s (.inl none, o) := by
  unfold dm69 at h
  obtain ⟨d, rfl⟩ : ∃ e, d = e + 1 := ⟨d - 1, by omega⟩
  refine Q.run zm69 2 (i' := 2) (ls' := [some (.ref 106)]) (st' := [.ref 106, .ref 106]) rfl ?_
  refine Q.map (A.gf (gI_of zm69 (e := (2, 3, .getfield 61, [4, 7])) rfl) (hl.lt (a := 106) (by decide)) (hl.T (a := 106) (p := (4, 13)) 28 rfl rfl) (by decide) rfl) ?_
  obtain ⟨r4, s3, hc2, h⟩ := bv_so h
  have hq1 : Q 1 sio tt cc d 70 0 [some (.ref 106), some (.int (sI s 106 7)), none] [] s (.inl (some (.int r4)), s3) := dt70 (by omega) hl  hc2
  refine Q.callI (gC_vi zm69 (show zM69.2.2.2.2.2[3]? = some (5, 3, .invokevirtual 144, [0, 70, 1, 4]) from rfl) zm70 (hl.lt (a := 106) (by decide)) (hl.T (a := 106) (p := (4, 13)) 28 rfl rfl) rfl (show aCr 1 106 [.int (sI s 106 7), .ref 106] 3 = some ([some (.ref 106), some (.int (sI s 106 7)), none], []) from rfl)) hq1 ?_
  by_cases hc5 : r4 = 0
  · rw [if_pos hc5] at h
    refine Q.map (A.zT (gI_of zm69 (e := (8, 3, .ifCond .eq 32, [21])) rfl) (decide_eq_true hc5)) ?_
    cases h
    exact Q.ret (A.rv zm69 (show zM69.2.2.2.2.2[21]? = some (40, 1, .return_, []) from rfl) rfl) hq1.1
  · rw [if_neg hc5] at h
    refine Q.map (A.zF (gI_of zm69 (e := (8, 3, .ifCond .eq 32, [21])) rfl) (fun q => hc5 (of_decide_eq_true q))) ?_
    refine Q.run zm69 1 (i' := 6) (ls' := [some (.ref 106)]) (st' := [.ref 106]) rfl ?_
    rcases vN_so h with ⟨hv6, h⟩ | ⟨b7, hv6, h⟩
    · refine Q.map (A.gf (gI_of zm69 (e := (12, 3, .getfield 48, [4, 6])) rfl) (hq1.1.lt (a := 106) (by decide)) (hq1.1.T (a := 106) (p := (4, 13)) 28 rfl rfl) (by decide) hv6) ?_
      refine Q.run zm69 1 (i' := 8) (ls' := [some (.ref 106)]) (st' := [.ref 106, .null]) rfl ?_
      refine Q.map (A.gf (gI_of zm69 (e := (16, 3, .getfield 100, [4, 10])) rfl) (hq1.1.lt (a := 106) (by decide)) (hq1.1.T (a := 106) (p := (4, 13)) 28 rfl rfl) (by decide) rfl) ?_
      refine Q.run zm69 2 (i' := 11) (ls' := [some (.ref 106)]) (st' := [.int 1, .int 9, .int (sI s3 106 10), .null]) rfl ?_
      cases h
    · obtain ⟨hr8, h⟩ := ite_so h
      refine Q.map (A.gf (gI_of zm69 (e := (12, 3, .getfield 48, [4, 6])) rfl) (hq1.1.lt (a := 106) (by decide)) (hq1.1.T (a := 106) (p := (4, 13)) 28 rfl rfl) (by decide) hv6) ?_
      refine Q.run zm69 1 (i' := 8) (ls' := [some (.ref 106)]) (st' := [.ref 106, .ref b7]) rfl ?_
      refine Q.map (A.gf (gI_of zm69 (e := (16, 3, .getfield 100, [4, 10])) rfl) (hq1.1.lt (a := 106) (by decide)) (hq1.1.T (a := 106) (p := (4, 13)) 28 rfl rfl) (by decide) rfl) ?_
      refine Q.run zm69 2 (i' := 11) (ls' := [some (.ref 106)]) (st' := [.int 1, .int 9, .int (sI s3 106 10), .ref b7]) rfl ?_
      obtain ⟨s11, hc10, h⟩ := bu_so h
      have hq9 : Q 1 sio tt cc d 72 0 [some (.ref b7), some (.int (sI s3 106 10)), some (.int 9), some (.int 1), none] [] s3 (.inl none, s11) := dt72 (by omega) hq1.1 hr8 hc10
      refine Q.callV (gC_vi zm69 (show zM69.2.2.2.2.2[11]? = some (22, 3, .invokevirtual 150, [0, 72, 3, 3]) from rfl) zm72 hr8.1 (hq1.1.tr hr8).1 rfl (show aCr 3 b7 [.int 1, .int 9, .int (sI s3 106 10), .ref b7] 5 = some ([some (.ref b7), some (.int (sI s3 106 10)), some (.int 9), some (.int 1), none], []) from rfl)) hq9 ?_
      have hr12 : aK s11 b7 3 := hq9.2.1.k hr8
      refine Q.run zm69 2 (i' := 14) (ls' := [some (.ref 106)]) (st' := [.int 4, .ref 106]) rfl ?_
      obtain ⟨s13, hs14, h⟩ := nx_so h
      refine Q.pf hs14 rfl (gI_of zm69 (e := (27, 3, .putfield 68, [4, 9, 0])) rfl) (hq9.1.lt (a := 106) (by decide)) (by decide) (hq9.1.T (a := 106) (p := (4, 13)) 28 rfl rfl) (by decide) rfl rfl ?_
      have hl15 : Ly tt cc s13 := by rw [hs14]; exact hq9.1.wId (by decide)
      have hr16 : aK s13 b7 3 := by rw [hs14]; exact hr12
      refine Q.run zm69 2 (i' := 17) (ls' := [some (.ref 106)]) (st' := [.ref 106, .ref 106]) rfl ?_
      refine Q.map (A.gf (gI_of zm69 (e := (32, 3, .getfield 61, [4, 7])) rfl) (hl15.lt (a := 106) (by decide)) (hl15.T (a := 106) (p := (4, 13)) 28 rfl rfl) (by decide) rfl) ?_
      refine Q.run zm69 2 (i' := 20) (ls' := [some (.ref 106)]) (st' := [.int ((sI s13 106 7) + 1), .ref 106]) rfl ?_
      obtain ⟨s17, hs18, h⟩ := nx_so h
      refine Q.pf hs18 rfl (gI_of zm69 (e := (37, 3, .putfield 61, [4, 7, 0])) rfl) (hl15.lt (a := 106) (by decide)) (by decide) (hl15.T (a := 106) (p := (4, 13)) 28 rfl rfl) (by decide) rfl rfl ?_
      have hl19 : Ly tt cc s17 := by rw [hs18]; exact hl15.wId (by decide)
      have hr20 : aK s17 b7 3 := by rw [hs18]; exact hr16
      cases h
      exact Q.ret (A.rv zm69 (show zM69.2.2.2.2.2[21]? = some (40, 1, .return_, []) from rfl) rfl) hl19
/-! 74 FormulaTrees$Brackets.arguments()I -/
set_option maxRecDepth 100000 in
theorem zm74 : zP[74]? = some zM74 := rfl
def dm74 (s : aS) : Option (Int32) :=
  if (sI s 113 3) ≤ 0 then
    some (-1)
  else
    if aB ((sI s 113 3) - 1) 32 then
      some (sI s 115 (jN ((sI s 113 3) - 1)))
    else none
set_option maxRecDepth 100000 in
theorem dt74 {sio : Bool} {tt : Nat} {cc : Nat → Nat → Int32} {d : Nat} (hd : 0 ≤ d) {s : aS} (hl : Ly tt cc s) {o : Int32} (h : dm74  s = some o) : Q 1 sio tt cc d 74 0 [some (.ref 113)] [] s (.inl (some (.int o)), s) := by
  unfold dm74 at h
  refine Q.run zm74 1 (i' := 1) (ls' := [some (.ref 113)]) (st' := [.ref 113]) rfl ?_
  refine Q.map (A.gf (gI_of zm74 (e := (1, 3, .getfield 21, [7, 3])) rfl) (hl.lt (a := 113) (by decide)) (hl.T (a := 113) (p := (7, 4)) 35 rfl rfl) (by decide) rfl) ?_
  by_cases hc1 : (sI s 113 3) ≤ 0
  · rw [if_pos hc1] at h
    refine Q.map (A.zT (gI_of zm74 (e := (4, 3, .ifCond .le 17, [11])) rfl) (decide_eq_true hc1)) ?_
    refine Q.run zm74 1 (i' := 12) (ls' := [some (.ref 113)]) (st' := [.int (-1)]) rfl ?_
    cases h
    exact Q.ret (A.ri zm74 (show zM74.2.2.2.2.2[12]? = some (22, 1, .ireturn, []) from rfl) rfl rfl) hl
  · rw [if_neg hc1] at h
    refine Q.map (A.zF (gI_of zm74 (e := (4, 3, .ifCond .le 17, [11])) rfl) (fun q => hc1 (of_decide_eq_true q))) ?_
    refine Q.run zm74 1 (i' := 4) (ls' := [some (.ref 113)]) (st' := [.ref 113]) rfl ?_
    refine Q.map (A.gf (gI_of zm74 (e := (8, 3, .getfield 15, [7, 1])) rfl) (hl.lt (a := 113) (by decide)) (hl.T (a := 113) (p := (7, 4)) 35 rfl rfl) (by decide) (hl.R 17 rfl)) ?_
    refine Q.run zm74 1 (i' := 6) (ls' := [some (.ref 113)]) (st' := [.ref 113, .ref 115]) rfl ?_
    refine Q.map (A.gf (gI_of zm74 (e := (12, 3, .getfield 21, [7, 3])) rfl) (hl.lt (a := 113) (by decide)) (hl.T (a := 113) (p := (7, 4)) 35 rfl rfl) (by decide) rfl) ?_
    refine Q.run zm74 2 (i' := 9) (ls' := [some (.ref 113)]) (st' := [.int ((sI s 113 3) - 1), .ref 115]) rfl ?_
    obtain ⟨hc2, h⟩ := ite_so h
    refine Q.map (A.ia (gI_of zm74 (e := (17, 1, .iaload, [])) rfl) (hl.lt (a := 115) (by decide)) (hl.T (a := 115) (p := (100, 32)) 37 rfl rfl) hc2) ?_
    refine Q.run zm74 1 (i' := 12) (ls' := [some (.ref 113)]) (st' := [.int (sI s 115 (jN ((sI s 113 3) - 1)))]) rfl ?_
    cases h
    exact Q.ret (A.ri zm74 (show zM74.2.2.2.2.2[12]? = some (22, 1, .ireturn, []) from rfl) rfl rfl) hl
/-! 73 FormulaTrees$Brackets.areOfCall()Z -/
set_option maxRecDepth 100000 in
theorem zm73 : zP[73]? = some zM73 := rfl
def dm73 (s : aS) : Option (Int32) :=
  bu (dm74 s) fun r3 =>
  if r3 = (-1) then
    some 0
  else
    some 1
set_option maxRecDepth 100000 in
theorem dt73 {sio : Bool} {tt : Nat} {cc : Nat → Nat → Int32} {d : Nat} (hd : 1 ≤ d) {s : aS} (hl : Ly tt cc s) {o : Int32} (h : dm73  s = some o) : Q 1 sio tt cc d 73 0 [some (.ref 113)] [] s (.inl (some (.int o)), s) := by
  unfold dm73 at h
  obtain ⟨d, rfl⟩ : ∃ e, d = e + 1 := ⟨d - 1, by omega⟩
  refine Q.run zm73 1 (i' := 1) (ls' := [some (.ref 113)]) (st' := [.ref 113]) rfl ?_
  obtain ⟨r3, hc2, h⟩ := bu_so h
  have hq1 : Q 1 sio tt cc d 74 0 [some (.ref 113)] [] s (.inl (some (.int r3)), s) := dt74 (by omega) hl  hc2
  refine Q.callI (gC_vi zm73 (show zM73.2.2.2.2.2[1]? = some (1, 3, .invokevirtual 25, [0, 74, 0, 7]) from rfl) zm74 (hl.lt (a := 113) (by decide)) (hl.T (a := 113) (p := (7, 4)) 35 rfl rfl) rfl (show aCr 0 113 [.ref 113] 1 = some ([some (.ref 113)], []) from rfl)) hq1 ?_
  refine Q.run zm73 1 (i' := 3) (ls' := [some (.ref 113)]) (st' := [.int (-1), .int r3]) rfl ?_
  by_cases hc4 : r3 = (-1)
  · rw [if_pos hc4] at h
    refine Q.map (A.bT (gI_of zm73 (e := (5, 3, .if_icmp .eq 7, [6])) rfl) (decide_eq_true hc4)) ?_
    refine Q.run zm73 1 (i' := 7) (ls' := [some (.ref 113)]) (st' := [.int 0]) rfl ?_
    cases h
    exact Q.ret (A.ri zm73 (show zM73.2.2.2.2.2[7]? = some (13, 1, .ireturn, []) from rfl) rfl rfl) hl
  · rw [if_neg hc4] at h
    refine Q.map (A.bF (gI_of zm73 (e := (5, 3, .if_icmp .eq 7, [6])) rfl) (fun q => hc4 (of_decide_eq_true q))) ?_
    refine Q.run zm73 2 (i' := 7) (ls' := [some (.ref 113)]) (st' := [.int 1]) rfl ?_
    cases h
    exact Q.ret (A.ri zm73 (show zM73.2.2.2.2.2[7]? = some (13, 1, .ireturn, []) from rfl) rfl rfl) hl
/-! 76 FormulaTrees$Brackets.addArgument()V -/
set_option maxRecDepth 100000 in
theorem zm76 : zP[76]? = some zM76 := rfl
def dm76 (s : aS) : Option (aS) :=
  if (sI s 113 3) ≤ 0 then
    some s
  else
    if aB ((sI s 113 3) - 1) 32 then
      if aB ((sI s 113 3) - 1) 32 then
        nx (wI s 115 (jN ((sI s 113 3) - 1)) ((sI s 115 (jN ((sI s 113 3) - 1))) + 1)) fun s4 =>
        some s4
      else none
    else none
set_option maxRecDepth 100000 in
theorem dt76 {sio : Bool} {tt : Nat} {cc : Nat → Nat → Int32} {d : Nat} (hd : 0 ≤ d) {s : aS} (hl : Ly tt cc s) {o : aS} (h : dm76  s = some o) : Q 1 sio tt cc d 76 0 [some (.ref 113)] [] s (.inl none, o) := by
  unfold dm76 at h
  refine Q.run zm76 1 (i' := 1) (ls' := [some (.ref 113)]) (st' := [.ref 113]) rfl ?_
  refine Q.map (A.gf (gI_of zm76 (e := (1, 3, .getfield 21, [7, 3])) rfl) (hl.lt (a := 113) (by decide)) (hl.T (a := 113) (p := (7, 4)) 35 rfl rfl) (by decide) rfl) ?_
  by_cases hc1 : (sI s 113 3) ≤ 0
  · rw [if_pos hc1] at h
    refine Q.map (A.zT (gI_of zm76 (e := (4, 3, .ifCond .le 18, [14])) rfl) (decide_eq_true hc1)) ?_
    cases h
    exact Q.ret (A.rv zm76 (show zM76.2.2.2.2.2[14]? = some (22, 1, .return_, []) from rfl) rfl) hl
  · rw [if_neg hc1] at h
    refine Q.map (A.zF (gI_of zm76 (e := (4, 3, .ifCond .le 18, [14])) rfl) (fun q => hc1 (of_decide_eq_true q))) ?_
    refine Q.run zm76 1 (i' := 4) (ls' := [some (.ref 113)]) (st' := [.ref 113]) rfl ?_
    refine Q.map (A.gf (gI_of zm76 (e := (8, 3, .getfield 15, [7, 1])) rfl) (hl.lt (a := 113) (by decide)) (hl.T (a := 113) (p := (7, 4)) 35 rfl rfl) (by decide) (hl.R 17 rfl)) ?_
    refine Q.run zm76 1 (i' := 6) (ls' := [some (.ref 113)]) (st' := [.ref 113, .ref 115]) rfl ?_
    refine Q.map (A.gf (gI_of zm76 (e := (12, 3, .getfield 21, [7, 3])) rfl) (hl.lt (a := 113) (by decide)) (hl.T (a := 113) (p := (7, 4)) 35 rfl rfl) (by decide) rfl) ?_
    refine Q.run zm76 3 (i' := 10) (ls' := [some (.ref 113)]) (st' := [.int ((sI s 113 3) - 1), .ref 115, .int ((sI s 113 3) - 1), .ref 115]) rfl ?_
    obtain ⟨hc2, h⟩ := ite_so h
    refine Q.map (A.ia (gI_of zm76 (e := (18, 1, .iaload, [])) rfl) (hl.lt (a := 115) (by decide)) (hl.T (a := 115) (p := (100, 32)) 37 rfl rfl) hc2) ?_
    refine Q.run zm76 2 (i' := 13) (ls' := [some (.ref 113)]) (st' := [.int ((sI s 115 (jN ((sI s 113 3) - 1))) + 1), .int ((sI s 113 3) - 1), .ref 115]) rfl ?_
    obtain ⟨hc3, h⟩ := ite_so h
    obtain ⟨s4, hs5, h⟩ := nx_so h
    refine Q.is hs5 rfl (gI_of zm76 (e := (21, 1, .iastore, [])) rfl) (hl.lt (a := 115) (by decide)) (by decide) (hl.T (a := 115) (p := (100, 32)) 37 rfl rfl) hc3 ?_
    have hl6 : Ly tt cc s4 := by rw [hs5]; exact hl.wId (by decide)
    cases h
    exact Q.ret (A.rv zm76 (show zM76.2.2.2.2.2[14]? = some (22, 1, .return_, []) from rfl) rfl) hl6
/-! 78 FormulaTrees$Brackets.place()I -/
set_option maxRecDepth 100000 in
theorem zm78 : zP[78]? = some zM78 := rfl
def dm78 (s : aS) : Option (Int32) :=
  if (sI s 113 3) ≤ 0 then
    some 0
  else
    if aB ((sI s 113 3) - 1) 32 then
      some (sI s 114 (jN ((sI s 113 3) - 1)))
    else none
set_option maxRecDepth 100000 in
theorem dt78 {sio : Bool} {tt : Nat} {cc : Nat → Nat → Int32} {d : Nat} (hd : 0 ≤ d) {s : aS} (hl : Ly tt cc s) {o : Int32} (h : dm78  s = some o) : Q 1 sio tt cc d 78 0 [some (.ref 113)] [] s (.inl (some (.int o)), s) := by
  unfold dm78 at h
  refine Q.run zm78 1 (i' := 1) (ls' := [some (.ref 113)]) (st' := [.ref 113]) rfl ?_
  refine Q.map (A.gf (gI_of zm78 (e := (1, 3, .getfield 21, [7, 3])) rfl) (hl.lt (a := 113) (by decide)) (hl.T (a := 113) (p := (7, 4)) 35 rfl rfl) (by decide) rfl) ?_
  by_cases hc1 : (sI s 113 3) ≤ 0
  · rw [if_pos hc1] at h
    refine Q.map (A.zT (gI_of zm78 (e := (4, 3, .ifCond .le 17, [11])) rfl) (decide_eq_true hc1)) ?_
    refine Q.run zm78 1 (i' := 12) (ls' := [some (.ref 113)]) (st' := [.int 0]) rfl ?_
    cases h
    exact Q.ret (A.ri zm78 (show zM78.2.2.2.2.2[12]? = some (22, 1, .ireturn, []) from rfl) rfl rfl) hl
  · rw [if_neg hc1] at h
    refine Q.map (A.zF (gI_of zm78 (e := (4, 3, .ifCond .le 17, [11])) rfl) (fun q => hc1 (of_decide_eq_true q))) ?_
    refine Q.run zm78 1 (i' := 4) (ls' := [some (.ref 113)]) (st' := [.ref 113]) rfl ?_
    refine Q.map (A.gf (gI_of zm78 (e := (8, 3, .getfield 9, [7, 0])) rfl) (hl.lt (a := 113) (by decide)) (hl.T (a := 113) (p := (7, 4)) 35 rfl rfl) (by decide) (hl.R 16 rfl)) ?_
    refine Q.run zm78 1 (i' := 6) (ls' := [some (.ref 113)]) (st' := [.ref 113, .ref 114]) rfl ?_
    refine Q.map (A.gf (gI_of zm78 (e := (12, 3, .getfield 21, [7, 3])) rfl) (hl.lt (a := 113) (by decide)) (hl.T (a := 113) (p := (7, 4)) 35 rfl rfl) (by decide) rfl) ?_
    refine Q.run zm78 2 (i' := 9) (ls' := [some (.ref 113)]) (st' := [.int ((sI s 113 3) - 1), .ref 114]) rfl ?_
    obtain ⟨hc2, h⟩ := ite_so h
    refine Q.map (A.ia (gI_of zm78 (e := (17, 1, .iaload, [])) rfl) (hl.lt (a := 114) (by decide)) (hl.T (a := 114) (p := (100, 32)) 36 rfl rfl) hc2) ?_
    refine Q.run zm78 1 (i' := 12) (ls' := [some (.ref 113)]) (st' := [.int (sI s 114 (jN ((sI s 113 3) - 1)))]) rfl ?_
    cases h
    exact Q.ret (A.ri zm78 (show zM78.2.2.2.2.2[12]? = some (22, 1, .ireturn, []) from rfl) rfl rfl) hl
/-! 79 FormulaTrees$Brackets.base()I -/
set_option maxRecDepth 100000 in
theorem zm79 : zP[79]? = some zM79 := rfl
def dm79 (s : aS) : Option (Int32) :=
  if (sI s 113 3) ≤ 0 then
    some 0
  else
    if aB ((sI s 113 3) - 1) 32 then
      some (sI s 116 (jN ((sI s 113 3) - 1)))
    else none
set_option maxRecDepth 100000 in
theorem dt79 {sio : Bool} {tt : Nat} {cc : Nat → Nat → Int32} {d : Nat} (hd : 0 ≤ d) {s : aS} (hl : Ly tt cc s) {o : Int32} (h : dm79  s = some o) : Q 1 sio tt cc d 79 0 [some (.ref 113)] [] s (.inl (some (.int o)), s) := by
  unfold dm79 at h
  refine Q.run zm79 1 (i' := 1) (ls' := [some (.ref 113)]) (st' := [.ref 113]) rfl ?_
  refine Q.map (A.gf (gI_of zm79 (e := (1, 3, .getfield 21, [7, 3])) rfl) (hl.lt (a := 113) (by decide)) (hl.T (a := 113) (p := (7, 4)) 35 rfl rfl) (by decide) rfl) ?_
  by_cases hc1 : (sI s 113 3) ≤ 0
  · rw [if_pos hc1] at h
    refine Q.map (A.zT (gI_of zm79 (e := (4, 3, .ifCond .le 17, [11])) rfl) (decide_eq_true hc1)) ?_
    refine Q.run zm79 1 (i' := 12) (ls' := [some (.ref 113)]) (st' := [.int 0]) rfl ?_
    cases h
    exact Q.ret (A.ri zm79 (show zM79.2.2.2.2.2[12]? = some (22, 1, .ireturn, []) from rfl) rfl rfl) hl
  · rw [if_neg hc1] at h
    refine Q.map (A.zF (gI_of zm79 (e := (4, 3, .ifCond .le 17, [11])) rfl) (fun q => hc1 (of_decide_eq_true q))) ?_
    refine Q.run zm79 1 (i' := 4) (ls' := [some (.ref 113)]) (st' := [.ref 113]) rfl ?_
    refine Q.map (A.gf (gI_of zm79 (e := (8, 3, .getfield 18, [7, 2])) rfl) (hl.lt (a := 113) (by decide)) (hl.T (a := 113) (p := (7, 4)) 35 rfl rfl) (by decide) (hl.R 18 rfl)) ?_
    refine Q.run zm79 1 (i' := 6) (ls' := [some (.ref 113)]) (st' := [.ref 113, .ref 116]) rfl ?_
    refine Q.map (A.gf (gI_of zm79 (e := (12, 3, .getfield 21, [7, 3])) rfl) (hl.lt (a := 113) (by decide)) (hl.T (a := 113) (p := (7, 4)) 35 rfl rfl) (by decide) rfl) ?_
    refine Q.run zm79 2 (i' := 9) (ls' := [some (.ref 113)]) (st' := [.int ((sI s 113 3) - 1), .ref 116]) rfl ?_
    obtain ⟨hc2, h⟩ := ite_so h
    refine Q.map (A.ia (gI_of zm79 (e := (17, 1, .iaload, [])) rfl) (hl.lt (a := 116) (by decide)) (hl.T (a := 116) (p := (100, 32)) 38 rfl rfl) hc2) ?_
    refine Q.run zm79 1 (i' := 12) (ls' := [some (.ref 113)]) (st' := [.int (sI s 116 (jN ((sI s 113 3) - 1)))]) rfl ?_
    cases h
    exact Q.ret (A.ri zm79 (show zM79.2.2.2.2.2[12]? = some (22, 1, .ireturn, []) from rfl) rfl rfl) hl
/-! 80 FormulaTrees$Brackets.close()V -/
set_option maxRecDepth 100000 in
theorem zm80 : zP[80]? = some zM80 := rfl
def dm80 (s : aS) : Option (aS) :=
  if (sI s 113 3) ≤ 0 then
    some s
  else
    nx (wI s 113 3 ((sI s 113 3) - 1)) fun s2 =>
    some s2
set_option maxRecDepth 100000 in
theorem dt80 {sio : Bool} {tt : Nat} {cc : Nat → Nat → Int32} {d : Nat} (hd : 0 ≤ d) {s : aS} (hl : Ly tt cc s) {o : aS} (h : dm80  s = some o) : Q 1 sio tt cc d 80 0 [some (.ref 113)] [] s (.inl none, o) := by
  unfold dm80 at h
  refine Q.run zm80 1 (i' := 1) (ls' := [some (.ref 113)]) (st' := [.ref 113]) rfl ?_
  refine Q.map (A.gf (gI_of zm80 (e := (1, 3, .getfield 21, [7, 3])) rfl) (hl.lt (a := 113) (by decide)) (hl.T (a := 113) (p := (7, 4)) 35 rfl rfl) (by decide) rfl) ?_
  by_cases hc1 : (sI s 113 3) ≤ 0
  · rw [if_pos hc1] at h
    refine Q.map (A.zT (gI_of zm80 (e := (4, 3, .ifCond .le 13, [9])) rfl) (decide_eq_true hc1)) ?_
    cases h
    exact Q.ret (A.rv zm80 (show zM80.2.2.2.2.2[9]? = some (17, 1, .return_, []) from rfl) rfl) hl
  · rw [if_neg hc1] at h
    refine Q.map (A.zF (gI_of zm80 (e := (4, 3, .ifCond .le 13, [9])) rfl) (fun q => hc1 (of_decide_eq_true q))) ?_
    refine Q.run zm80 2 (i' := 5) (ls' := [some (.ref 113)]) (st' := [.ref 113, .ref 113]) rfl ?_
    refine Q.map (A.gf (gI_of zm80 (e := (9, 3, .getfield 21, [7, 3])) rfl) (hl.lt (a := 113) (by decide)) (hl.T (a := 113) (p := (7, 4)) 35 rfl rfl) (by decide) rfl) ?_
    refine Q.run zm80 2 (i' := 8) (ls' := [some (.ref 113)]) (st' := [.int ((sI s 113 3) - 1), .ref 113]) rfl ?_
    obtain ⟨s2, hs3, h⟩ := nx_so h
    refine Q.pf hs3 rfl (gI_of zm80 (e := (14, 3, .putfield 21, [7, 3, 0])) rfl) (hl.lt (a := 113) (by decide)) (by decide) (hl.T (a := 113) (p := (7, 4)) 35 rfl rfl) (by decide) rfl rfl ?_
    have hl4 : Ly tt cc s2 := by rw [hs3]; exact hl.wId (by decide)
    cases h
    exact Q.ret (A.rv zm80 (show zM80.2.2.2.2.2[9]? = some (17, 1, .return_, []) from rfl) rfl) hl4
/-! 81 FormulaTrees$Reader.endOperand(I)V -/
set_option maxRecDepth 100000 in
theorem zm81 : zP[81]? = some zM81 := rfl
def dm81 (x1 : Int32) (s : aS) : Option (aS) :=
  nx (wI s 106 10 x1) fun s1 =>
  nx (wI s1 106 9 4) fun s4 =>
  some s4
set_option maxRecDepth 100000 in
theorem dt81 {sio : Bool} {tt : Nat} {cc : Nat → Nat → Int32} {d : Nat} (hd : 0 ≤ d) {x1 : Int32} {s : aS} (hl : Ly tt cc s) {o : aS} (h : dm81  x1 s = some o) : Q 1 sio tt cc d 81 0 [some (.ref 106), some (.int x1)] [] s (.inl none, o) := by
  unfold dm81 at h
  refine Q.run zm81 2 (i' := 2) (ls' := [some (.ref 106), some (.int x1)]) (st' := [.int x1, .ref 106]) rfl ?_
  obtain ⟨s1, hs2, h⟩ := nx_so h
  refine Q.pf hs2 rfl (gI_of zm81 (e := (2, 3, .putfield 100, [4, 10, 0])) rfl) (hl.lt (a := 106) (by decide)) (by decide) (hl.T (a := 106) (p := (4, 13)) 28 rfl rfl) (by decide) rfl rfl ?_
  have hl3 : Ly tt cc s1 := by rw [hs2]; exact hl.wId (by decide)
  refine Q.run zm81 2 (i' := 5) (ls' := [some (.ref 106), some (.int x1)]) (st' := [.int 4, .ref 106]) rfl ?_
  obtain ⟨s4, hs5, h⟩ := nx_so h
  refine Q.pf hs5 rfl (gI_of zm81 (e := (7, 3, .putfield 68, [4, 9, 0])) rfl) (hl3.lt (a := 106) (by decide)) (by decide) (hl3.T (a := 106) (p := (4, 13)) 28 rfl rfl) (by decide) rfl rfl ?_
  have hl6 : Ly tt cc s4 := by rw [hs5]; exact hl3.wId (by decide)
  cases h
  exact Q.ret (A.rv zm81 (show zM81.2.2.2.2.2[6]? = some (10, 1, .return_, []) from rfl) rfl) hl6
/-! 77 FormulaTrees$Reader.closeBrackets()V -/
set_option maxRecDepth 100000 in
theorem zm77 : zP[77]? = some zM77 := rfl
def dm77_16 (x1 : Int32) (s : aS) : Option (aS) :=
  bu (dm79 s) fun r3 =>
  bu (dm65 r3 s) fun s6 =>
  bu (dm80 s6) fun s9 =>
  bu (dm81 x1 s9) fun s12 =>
  nx (wI s12 106 7 ((sI s12 106 7) + 1)) fun s13 =>
  some s13
set_option maxRecDepth 100000 in
theorem dt77_16 {sio : Bool} {tt : Nat} {cc : Nat → Nat → Int32} {d : Nat} (hd : 2 ≤ d) {x1 : Int32} {s : aS} (hl : Ly tt cc s) {o : aS} (h : dm77_16  x1 s = some o) : Q 1 sio tt cc d 77 16 [some (.ref 106), some (.int x1)] [] s (.inl none, o) := by
  unfold dm77_16 at h
  obtain ⟨d, rfl⟩ : ∃ e, d = e + 1 := ⟨d - 1, by omega⟩
  refine Q.run zm77 1 (i' := 17) (ls' := [some (.ref 106), some (.int x1)]) (st' := [.ref 106]) rfl ?_
  refine Q.map (A.gf (gI_of zm77 (e := (35, 3, .getfield 30, [4, 4])) rfl) (hl.lt (a := 106) (by decide)) (hl.T (a := 106) (p := (4, 13)) 28 rfl rfl) (by decide) (hl.R 12 rfl)) ?_
  refine Q.run zm77 1 (i' := 19) (ls' := [some (.ref 106), some (.int x1)]) (st' := [.ref 106, .ref 110]) rfl ?_
  refine Q.map (A.gf (gI_of zm77 (e := (39, 3, .getfield 37, [4, 5])) rfl) (hl.lt (a := 106) (by decide)) (hl.T (a := 106) (p := (4, 13)) 28 rfl rfl) (by decide) (hl.R 13 rfl)) ?_
  obtain ⟨r3, hc2, h⟩ := bu_so h
  have hq1 : Q 1 sio tt cc d 79 0 [some (.ref 113)] [] s (.inl (some (.int r3)), s) := dt79 (by omega) hl  hc2
  refine Q.callI (gC_vi zm77 (show zM77.2.2.2.2.2[20]? = some (42, 3, .invokevirtual 171, [0, 79, 0, 7]) from rfl) zm79 (hl.lt (a := 113) (by decide)) (hl.T (a := 113) (p := (7, 4)) 35 rfl rfl) rfl (show aCr 0 113 [.ref 113, .ref 110] 1 = some ([some (.ref 113)], [.ref 110]) from rfl)) hq1 ?_
  obtain ⟨s6, hc5, h⟩ := bu_so h
  have hq4 : Q 1 sio tt cc d 65 0 [some (.ref 110), some (.int r3)] [] s (.inl none, s6) := dt65 (by omega) hl  hc5
  refine Q.callV (gC_vi zm77 (show zM77.2.2.2.2.2[21]? = some (45, 3, .invokevirtual 57, [0, 65, 1, 6]) from rfl) zm65 (hl.lt (a := 110) (by decide)) (hl.T (a := 110) (p := (6, 3)) 32 rfl rfl) rfl (show aCr 1 110 [.int r3, .ref 110] 2 = some ([some (.ref 110), some (.int r3)], []) from rfl)) hq4 ?_
  refine Q.run zm77 1 (i' := 23) (ls' := [some (.ref 106), some (.int x1)]) (st' := [.ref 106]) rfl ?_
  refine Q.map (A.gf (gI_of zm77 (e := (49, 3, .getfield 37, [4, 5])) rfl) (hq4.1.lt (a := 106) (by decide)) (hq4.1.T (a := 106) (p := (4, 13)) 28 rfl rfl) (by decide) (hq4.1.R 13 rfl)) ?_
  obtain ⟨s9, hc8, h⟩ := bu_so h
  have hq7 : Q 1 sio tt cc d 80 0 [some (.ref 113)] [] s6 (.inl none, s9) := dt80 (by omega) hq4.1  hc8
  refine Q.callV (gC_vi zm77 (show zM77.2.2.2.2.2[24]? = some (52, 3, .invokevirtual 183, [0, 80, 0, 7]) from rfl) zm80 (hq4.1.lt (a := 113) (by decide)) (hq4.1.T (a := 113) (p := (7, 4)) 35 rfl rfl) rfl (show aCr 0 113 [.ref 113] 1 = some ([some (.ref 113)], []) from rfl)) hq7 ?_
  refine Q.run zm77 2 (i' := 27) (ls' := [some (.ref 106), some (.int x1)]) (st' := [.int x1, .ref 106]) rfl ?_
  obtain ⟨s12, hc11, h⟩ := bu_so h
  have hq10 : Q 1 sio tt cc d 81 0 [some (.ref 106), some (.int x1)] [] s9 (.inl none, s12) := dt81 (by omega) hq7.1  hc11
  refine Q.callV (gC_vi zm77 (show zM77.2.2.2.2.2[27]? = some (57, 3, .invokevirtual 186, [0, 81, 1, 4]) from rfl) zm81 (hq7.1.lt (a := 106) (by decide)) (hq7.1.T (a := 106) (p := (4, 13)) 28 rfl rfl) rfl (show aCr 1 106 [.int x1, .ref 106] 2 = some ([some (.ref 106), some (.int x1)], []) from rfl)) hq10 ?_
  refine Q.run zm77 2 (i' := 30) (ls' := [some (.ref 106), some (.int x1)]) (st' := [.ref 106, .ref 106]) rfl ?_
  refine Q.map (A.gf (gI_of zm77 (e := (62, 3, .getfield 61, [4, 7])) rfl) (hq10.1.lt (a := 106) (by decide)) (hq10.1.T (a := 106) (p := (4, 13)) 28 rfl rfl) (by decide) rfl) ?_
  refine Q.run zm77 2 (i' := 33) (ls' := [some (.ref 106), some (.int x1)]) (st' := [.int ((sI s12 106 7) + 1), .ref 106]) rfl ?_
  obtain ⟨s13, hs14, h⟩ := nx_so h
  refine Q.pf hs14 rfl (gI_of zm77 (e := (67, 3, .putfield 61, [4, 7, 0])) rfl) (hq10.1.lt (a := 106) (by decide)) (by decide) (hq10.1.T (a := 106) (p := (4, 13)) 28 rfl rfl) (by decide) rfl rfl ?_
  have hl15 : Ly tt cc s13 := by rw [hs14]; exact hq10.1.wId (by decide)
  cases h
  exact Q.ret (A.rv zm77 (show zM77.2.2.2.2.2[34]? = some (70, 1, .return_, []) from rfl) rfl) hl15
def dm77 (s : aS) : Option (aS) :=
  bu (dm78 s) fun r3 =>
  bu (dm73 s) fun r6 =>
  if r6 = 0 then
    dm77_16 r3 s
  else
    vN (sR s 106 6) (
      bu (dm74 s) fun r13 =>
      none
    ) fun b9 =>
      if aK s b9 3 then
        bu (dm74 s) fun r16 =>
        bu (dm60 b9 r3 1 r16 s) fun s19 =>
        dm77_16 r3 s19
      else none
set_option maxRecDepth 100000 in
theorem dt77 {sio : Bool} {tt : Nat} {cc : Nat → Nat → Int32} {d : Nat} (hd : 2 ≤ d) {s : aS} (hl : Ly tt cc s) {o : aS} (h : dm77  s = some o) : Q 1 sio tt cc d 77 0 [some (.ref 106), none] [] s (.inl none, o) := by
  unfold dm77 at h
  obtain ⟨d, rfl⟩ : ∃ e, d = e + 1 := ⟨d - 1, by omega⟩
  refine Q.run zm77 1 (i' := 1) (ls' := [some (.ref 106), none]) (st' := [.ref 106]) rfl ?_
  refine Q.map (A.gf (gI_of zm77 (e := (1, 3, .getfield 37, [4, 5])) rfl) (hl.lt (a := 106) (by decide)) (hl.T (a := 106) (p := (4, 13)) 28 rfl rfl) (by decide) (hl.R 13 rfl)) ?_
  obtain ⟨r3, hc2, h⟩ := bu_so h
  have hq1 : Q 1 sio tt cc d 78 0 [some (.ref 113)] [] s (.inl (some (.int r3)), s) := dt78 (by omega) hl  hc2
  refine Q.callI (gC_vi zm77 (show zM77.2.2.2.2.2[2]? = some (4, 3, .invokevirtual 174, [0, 78, 0, 7]) from rfl) zm78 (hl.lt (a := 113) (by decide)) (hl.T (a := 113) (p := (7, 4)) 35 rfl rfl) rfl (show aCr 0 113 [.ref 113] 1 = some ([some (.ref 113)], []) from rfl)) hq1 ?_
  refine Q.run zm77 2 (i' := 5) (ls' := [some (.ref 106), some (.int r3)]) (st' := [.ref 106]) rfl ?_
  refine Q.map (A.gf (gI_of zm77 (e := (9, 3, .getfield 37, [4, 5])) rfl) (hl.lt (a := 106) (by decide)) (hl.T (a := 106) (p := (4, 13)) 28 rfl rfl) (by decide) (hl.R 13 rfl)) ?_
  obtain ⟨r6, hc5, h⟩ := bu_so h
  have hq4 : Q 1 sio tt cc d 73 0 [some (.ref 113)] [] s (.inl (some (.int r6)), s) := dt73 (by omega) hl  hc5
  refine Q.callI (gC_vi zm77 (show zM77.2.2.2.2.2[6]? = some (12, 3, .invokevirtual 177, [0, 73, 0, 7]) from rfl) zm73 (hl.lt (a := 113) (by decide)) (hl.T (a := 113) (p := (7, 4)) 35 rfl rfl) rfl (show aCr 0 113 [.ref 113] 1 = some ([some (.ref 113)], []) from rfl)) hq4 ?_
  by_cases hc7 : r6 = 0
  · rw [if_pos hc7] at h
    refine Q.map (A.zT (gI_of zm77 (e := (15, 3, .ifCond .eq 19, [16])) rfl) (decide_eq_true hc7)) ?_
    exact dt77_16 hd hl  h
  · rw [if_neg hc7] at h
    refine Q.map (A.zF (gI_of zm77 (e := (15, 3, .ifCond .eq 19, [16])) rfl) (fun q => hc7 (of_decide_eq_true q))) ?_
    refine Q.run zm77 1 (i' := 9) (ls' := [some (.ref 106), some (.int r3)]) (st' := [.ref 106]) rfl ?_
    rcases vN_so h with ⟨hv8, h⟩ | ⟨b9, hv8, h⟩
    · refine Q.map (A.gf (gI_of zm77 (e := (19, 3, .getfield 48, [4, 6])) rfl) (hl.lt (a := 106) (by decide)) (hl.T (a := 106) (p := (4, 13)) 28 rfl rfl) (by decide) hv8) ?_
      refine Q.run zm77 3 (i' := 13) (ls' := [some (.ref 106), some (.int r3)]) (st' := [.ref 106, .int 1, .int r3, .null]) rfl ?_
      refine Q.map (A.gf (gI_of zm77 (e := (25, 3, .getfield 37, [4, 5])) rfl) (hl.lt (a := 106) (by decide)) (hl.T (a := 106) (p := (4, 13)) 28 rfl rfl) (by decide) (hl.R 13 rfl)) ?_
      obtain ⟨r13, hc12, h⟩ := bu_so h
      have hq11 : Q 1 sio tt cc d 74 0 [some (.ref 113)] [] s (.inl (some (.int r13)), s) := dt74 (by omega) hl  hc12
      refine Q.callI (gC_vi zm77 (show zM77.2.2.2.2.2[14]? = some (28, 3, .invokevirtual 159, [0, 74, 0, 7]) from rfl) zm74 (hl.lt (a := 113) (by decide)) (hl.T (a := 113) (p := (7, 4)) 35 rfl rfl) rfl (show aCr 0 113 [.ref 113, .int 1, .int r3, .null] 1 = some ([some (.ref 113)], [.int 1, .int r3, .null]) from rfl)) hq11 ?_
      cases h
    · obtain ⟨hr10, h⟩ := ite_so h
      refine Q.map (A.gf (gI_of zm77 (e := (19, 3, .getfield 48, [4, 6])) rfl) (hl.lt (a := 106) (by decide)) (hl.T (a := 106) (p := (4, 13)) 28 rfl rfl) (by decide) hv8) ?_
      refine Q.run zm77 3 (i' := 13) (ls' := [some (.ref 106), some (.int r3)]) (st' := [.ref 106, .int 1, .int r3, .ref b9]) rfl ?_
      refine Q.map (A.gf (gI_of zm77 (e := (25, 3, .getfield 37, [4, 5])) rfl) (hl.lt (a := 106) (by decide)) (hl.T (a := 106) (p := (4, 13)) 28 rfl rfl) (by decide) (hl.R 13 rfl)) ?_
      obtain ⟨r16, hc15, h⟩ := bu_so h
      have hq14 : Q 1 sio tt cc d 74 0 [some (.ref 113)] [] s (.inl (some (.int r16)), s) := dt74 (by omega) hl  hc15
      refine Q.callI (gC_vi zm77 (show zM77.2.2.2.2.2[14]? = some (28, 3, .invokevirtual 159, [0, 74, 0, 7]) from rfl) zm74 (hl.lt (a := 113) (by decide)) (hl.T (a := 113) (p := (7, 4)) 35 rfl rfl) rfl (show aCr 0 113 [.ref 113, .int 1, .int r3, .ref b9] 1 = some ([some (.ref 113)], [.int 1, .int r3, .ref b9]) from rfl)) hq14 ?_
      obtain ⟨s19, hc18, h⟩ := bu_so h
      have hq17 : Q 1 sio tt cc d 60 0 [some (.ref b9), some (.int r3), some (.int 1), some (.int r16)] [] s (.inl none, s19) := dt60 (by omega) hl hr10 hc18
      refine Q.callV (gC_vi zm77 (show zM77.2.2.2.2.2[15]? = some (31, 3, .invokevirtual 180, [0, 60, 3, 3]) from rfl) zm60 hr10.1 (hl.tr hr10).1 rfl (show aCr 3 b9 [.int r16, .int 1, .int r3, .ref b9] 4 = some ([some (.ref b9), some (.int r3), some (.int 1), some (.int r16)], []) from rfl)) hq17 ?_
      have hr20 : aK s19 b9 3 := hq17.2.1.k hr10
      exact dt77_16 hd hq17.1  h
/-! 75 FormulaTrees$Reader.endArgument(Z)V -/
set_option maxRecDepth 100000 in
theorem zm75 : zP[75]? = some zM75 := rfl
def dm75_14 (x1 : Int32) (s : aS) : Option (aS) :=
  bu (dm76 s) fun s3 =>
  if x1 = 0 then
    bu (dm79 s3) fun r7 =>
    bu (dm65 r7 s3) fun s10 =>
    nx (wI s10 106 9 0) fun s11 =>
    nx (wI s11 106 7 ((sI s11 106 7) + 1)) fun s14 =>
    some s14
  else
    bu (dm77 s3) fun s19 =>
    some s19
set_option maxRecDepth 100000 in
theorem dt75_14 {sio : Bool} {tt : Nat} {cc : Nat → Nat → Int32} {d : Nat} (hd : 3 ≤ d) {x1 : Int32} {s : aS} (hl : Ly tt cc s) {o : aS} (h : dm75_14  x1 s = some o) : Q 1 sio tt cc d 75 14 [some (.ref 106), some (.int x1)] [] s (.inl none, o) := by
  unfold dm75_14 at h
  obtain ⟨d, rfl⟩ : ∃ e, d = e + 1 := ⟨d - 1, by omega⟩
  refine Q.run zm75 1 (i' := 15) (ls' := [some (.ref 106), some (.int x1)]) (st' := [.ref 106]) rfl ?_
  refine Q.map (A.gf (gI_of zm75 (e := (28, 3, .getfield 37, [4, 5])) rfl) (hl.lt (a := 106) (by decide)) (hl.T (a := 106) (p := (4, 13)) 28 rfl rfl) (by decide) (hl.R 13 rfl)) ?_
  obtain ⟨s3, hc2, h⟩ := bu_so h
  have hq1 : Q 1 sio tt cc d 76 0 [some (.ref 113)] [] s (.inl none, s3) := dt76 (by omega) hl  hc2
  refine Q.callV (gC_vi zm75 (show zM75.2.2.2.2.2[16]? = some (31, 3, .invokevirtual 168, [0, 76, 0, 7]) from rfl) zm76 (hl.lt (a := 113) (by decide)) (hl.T (a := 113) (p := (7, 4)) 35 rfl rfl) rfl (show aCr 0 113 [.ref 113] 1 = some ([some (.ref 113)], []) from rfl)) hq1 ?_
  refine Q.run zm75 1 (i' := 18) (ls' := [some (.ref 106), some (.int x1)]) (st' := [.int x1]) rfl ?_
  by_cases hc4 : x1 = 0
  · rw [if_pos hc4] at h
    refine Q.map (A.zT (gI_of zm75 (e := (35, 3, .ifCond .eq 10, [22])) rfl) (decide_eq_true hc4)) ?_
    refine Q.run zm75 1 (i' := 23) (ls' := [some (.ref 106), some (.int x1)]) (st' := [.ref 106]) rfl ?_
    refine Q.map (A.gf (gI_of zm75 (e := (46, 3, .getfield 30, [4, 4])) rfl) (hq1.1.lt (a := 106) (by decide)) (hq1.1.T (a := 106) (p := (4, 13)) 28 rfl rfl) (by decide) (hq1.1.R 12 rfl)) ?_
    refine Q.run zm75 1 (i' := 25) (ls' := [some (.ref 106), some (.int x1)]) (st' := [.ref 106, .ref 110]) rfl ?_
    refine Q.map (A.gf (gI_of zm75 (e := (50, 3, .getfield 37, [4, 5])) rfl) (hq1.1.lt (a := 106) (by decide)) (hq1.1.T (a := 106) (p := (4, 13)) 28 rfl rfl) (by decide) (hq1.1.R 13 rfl)) ?_
    obtain ⟨r7, hc6, h⟩ := bu_so h
    have hq5 : Q 1 sio tt cc d 79 0 [some (.ref 113)] [] s3 (.inl (some (.int r7)), s3) := dt79 (by omega) hq1.1  hc6
    refine Q.callI (gC_vi zm75 (show zM75.2.2.2.2.2[26]? = some (53, 3, .invokevirtual 171, [0, 79, 0, 7]) from rfl) zm79 (hq1.1.lt (a := 113) (by decide)) (hq1.1.T (a := 113) (p := (7, 4)) 35 rfl rfl) rfl (show aCr 0 113 [.ref 113, .ref 110] 1 = some ([some (.ref 113)], [.ref 110]) from rfl)) hq5 ?_
    obtain ⟨s10, hc9, h⟩ := bu_so h
    have hq8 : Q 1 sio tt cc d 65 0 [some (.ref 110), some (.int r7)] [] s3 (.inl none, s10) := dt65 (by omega) hq1.1  hc9
    refine Q.callV (gC_vi zm75 (show zM75.2.2.2.2.2[27]? = some (56, 3, .invokevirtual 57, [0, 65, 1, 6]) from rfl) zm65 (hq1.1.lt (a := 110) (by decide)) (hq1.1.T (a := 110) (p := (6, 3)) 32 rfl rfl) rfl (show aCr 1 110 [.int r7, .ref 110] 2 = some ([some (.ref 110), some (.int r7)], []) from rfl)) hq8 ?_
    refine Q.run zm75 2 (i' := 30) (ls' := [some (.ref 106), some (.int x1)]) (st' := [.int 0, .ref 106]) rfl ?_
    obtain ⟨s11, hs12, h⟩ := nx_so h
    refine Q.pf hs12 rfl (gI_of zm75 (e := (61, 3, .putfield 68, [4, 9, 0])) rfl) (hq8.1.lt (a := 106) (by decide)) (by decide) (hq8.1.T (a := 106) (p := (4, 13)) 28 rfl rfl) (by decide) rfl rfl ?_
    have hl13 : Ly tt cc s11 := by rw [hs12]; exact hq8.1.wId (by decide)
    refine Q.run zm75 2 (i' := 33) (ls' := [some (.ref 106), some (.int x1)]) (st' := [.ref 106, .ref 106]) rfl ?_
    refine Q.map (A.gf (gI_of zm75 (e := (66, 3, .getfield 61, [4, 7])) rfl) (hl13.lt (a := 106) (by decide)) (hl13.T (a := 106) (p := (4, 13)) 28 rfl rfl) (by decide) rfl) ?_
    refine Q.run zm75 2 (i' := 36) (ls' := [some (.ref 106), some (.int x1)]) (st' := [.int ((sI s11 106 7) + 1), .ref 106]) rfl ?_
    obtain ⟨s14, hs15, h⟩ := nx_so h
    refine Q.pf hs15 rfl (gI_of zm75 (e := (71, 3, .putfield 61, [4, 7, 0])) rfl) (hl13.lt (a := 106) (by decide)) (by decide) (hl13.T (a := 106) (p := (4, 13)) 28 rfl rfl) (by decide) rfl rfl ?_
    have hl16 : Ly tt cc s14 := by rw [hs15]; exact hl13.wId (by decide)
    cases h
    exact Q.ret (A.rv zm75 (show zM75.2.2.2.2.2[37]? = some (74, 1, .return_, []) from rfl) rfl) hl16
  · rw [if_neg hc4] at h
    refine Q.map (A.zF (gI_of zm75 (e := (35, 3, .ifCond .eq 10, [22])) rfl) (fun q => hc4 (of_decide_eq_true q))) ?_
    refine Q.run zm75 1 (i' := 20) (ls' := [some (.ref 106), some (.int x1)]) (st' := [.ref 106]) rfl ?_
    obtain ⟨s19, hc18, h⟩ := bu_so h
    have hq17 : Q 1 sio tt cc d 77 0 [some (.ref 106), none] [] s3 (.inl none, s19) := dt77 (by omega) hq1.1  hc18
    refine Q.callV (gC_vi zm75 (show zM75.2.2.2.2.2[20]? = some (39, 3, .invokevirtual 162, [0, 77, 0, 4]) from rfl) zm77 (hq1.1.lt (a := 106) (by decide)) (hq1.1.T (a := 106) (p := (4, 13)) 28 rfl rfl) rfl (show aCr 0 106 [.ref 106] 2 = some ([some (.ref 106), none], []) from rfl)) hq17 ?_
    refine Q.run zm75 1 (i' := 37) (ls' := [some (.ref 106), some (.int x1)]) (st' := []) rfl ?_
    cases h
    exact Q.ret (A.rv zm75 (show zM75.2.2.2.2.2[37]? = some (74, 1, .return_, []) from rfl) rfl) hq17.1
def dm75 (x1 : Int32) (s : aS) : Option (aS) :=
  if x1 = 0 then
    bu (dm74 s) fun r4 =>
    if (r4 + 2) ≤ 30 then
      dm75_14 x1 s
    else
      nx (wI s 106 8 (sI s 106 7)) fun s6 =>
      some s6
  else
    dm75_14 x1 s
set_option maxRecDepth 100000 in
theorem dt75 {sio : Bool} {tt : Nat} {cc : Nat → Nat → Int32} {d : Nat} (hd : 3 ≤ d) {x1 : Int32} {s : aS} (hl : Ly tt cc s) {o : aS} (h : dm75  x1 s = some o) : Q 1 sio tt cc d 75 0 [some (.ref 106), some (.int x1)] [] s (.inl none, o) := by
  unfold dm75 at h
  obtain ⟨d, rfl⟩ : ∃ e, d = e + 1 := ⟨d - 1, by omega⟩
  refine Q.run zm75 1 (i' := 1) (ls' := [some (.ref 106), some (.int x1)]) (st' := [.int x1]) rfl ?_
  by_cases hc1 : x1 = 0
  · rw [if_pos hc1] at h
    refine Q.map (A.zF (gI_of zm75 (e := (1, 3, .ifCond .ne 26, [14])) rfl) (fun q => of_decide_eq_true q hc1)) ?_
    refine Q.run zm75 1 (i' := 3) (ls' := [some (.ref 106), some (.int x1)]) (st' := [.ref 106]) rfl ?_
    refine Q.map (A.gf (gI_of zm75 (e := (5, 3, .getfield 37, [4, 5])) rfl) (hl.lt (a := 106) (by decide)) (hl.T (a := 106) (p := (4, 13)) 28 rfl rfl) (by decide) (hl.R 13 rfl)) ?_
    obtain ⟨r4, hc3, h⟩ := bu_so h
    have hq2 : Q 1 sio tt cc d 74 0 [some (.ref 113)] [] s (.inl (some (.int r4)), s) := dt74 (by omega) hl  hc3
    refine Q.callI (gC_vi zm75 (show zM75.2.2.2.2.2[4]? = some (8, 3, .invokevirtual 159, [0, 74, 0, 7]) from rfl) zm74 (hl.lt (a := 113) (by decide)) (hl.T (a := 113) (p := (7, 4)) 35 rfl rfl) rfl (show aCr 0 113 [.ref 113] 1 = some ([some (.ref 113)], []) from rfl)) hq2 ?_
    refine Q.run zm75 3 (i' := 8) (ls' := [some (.ref 106), some (.int x1)]) (st' := [.int 30, .int (r4 + 2)]) rfl ?_
    by_cases hc5 : (r4 + 2) ≤ 30
    · rw [if_pos hc5] at h
      refine Q.map (A.bT (gI_of zm75 (e := (15, 3, .if_icmp .le 12, [14])) rfl) (decide_eq_true hc5)) ?_
      exact dt75_14 hd hl  h
    · rw [if_neg hc5] at h
      refine Q.map (A.bF (gI_of zm75 (e := (15, 3, .if_icmp .le 12, [14])) rfl) (fun q => hc5 (of_decide_eq_true q))) ?_
      refine Q.run zm75 2 (i' := 11) (ls' := [some (.ref 106), some (.int x1)]) (st' := [.ref 106, .ref 106]) rfl ?_
      refine Q.map (A.gf (gI_of zm75 (e := (20, 3, .getfield 61, [4, 7])) rfl) (hl.lt (a := 106) (by decide)) (hl.T (a := 106) (p := (4, 13)) 28 rfl rfl) (by decide) rfl) ?_
      obtain ⟨s6, hs7, h⟩ := nx_so h
      refine Q.pf hs7 rfl (gI_of zm75 (e := (23, 3, .putfield 65, [4, 8, 0])) rfl) (hl.lt (a := 106) (by decide)) (by decide) (hl.T (a := 106) (p := (4, 13)) 28 rfl rfl) (by decide) rfl rfl ?_
      have hl8 : Ly tt cc s6 := by rw [hs7]; exact hl.wId (by decide)
      cases h
      exact Q.ret (A.rv zm75 (show zM75.2.2.2.2.2[13]? = some (26, 1, .return_, []) from rfl) rfl) hl8
  · rw [if_neg hc1] at h
    refine Q.map (A.zT (gI_of zm75 (e := (1, 3, .ifCond .ne 26, [14])) rfl) (decide_eq_true hc1)) ?_
    exact dt75_14 hd hl  h
/-! 82 FormulaTrees$Brackets.open()I -/
set_option maxRecDepth 100000 in
theorem zm82 : zP[82]? = some zM82 := rfl
def dm82 (s : aS) : Option (Int32) :=
  some (sI s 113 3)
set_option maxRecDepth 100000 in
theorem dt82 {sio : Bool} {tt : Nat} {cc : Nat → Nat → Int32} {d : Nat} (hd : 0 ≤ d) {s : aS} (hl : Ly tt cc s) {o : Int32} (h : dm82  s = some o) : Q 1 sio tt cc d 82 0 [some (.ref 113)] [] s (.inl (some (.int o)), s) := by
  unfold dm82 at h
  refine Q.run zm82 1 (i' := 1) (ls' := [some (.ref 113)]) (st' := [.ref 113]) rfl ?_
  refine Q.map (A.gf (gI_of zm82 (e := (1, 3, .getfield 21, [7, 3])) rfl) (hl.lt (a := 113) (by decide)) (hl.T (a := 113) (p := (7, 4)) 35 rfl rfl) (by decide) rfl) ?_
  cases h
  exact Q.ret (A.ri zm82 (show zM82.2.2.2.2.2[2]? = some (4, 1, .ireturn, []) from rfl) rfl rfl) hl
/-! 83 FormulaTrees$Reader.kindBetween(II)I -/
set_option maxRecDepth 100000 in
theorem zm83 : zP[83]? = some zM83 := rfl
def dm83 (x0 : Int32) (x1 : Int32) : Option (Int32) :=
  if x0 = 38 then
    some 16
  else
    if x0 = 42 then
      some 12
    else
      if x0 = 43 then
        some 14
      else
        if x0 = 45 then
          some 15
        else
          if x0 = 47 then
            some 13
          else
            if x0 = 60 then
              if x1 = 62 then
                some 18
              else
                if x1 = 61 then
                  some 21
                else
                  some 19
            else
              if x0 = 61 then
                some 17
              else
                if x0 = 62 then
                  if x1 = 61 then
                    some 22
                  else
                    some 20
                else
                  if x0 = 94 then
                    some 11
                  else
                    some (-1)
set_option maxRecDepth 100000 in
theorem dt83 {sio : Bool} {tt : Nat} {cc : Nat → Nat → Int32} {d : Nat} (hd : 0 ≤ d) {x0 : Int32} {x1 : Int32} {s : aS} (hl : Ly tt cc s) {o : Int32} (h : dm83  x0 x1 = some o) : Q 1 sio tt cc d 83 0 [some (.int x0), some (.int x1)] [] s (.inl (some (.int o)), s) := by
  unfold dm83 at h
  refine Q.run zm83 1 (i' := 1) (ls' := [some (.int x0), some (.int x1)]) (st' := [.int x0]) rfl ?_
  by_cases hc1 : x0 = 38
  · rw [if_pos hc1] at h
    refine Q.map (A.lk (gI_of zm83 (e := (1, 83, .lookupswitch 143 #[(38, 98), (42, 86), (43, 92), (45, 95), (47, 89), (60, 104), (61, 101), (62, 129), (94, 83)], [35, 12, 4, 8, 10, 6, 16, 14, 28, 2])) rfl) (t := 12) (by rw [hc1] <;> decide)) ?_
    refine Q.run zm83 1 (i' := 13) (ls' := [some (.int x0), some (.int x1)]) (st' := [.int 16]) rfl ?_
    cases h
    exact Q.ret (A.ri zm83 (show zM83.2.2.2.2.2[13]? = some (101, 1, .ireturn, []) from rfl) rfl rfl) hl
  · rw [if_neg hc1] at h
    by_cases hc2 : x0 = 42
    · rw [if_pos hc2] at h
      refine Q.map (A.lk (gI_of zm83 (e := (1, 83, .lookupswitch 143 #[(38, 98), (42, 86), (43, 92), (45, 95), (47, 89), (60, 104), (61, 101), (62, 129), (94, 83)], [35, 12, 4, 8, 10, 6, 16, 14, 28, 2])) rfl) (t := 4) (by rw [hc2] <;> decide)) ?_
      refine Q.run zm83 1 (i' := 5) (ls' := [some (.int x0), some (.int x1)]) (st' := [.int 12]) rfl ?_
      cases h
      exact Q.ret (A.ri zm83 (show zM83.2.2.2.2.2[5]? = some (89, 1, .ireturn, []) from rfl) rfl rfl) hl
    · rw [if_neg hc2] at h
      by_cases hc3 : x0 = 43
      · rw [if_pos hc3] at h
        refine Q.map (A.lk (gI_of zm83 (e := (1, 83, .lookupswitch 143 #[(38, 98), (42, 86), (43, 92), (45, 95), (47, 89), (60, 104), (61, 101), (62, 129), (94, 83)], [35, 12, 4, 8, 10, 6, 16, 14, 28, 2])) rfl) (t := 8) (by rw [hc3] <;> decide)) ?_
        refine Q.run zm83 1 (i' := 9) (ls' := [some (.int x0), some (.int x1)]) (st' := [.int 14]) rfl ?_
        cases h
        exact Q.ret (A.ri zm83 (show zM83.2.2.2.2.2[9]? = some (95, 1, .ireturn, []) from rfl) rfl rfl) hl
      · rw [if_neg hc3] at h
        by_cases hc4 : x0 = 45
        · rw [if_pos hc4] at h
          refine Q.map (A.lk (gI_of zm83 (e := (1, 83, .lookupswitch 143 #[(38, 98), (42, 86), (43, 92), (45, 95), (47, 89), (60, 104), (61, 101), (62, 129), (94, 83)], [35, 12, 4, 8, 10, 6, 16, 14, 28, 2])) rfl) (t := 10) (by rw [hc4] <;> decide)) ?_
          refine Q.run zm83 1 (i' := 11) (ls' := [some (.int x0), some (.int x1)]) (st' := [.int 15]) rfl ?_
          cases h
          exact Q.ret (A.ri zm83 (show zM83.2.2.2.2.2[11]? = some (98, 1, .ireturn, []) from rfl) rfl rfl) hl
        · rw [if_neg hc4] at h
          by_cases hc5 : x0 = 47
          · rw [if_pos hc5] at h
            refine Q.map (A.lk (gI_of zm83 (e := (1, 83, .lookupswitch 143 #[(38, 98), (42, 86), (43, 92), (45, 95), (47, 89), (60, 104), (61, 101), (62, 129), (94, 83)], [35, 12, 4, 8, 10, 6, 16, 14, 28, 2])) rfl) (t := 6) (by rw [hc5] <;> decide)) ?_
            refine Q.run zm83 1 (i' := 7) (ls' := [some (.int x0), some (.int x1)]) (st' := [.int 13]) rfl ?_
            cases h
            exact Q.ret (A.ri zm83 (show zM83.2.2.2.2.2[7]? = some (92, 1, .ireturn, []) from rfl) rfl rfl) hl
          · rw [if_neg hc5] at h
            by_cases hc6 : x0 = 60
            · rw [if_pos hc6] at h
              refine Q.map (A.lk (gI_of zm83 (e := (1, 83, .lookupswitch 143 #[(38, 98), (42, 86), (43, 92), (45, 95), (47, 89), (60, 104), (61, 101), (62, 129), (94, 83)], [35, 12, 4, 8, 10, 6, 16, 14, 28, 2])) rfl) (t := 16) (by rw [hc6] <;> decide)) ?_
              refine Q.run zm83 2 (i' := 18) (ls' := [some (.int x0), some (.int x1)]) (st' := [.int 62, .int x1]) rfl ?_
              by_cases hc7 : x1 = 62
              · rw [if_pos hc7] at h
                refine Q.map (A.bF (gI_of zm83 (e := (108, 3, .if_icmp .ne 8, [21])) rfl) (fun q => of_decide_eq_true q hc7)) ?_
                refine Q.run zm83 2 (i' := 27) (ls' := [some (.int x0), some (.int x1)]) (st' := [.int 18]) rfl ?_
                cases h
                exact Q.ret (A.ri zm83 (show zM83.2.2.2.2.2[27]? = some (129, 1, .ireturn, []) from rfl) rfl rfl) hl
              · rw [if_neg hc7] at h
                refine Q.map (A.bT (gI_of zm83 (e := (108, 3, .if_icmp .ne 8, [21])) rfl) (decide_eq_true hc7)) ?_
                refine Q.run zm83 2 (i' := 23) (ls' := [some (.int x0), some (.int x1)]) (st' := [.int 61, .int x1]) rfl ?_
                by_cases hc8 : x1 = 61
                · rw [if_pos hc8] at h
                  refine Q.map (A.bF (gI_of zm83 (e := (119, 3, .if_icmp .ne 8, [26])) rfl) (fun q => of_decide_eq_true q hc8)) ?_
                  refine Q.run zm83 2 (i' := 27) (ls' := [some (.int x0), some (.int x1)]) (st' := [.int 21]) rfl ?_
                  cases h
                  exact Q.ret (A.ri zm83 (show zM83.2.2.2.2.2[27]? = some (129, 1, .ireturn, []) from rfl) rfl rfl) hl
                · rw [if_neg hc8] at h
                  refine Q.map (A.bT (gI_of zm83 (e := (119, 3, .if_icmp .ne 8, [26])) rfl) (decide_eq_true hc8)) ?_
                  refine Q.run zm83 1 (i' := 27) (ls' := [some (.int x0), some (.int x1)]) (st' := [.int 19]) rfl ?_
                  cases h
                  exact Q.ret (A.ri zm83 (show zM83.2.2.2.2.2[27]? = some (129, 1, .ireturn, []) from rfl) rfl rfl) hl
            · rw [if_neg hc6] at h
              by_cases hc9 : x0 = 61
              · rw [if_pos hc9] at h
                refine Q.map (A.lk (gI_of zm83 (e := (1, 83, .lookupswitch 143 #[(38, 98), (42, 86), (43, 92), (45, 95), (47, 89), (60, 104), (61, 101), (62, 129), (94, 83)], [35, 12, 4, 8, 10, 6, 16, 14, 28, 2])) rfl) (t := 14) (by rw [hc9] <;> decide)) ?_
                refine Q.run zm83 1 (i' := 15) (ls' := [some (.int x0), some (.int x1)]) (st' := [.int 17]) rfl ?_
                cases h
                exact Q.ret (A.ri zm83 (show zM83.2.2.2.2.2[15]? = some (104, 1, .ireturn, []) from rfl) rfl rfl) hl
              · rw [if_neg hc9] at h
                by_cases hc10 : x0 = 62
                · rw [if_pos hc10] at h
                  refine Q.map (A.lk (gI_of zm83 (e := (1, 83, .lookupswitch 143 #[(38, 98), (42, 86), (43, 92), (45, 95), (47, 89), (60, 104), (61, 101), (62, 129), (94, 83)], [35, 12, 4, 8, 10, 6, 16, 14, 28, 2])) rfl) (t := 28) (by rw [hc10] <;> decide)) ?_
                  refine Q.run zm83 2 (i' := 30) (ls' := [some (.int x0), some (.int x1)]) (st' := [.int 61, .int x1]) rfl ?_
                  by_cases hc11 : x1 = 61
                  · rw [if_pos hc11] at h
                    refine Q.map (A.bF (gI_of zm83 (e := (133, 3, .if_icmp .ne 8, [33])) rfl) (fun q => of_decide_eq_true q hc11)) ?_
                    refine Q.run zm83 2 (i' := 34) (ls' := [some (.int x0), some (.int x1)]) (st' := [.int 22]) rfl ?_
                    cases h
                    exact Q.ret (A.ri zm83 (show zM83.2.2.2.2.2[34]? = some (143, 1, .ireturn, []) from rfl) rfl rfl) hl
                  · rw [if_neg hc11] at h
                    refine Q.map (A.bT (gI_of zm83 (e := (133, 3, .if_icmp .ne 8, [33])) rfl) (decide_eq_true hc11)) ?_
                    refine Q.run zm83 1 (i' := 34) (ls' := [some (.int x0), some (.int x1)]) (st' := [.int 20]) rfl ?_
                    cases h
                    exact Q.ret (A.ri zm83 (show zM83.2.2.2.2.2[34]? = some (143, 1, .ireturn, []) from rfl) rfl rfl) hl
                · rw [if_neg hc10] at h
                  by_cases hc12 : x0 = 94
                  · rw [if_pos hc12] at h
                    refine Q.map (A.lk (gI_of zm83 (e := (1, 83, .lookupswitch 143 #[(38, 98), (42, 86), (43, 92), (45, 95), (47, 89), (60, 104), (61, 101), (62, 129), (94, 83)], [35, 12, 4, 8, 10, 6, 16, 14, 28, 2])) rfl) (t := 2) (by rw [hc12] <;> decide)) ?_
                    refine Q.run zm83 1 (i' := 3) (ls' := [some (.int x0), some (.int x1)]) (st' := [.int 11]) rfl ?_
                    cases h
                    exact Q.ret (A.ri zm83 (show zM83.2.2.2.2.2[3]? = some (86, 1, .ireturn, []) from rfl) rfl rfl) hl
                  · rw [if_neg hc12] at h
                    refine Q.map (A.lk (gI_of zm83 (e := (1, 83, .lookupswitch 143 #[(38, 98), (42, 86), (43, 92), (45, 95), (47, 89), (60, 104), (61, 101), (62, 129), (94, 83)], [35, 12, 4, 8, 10, 6, 16, 14, 28, 2])) rfl) (t := 35) (by have := (show x0.toInt ≠ 38 ∧ x0.toInt ≠ 42 ∧ x0.toInt ≠ 43 ∧ x0.toInt ≠ 45 ∧ x0.toInt ≠ 47 ∧ x0.toInt ≠ 60 ∧ x0.toInt ≠ 61 ∧ x0.toInt ≠ 62 ∧ x0.toInt ≠ 94 from ⟨i32_ne (n := 38) hc1 (by decide), i32_ne (n := 42) hc2 (by decide), i32_ne (n := 43) hc3 (by decide), i32_ne (n := 45) hc4 (by decide), i32_ne (n := 47) hc5 (by decide), i32_ne (n := 60) hc6 (by decide), i32_ne (n := 61) hc9 (by decide), i32_ne (n := 62) hc10 (by decide), i32_ne (n := 94) hc12 (by decide)⟩); simp [xlk, this])) ?_
                    refine Q.run zm83 1 (i' := 36) (ls' := [some (.int x0), some (.int x1)]) (st' := [.int (-1)]) rfl ?_
                    cases h
                    exact Q.ret (A.ri zm83 (show zM83.2.2.2.2.2[36]? = some (145, 1, .ireturn, []) from rfl) rfl rfl) hl
/-! 85 FormulaTrees.rankOf(I)I -/
set_option maxRecDepth 100000 in
theorem zm85 : zP[85]? = some zM85 := rfl
def dm85 (x0 : Int32) : Option (Int32) :=
  if x0 = 9 then
    some 7
  else
    if x0 = 10 then
      some 6
    else
      if x0 = 11 then
        some 5
      else
        if x0 = 12 then
          some 4
        else
          if x0 = 13 then
            some 4
          else
            if x0 = 14 then
              some 3
            else
              if x0 = 15 then
                some 3
              else
                if x0 = 16 then
                  some 2
                else
                  if x0 < 17 then
                    some 8
                  else
                    if 22 < x0 then
                      some 8
                    else
                      some 1
set_option maxRecDepth 100000 in
theorem dt85 {sio : Bool} {tt : Nat} {cc : Nat → Nat → Int32} {d : Nat} (hd : 0 ≤ d) {x0 : Int32} {s : aS} (hl : Ly tt cc s) {o : Int32} (h : dm85  x0 = some o) : Q 1 sio tt cc d 85 0 [some (.int x0)] [] s (.inl (some (.int o)), s) := by
  unfold dm85 at h
  refine Q.run zm85 1 (i' := 1) (ls' := [some (.int x0)]) (st' := [.int x0]) rfl ?_
  by_cases hc1 : x0 = 9
  · rw [if_pos hc1] at h
    refine Q.map (A.ts (gI_of zm85 (e := (1, 47, .tableswitch 61 9 16 #[47, 50, 53, 55, 55, 57, 57, 59], [14, 2, 4, 6, 8, 8, 10, 10, 12])) rfl) (t := 2) (by rw [hc1] <;> decide)) ?_
    refine Q.run zm85 1 (i' := 3) (ls' := [some (.int x0)]) (st' := [.int 7]) rfl ?_
    cases h
    exact Q.ret (A.ri zm85 (show zM85.2.2.2.2.2[3]? = some (50, 1, .ireturn, []) from rfl) rfl rfl) hl
  · rw [if_neg hc1] at h
    by_cases hc2 : x0 = 10
    · rw [if_pos hc2] at h
      refine Q.map (A.ts (gI_of zm85 (e := (1, 47, .tableswitch 61 9 16 #[47, 50, 53, 55, 55, 57, 57, 59], [14, 2, 4, 6, 8, 8, 10, 10, 12])) rfl) (t := 4) (by rw [hc2] <;> decide)) ?_
      refine Q.run zm85 1 (i' := 5) (ls' := [some (.int x0)]) (st' := [.int 6]) rfl ?_
      cases h
      exact Q.ret (A.ri zm85 (show zM85.2.2.2.2.2[5]? = some (53, 1, .ireturn, []) from rfl) rfl rfl) hl
    · rw [if_neg hc2] at h
      by_cases hc3 : x0 = 11
      · rw [if_pos hc3] at h
        refine Q.map (A.ts (gI_of zm85 (e := (1, 47, .tableswitch 61 9 16 #[47, 50, 53, 55, 55, 57, 57, 59], [14, 2, 4, 6, 8, 8, 10, 10, 12])) rfl) (t := 6) (by rw [hc3] <;> decide)) ?_
        refine Q.run zm85 1 (i' := 7) (ls' := [some (.int x0)]) (st' := [.int 5]) rfl ?_
        cases h
        exact Q.ret (A.ri zm85 (show zM85.2.2.2.2.2[7]? = some (55, 1, .ireturn, []) from rfl) rfl rfl) hl
      · rw [if_neg hc3] at h
        by_cases hc4 : x0 = 12
        · rw [if_pos hc4] at h
          refine Q.map (A.ts (gI_of zm85 (e := (1, 47, .tableswitch 61 9 16 #[47, 50, 53, 55, 55, 57, 57, 59], [14, 2, 4, 6, 8, 8, 10, 10, 12])) rfl) (t := 8) (by rw [hc4] <;> decide)) ?_
          refine Q.run zm85 1 (i' := 9) (ls' := [some (.int x0)]) (st' := [.int 4]) rfl ?_
          cases h
          exact Q.ret (A.ri zm85 (show zM85.2.2.2.2.2[9]? = some (57, 1, .ireturn, []) from rfl) rfl rfl) hl
        · rw [if_neg hc4] at h
          by_cases hc5 : x0 = 13
          · rw [if_pos hc5] at h
            refine Q.map (A.ts (gI_of zm85 (e := (1, 47, .tableswitch 61 9 16 #[47, 50, 53, 55, 55, 57, 57, 59], [14, 2, 4, 6, 8, 8, 10, 10, 12])) rfl) (t := 8) (by rw [hc5] <;> decide)) ?_
            refine Q.run zm85 1 (i' := 9) (ls' := [some (.int x0)]) (st' := [.int 4]) rfl ?_
            cases h
            exact Q.ret (A.ri zm85 (show zM85.2.2.2.2.2[9]? = some (57, 1, .ireturn, []) from rfl) rfl rfl) hl
          · rw [if_neg hc5] at h
            by_cases hc6 : x0 = 14
            · rw [if_pos hc6] at h
              refine Q.map (A.ts (gI_of zm85 (e := (1, 47, .tableswitch 61 9 16 #[47, 50, 53, 55, 55, 57, 57, 59], [14, 2, 4, 6, 8, 8, 10, 10, 12])) rfl) (t := 10) (by rw [hc6] <;> decide)) ?_
              refine Q.run zm85 1 (i' := 11) (ls' := [some (.int x0)]) (st' := [.int 3]) rfl ?_
              cases h
              exact Q.ret (A.ri zm85 (show zM85.2.2.2.2.2[11]? = some (59, 1, .ireturn, []) from rfl) rfl rfl) hl
            · rw [if_neg hc6] at h
              by_cases hc7 : x0 = 15
              · rw [if_pos hc7] at h
                refine Q.map (A.ts (gI_of zm85 (e := (1, 47, .tableswitch 61 9 16 #[47, 50, 53, 55, 55, 57, 57, 59], [14, 2, 4, 6, 8, 8, 10, 10, 12])) rfl) (t := 10) (by rw [hc7] <;> decide)) ?_
                refine Q.run zm85 1 (i' := 11) (ls' := [some (.int x0)]) (st' := [.int 3]) rfl ?_
                cases h
                exact Q.ret (A.ri zm85 (show zM85.2.2.2.2.2[11]? = some (59, 1, .ireturn, []) from rfl) rfl rfl) hl
              · rw [if_neg hc7] at h
                by_cases hc8 : x0 = 16
                · rw [if_pos hc8] at h
                  refine Q.map (A.ts (gI_of zm85 (e := (1, 47, .tableswitch 61 9 16 #[47, 50, 53, 55, 55, 57, 57, 59], [14, 2, 4, 6, 8, 8, 10, 10, 12])) rfl) (t := 12) (by rw [hc8] <;> decide)) ?_
                  refine Q.run zm85 1 (i' := 13) (ls' := [some (.int x0)]) (st' := [.int 2]) rfl ?_
                  cases h
                  exact Q.ret (A.ri zm85 (show zM85.2.2.2.2.2[13]? = some (61, 1, .ireturn, []) from rfl) rfl rfl) hl
                · rw [if_neg hc8] at h
                  refine Q.map (A.ts (gI_of zm85 (e := (1, 47, .tableswitch 61 9 16 #[47, 50, 53, 55, 55, 57, 57, 59], [14, 2, 4, 6, 8, 8, 10, 10, 12])) rfl) (t := 14) (by have := (show x0.toInt ≠ 9 ∧ x0.toInt ≠ 10 ∧ x0.toInt ≠ 11 ∧ x0.toInt ≠ 12 ∧ x0.toInt ≠ 13 ∧ x0.toInt ≠ 14 ∧ x0.toInt ≠ 15 ∧ x0.toInt ≠ 16 from ⟨i32_ne (n := 9) hc1 (by decide), i32_ne (n := 10) hc2 (by decide), i32_ne (n := 11) hc3 (by decide), i32_ne (n := 12) hc4 (by decide), i32_ne (n := 13) hc5 (by decide), i32_ne (n := 14) hc6 (by decide), i32_ne (n := 15) hc7 (by decide), i32_ne (n := 16) hc8 (by decide)⟩); rw [if_pos]; omega)) ?_
                  refine Q.run zm85 2 (i' := 16) (ls' := [some (.int x0)]) (st' := [.int 17, .int x0]) rfl ?_
                  by_cases hc9 : x0 < 17
                  · rw [if_pos hc9] at h
                    refine Q.map (A.bT (gI_of zm85 (e := (65, 3, .if_icmp .lt 13, [22])) rfl) (decide_eq_true hc9)) ?_
                    refine Q.run zm85 1 (i' := 23) (ls' := [some (.int x0)]) (st' := [.int 8]) rfl ?_
                    cases h
                    exact Q.ret (A.ri zm85 (show zM85.2.2.2.2.2[23]? = some (80, 1, .ireturn, []) from rfl) rfl rfl) hl
                  · rw [if_neg hc9] at h
                    refine Q.map (A.bF (gI_of zm85 (e := (65, 3, .if_icmp .lt 13, [22])) rfl) (fun q => hc9 (of_decide_eq_true q))) ?_
                    refine Q.run zm85 2 (i' := 19) (ls' := [some (.int x0)]) (st' := [.int 22, .int x0]) rfl ?_
                    by_cases hc10 : 22 < x0
                    · rw [if_pos hc10] at h
                      refine Q.map (A.bT (gI_of zm85 (e := (71, 3, .if_icmp .gt 7, [22])) rfl) (decide_eq_true hc10)) ?_
                      refine Q.run zm85 1 (i' := 23) (ls' := [some (.int x0)]) (st' := [.int 8]) rfl ?_
                      cases h
                      exact Q.ret (A.ri zm85 (show zM85.2.2.2.2.2[23]? = some (80, 1, .ireturn, []) from rfl) rfl rfl) hl
                    · rw [if_neg hc10] at h
                      refine Q.map (A.bF (gI_of zm85 (e := (71, 3, .if_icmp .gt 7, [22])) rfl) (fun q => hc10 (of_decide_eq_true q))) ?_
                      refine Q.run zm85 2 (i' := 23) (ls' := [some (.int x0)]) (st' := [.int 1]) rfl ?_
                      cases h
                      exact Q.ret (A.ri zm85 (show zM85.2.2.2.2.2[23]? = some (80, 1, .ireturn, []) from rfl) rfl rfl) hl
/-! 86 FormulaTrees$Pending.endFrom(III)I -/
set_option maxRecDepth 100000 in
theorem zm86 : zP[86]? = some zM86 := rfl
def dm86_2 : Nat → Int32 → Int32 → Int32 → aS → Option (Int32 × aS)
  | 0, _, _, _, _ => none
  | n + 1, x1, x2, x4, s =>
    if (sI s 110 2) ≤ x1 then
      some (x4, s)
    else
      if (sI s 110 2) ≤ 0 then
        some (x4, s)
      else
        if aB ((sI s 110 2) - 1) 128 then
          if (sI s 111 (jN ((sI s 110 2) - 1))) < x2 then
            some (x4, s)
          else
            nx (wI s 110 2 ((sI s 110 2) - 1)) fun s5 =>
            if aB (sI s5 110 2) 128 then
              dm86_2 n x1 x2 (sI s5 112 (jN (sI s5 110 2))) s5
            else none
        else none
set_option maxRecDepth 100000 in
theorem dt86_2 {sio : Bool} {tt : Nat} {cc : Nat → Nat → Int32} {d : Nat} (hd : 0 ≤ d) : ∀ (n : Nat) {x1 : Int32} {x2 : Int32} {x4 : Int32} {x3 : Int32} {s : aS} (_ : Ly tt cc s) {o : Int32 × aS} (_ : dm86_2  n x1 x2 x4 s = some o), Q 1 sio tt cc d 86 2 [some (.ref 110), some (.int x1), some (.int x2), some (.int x3), some (.int x4)] [] s (.inl (some (.int o.1)), o.2) := by
  intro n
  induction n with
  | zero => intro x1 x2 x4 x3 s hl o h; rw [dm86_2] at h; cases h
  | succ n ih =>
    intro x1 x2 x4 x3 s hl o h
    rw [dm86_2] at h
    refine Q.run zm86 1 (i' := 3) (ls' := [some (.ref 110), some (.int x1), some (.int x2), some (.int x3), some (.int x4)]) (st' := [.ref 110]) rfl ?_
    refine Q.map (A.gf (gI_of zm86 (e := (4, 3, .getfield 18, [6, 2])) rfl) (hl.lt (a := 110) (by decide)) (hl.T (a := 110) (p := (6, 3)) 32 rfl rfl) (by decide) rfl) ?_
    refine Q.run zm86 1 (i' := 5) (ls' := [some (.ref 110), some (.int x1), some (.int x2), some (.int x3), some (.int x4)]) (st' := [.int x1, .int (sI s 110 2)]) rfl ?_
    by_cases hc1 : (sI s 110 2) ≤ x1
    · rw [if_pos hc1] at h
      refine Q.map (A.bT (gI_of zm86 (e := (8, 3, .if_icmp .le 49, [31])) rfl) (decide_eq_true hc1)) ?_
      refine Q.run zm86 1 (i' := 32) (ls' := [some (.ref 110), some (.int x1), some (.int x2), some (.int x3), some (.int x4)]) (st' := [.int x4]) rfl ?_
      cases h
      exact Q.ret (A.ri zm86 (show zM86.2.2.2.2.2[32]? = some (59, 1, .ireturn, []) from rfl) rfl rfl) hl
    · rw [if_neg hc1] at h
      refine Q.map (A.bF (gI_of zm86 (e := (8, 3, .if_icmp .le 49, [31])) rfl) (fun q => hc1 (of_decide_eq_true q))) ?_
      refine Q.run zm86 1 (i' := 7) (ls' := [some (.ref 110), some (.int x1), some (.int x2), some (.int x3), some (.int x4)]) (st' := [.ref 110]) rfl ?_
      refine Q.map (A.gf (gI_of zm86 (e := (12, 3, .getfield 18, [6, 2])) rfl) (hl.lt (a := 110) (by decide)) (hl.T (a := 110) (p := (6, 3)) 32 rfl rfl) (by decide) rfl) ?_
      by_cases hc2 : (sI s 110 2) ≤ 0
      · rw [if_pos hc2] at h
        refine Q.map (A.zT (gI_of zm86 (e := (15, 3, .ifCond .le 42, [31])) rfl) (decide_eq_true hc2)) ?_
        refine Q.run zm86 1 (i' := 32) (ls' := [some (.ref 110), some (.int x1), some (.int x2), some (.int x3), some (.int x4)]) (st' := [.int x4]) rfl ?_
        cases h
        exact Q.ret (A.ri zm86 (show zM86.2.2.2.2.2[32]? = some (59, 1, .ireturn, []) from rfl) rfl rfl) hl
      · rw [if_neg hc2] at h
        refine Q.map (A.zF (gI_of zm86 (e := (15, 3, .ifCond .le 42, [31])) rfl) (fun q => hc2 (of_decide_eq_true q))) ?_
        refine Q.run zm86 1 (i' := 10) (ls' := [some (.ref 110), some (.int x1), some (.int x2), some (.int x3), some (.int x4)]) (st' := [.ref 110]) rfl ?_
        refine Q.map (A.gf (gI_of zm86 (e := (19, 3, .getfield 9, [6, 0])) rfl) (hl.lt (a := 110) (by decide)) (hl.T (a := 110) (p := (6, 3)) 32 rfl rfl) (by decide) (hl.R 14 rfl)) ?_
        refine Q.run zm86 1 (i' := 12) (ls' := [some (.ref 110), some (.int x1), some (.int x2), some (.int x3), some (.int x4)]) (st' := [.ref 110, .ref 111]) rfl ?_
        refine Q.map (A.gf (gI_of zm86 (e := (23, 3, .getfield 18, [6, 2])) rfl) (hl.lt (a := 110) (by decide)) (hl.T (a := 110) (p := (6, 3)) 32 rfl rfl) (by decide) rfl) ?_
        refine Q.run zm86 2 (i' := 15) (ls' := [some (.ref 110), some (.int x1), some (.int x2), some (.int x3), some (.int x4)]) (st' := [.int ((sI s 110 2) - 1), .ref 111]) rfl ?_
        obtain ⟨hc3, h⟩ := ite_so h
        refine Q.map (A.ia (gI_of zm86 (e := (28, 1, .iaload, [])) rfl) (hl.lt (a := 111) (by decide)) (hl.T (a := 111) (p := (100, 128)) 33 rfl rfl) hc3) ?_
        refine Q.run zm86 1 (i' := 17) (ls' := [some (.ref 110), some (.int x1), some (.int x2), some (.int x3), some (.int x4)]) (st' := [.int x2, .int (sI s 111 (jN ((sI s 110 2) - 1)))]) rfl ?_
        by_cases hc4 : (sI s 111 (jN ((sI s 110 2) - 1))) < x2
        · rw [if_pos hc4] at h
          refine Q.map (A.bT (gI_of zm86 (e := (30, 3, .if_icmp .lt 27, [31])) rfl) (decide_eq_true hc4)) ?_
          refine Q.run zm86 1 (i' := 32) (ls' := [some (.ref 110), some (.int x1), some (.int x2), some (.int x3), some (.int x4)]) (st' := [.int x4]) rfl ?_
          cases h
          exact Q.ret (A.ri zm86 (show zM86.2.2.2.2.2[32]? = some (59, 1, .ireturn, []) from rfl) rfl rfl) hl
        · rw [if_neg hc4] at h
          refine Q.map (A.bF (gI_of zm86 (e := (30, 3, .if_icmp .lt 27, [31])) rfl) (fun q => hc4 (of_decide_eq_true q))) ?_
          refine Q.run zm86 2 (i' := 20) (ls' := [some (.ref 110), some (.int x1), some (.int x2), some (.int x3), some (.int x4)]) (st' := [.ref 110, .ref 110]) rfl ?_
          refine Q.map (A.gf (gI_of zm86 (e := (35, 3, .getfield 18, [6, 2])) rfl) (hl.lt (a := 110) (by decide)) (hl.T (a := 110) (p := (6, 3)) 32 rfl rfl) (by decide) rfl) ?_
          refine Q.run zm86 2 (i' := 23) (ls' := [some (.ref 110), some (.int x1), some (.int x2), some (.int x3), some (.int x4)]) (st' := [.int ((sI s 110 2) - 1), .ref 110]) rfl ?_
          obtain ⟨s5, hs6, h⟩ := nx_so h
          refine Q.pf hs6 rfl (gI_of zm86 (e := (40, 3, .putfield 18, [6, 2, 0])) rfl) (hl.lt (a := 110) (by decide)) (by decide) (hl.T (a := 110) (p := (6, 3)) 32 rfl rfl) (by decide) rfl rfl ?_
          have hl7 : Ly tt cc s5 := by rw [hs6]; exact hl.wId (by decide)
          refine Q.run zm86 1 (i' := 25) (ls' := [some (.ref 110), some (.int x1), some (.int x2), some (.int x3), some (.int x4)]) (st' := [.ref 110]) rfl ?_
          refine Q.map (A.gf (gI_of zm86 (e := (44, 3, .getfield 15, [6, 1])) rfl) (hl7.lt (a := 110) (by decide)) (hl7.T (a := 110) (p := (6, 3)) 32 rfl rfl) (by decide) (hl7.R 15 rfl)) ?_
          refine Q.run zm86 1 (i' := 27) (ls' := [some (.ref 110), some (.int x1), some (.int x2), some (.int x3), some (.int x4)]) (st' := [.ref 110, .ref 112]) rfl ?_
          refine Q.map (A.gf (gI_of zm86 (e := (48, 3, .getfield 18, [6, 2])) rfl) (hl7.lt (a := 110) (by decide)) (hl7.T (a := 110) (p := (6, 3)) 32 rfl rfl) (by decide) rfl) ?_
          obtain ⟨hc8, h⟩ := ite_so h
          refine Q.map (A.ia (gI_of zm86 (e := (51, 1, .iaload, [])) rfl) (hl7.lt (a := 112) (by decide)) (hl7.T (a := 112) (p := (100, 128)) 34 rfl rfl) hc8) ?_
          refine Q.run zm86 2 (i' := 2) (ls' := [some (.ref 110), some (.int x1), some (.int x2), some (.int x3), some (.int (sI s5 112 (jN (sI s5 110 2))))]) (st' := []) rfl ?_
          exact ih hl7  h
def dm86 (x1 : Int32) (x2 : Int32) (x3 : Int32) (s : aS) : Option (Int32 × aS) :=
  dm86_2 5000 x1 x2 x3 s
set_option maxRecDepth 100000 in
theorem dt86 {sio : Bool} {tt : Nat} {cc : Nat → Nat → Int32} {d : Nat} (hd : 0 ≤ d) {x1 : Int32} {x2 : Int32} {x3 : Int32} {s : aS} (hl : Ly tt cc s) {o : Int32 × aS} (h : dm86  x1 x2 x3 s = some o) : Q 1 sio tt cc d 86 0 [some (.ref 110), some (.int x1), some (.int x2), some (.int x3), none] [] s (.inl (some (.int o.1)), o.2) := by
  unfold dm86 at h
  refine Q.run zm86 2 (i' := 2) (ls' := [some (.ref 110), some (.int x1), some (.int x2), some (.int x3), some (.int x3)]) (st' := []) rfl ?_
  exact dt86_2 hd _ hl  h
/-! 87 FormulaTrees$Pending.add(II)V -/
set_option maxRecDepth 100000 in
theorem zm87 : zP[87]? = some zM87 := rfl
def dm87 (x1 : Int32) (x2 : Int32) (s : aS) : Option (aS) :=
  if 128 ≤ (sI s 110 2) then
    some s
  else
    if aB (sI s 110 2) 128 then
      nx (wI s 111 (jN (sI s 110 2)) x1) fun s3 =>
      if aB (sI s3 110 2) 128 then
        nx (wI s3 112 (jN (sI s3 110 2)) x2) fun s7 =>
        nx (wI s7 110 2 ((sI s7 110 2) + 1)) fun s10 =>
        some s10
      else none
    else none
set_option maxRecDepth 100000 in
theorem dt87 {sio : Bool} {tt : Nat} {cc : Nat → Nat → Int32} {d : Nat} (hd : 0 ≤ d) {x1 : Int32} {x2 : Int32} {s : aS} (hl : Ly tt cc s) {o : aS} (h : dm87  x1 x2 s = some o) : Q 1 sio tt cc d 87 0 [some (.ref 110), some (.int x1), some (.int x2)] [] s (.inl none, o) := by
  unfold dm87 at h
  refine Q.run zm87 1 (i' := 1) (ls' := [some (.ref 110), some (.int x1), some (.int x2)]) (st' := [.ref 110]) rfl ?_
  refine Q.map (A.gf (gI_of zm87 (e := (1, 3, .getfield 18, [6, 2])) rfl) (hl.lt (a := 110) (by decide)) (hl.T (a := 110) (p := (6, 3)) 32 rfl rfl) (by decide) rfl) ?_
  refine Q.run zm87 1 (i' := 3) (ls' := [some (.ref 110), some (.int x1), some (.int x2)]) (st' := [.int 128, .int (sI s 110 2)]) rfl ?_
  by_cases hc1 : 128 ≤ (sI s 110 2)
  · rw [if_pos hc1] at h
    refine Q.map (A.bT (gI_of zm87 (e := (7, 3, .if_icmp .ge 33, [22])) rfl) (decide_eq_true hc1)) ?_
    cases h
    exact Q.ret (A.rv zm87 (show zM87.2.2.2.2.2[22]? = some (40, 1, .return_, []) from rfl) rfl) hl
  · rw [if_neg hc1] at h
    refine Q.map (A.bF (gI_of zm87 (e := (7, 3, .if_icmp .ge 33, [22])) rfl) (fun q => hc1 (of_decide_eq_true q))) ?_
    refine Q.run zm87 1 (i' := 5) (ls' := [some (.ref 110), some (.int x1), some (.int x2)]) (st' := [.ref 110]) rfl ?_
    refine Q.map (A.gf (gI_of zm87 (e := (11, 3, .getfield 9, [6, 0])) rfl) (hl.lt (a := 110) (by decide)) (hl.T (a := 110) (p := (6, 3)) 32 rfl rfl) (by decide) (hl.R 14 rfl)) ?_
    refine Q.run zm87 1 (i' := 7) (ls' := [some (.ref 110), some (.int x1), some (.int x2)]) (st' := [.ref 110, .ref 111]) rfl ?_
    refine Q.map (A.gf (gI_of zm87 (e := (15, 3, .getfield 18, [6, 2])) rfl) (hl.lt (a := 110) (by decide)) (hl.T (a := 110) (p := (6, 3)) 32 rfl rfl) (by decide) rfl) ?_
    refine Q.run zm87 1 (i' := 9) (ls' := [some (.ref 110), some (.int x1), some (.int x2)]) (st' := [.int x1, .int (sI s 110 2), .ref 111]) rfl ?_
    obtain ⟨hc2, h⟩ := ite_so h
    obtain ⟨s3, hs4, h⟩ := nx_so h
    refine Q.is hs4 rfl (gI_of zm87 (e := (19, 1, .iastore, [])) rfl) (hl.lt (a := 111) (by decide)) (by decide) (hl.T (a := 111) (p := (100, 128)) 33 rfl rfl) hc2 ?_
    have hl5 : Ly tt cc s3 := by rw [hs4]; exact hl.wId (by decide)
    refine Q.run zm87 1 (i' := 11) (ls' := [some (.ref 110), some (.int x1), some (.int x2)]) (st' := [.ref 110]) rfl ?_
    refine Q.map (A.gf (gI_of zm87 (e := (21, 3, .getfield 15, [6, 1])) rfl) (hl5.lt (a := 110) (by decide)) (hl5.T (a := 110) (p := (6, 3)) 32 rfl rfl) (by decide) (hl5.R 15 rfl)) ?_
    refine Q.run zm87 1 (i' := 13) (ls' := [some (.ref 110), some (.int x1), some (.int x2)]) (st' := [.ref 110, .ref 112]) rfl ?_
    refine Q.map (A.gf (gI_of zm87 (e := (25, 3, .getfield 18, [6, 2])) rfl) (hl5.lt (a := 110) (by decide)) (hl5.T (a := 110) (p := (6, 3)) 32 rfl rfl) (by decide) rfl) ?_
    refine Q.run zm87 1 (i' := 15) (ls' := [some (.ref 110), some (.int x1), some (.int x2)]) (st' := [.int x2, .int (sI s3 110 2), .ref 112]) rfl ?_
    obtain ⟨hc6, h⟩ := ite_so h
    obtain ⟨s7, hs8, h⟩ := nx_so h
    refine Q.is hs8 rfl (gI_of zm87 (e := (29, 1, .iastore, [])) rfl) (hl5.lt (a := 112) (by decide)) (by decide) (hl5.T (a := 112) (p := (100, 128)) 34 rfl rfl) hc6 ?_
    have hl9 : Ly tt cc s7 := by rw [hs8]; exact hl5.wId (by decide)
    refine Q.run zm87 2 (i' := 18) (ls' := [some (.ref 110), some (.int x1), some (.int x2)]) (st' := [.ref 110, .ref 110]) rfl ?_
    refine Q.map (A.gf (gI_of zm87 (e := (32, 3, .getfield 18, [6, 2])) rfl) (hl9.lt (a := 110) (by decide)) (hl9.T (a := 110) (p := (6, 3)) 32 rfl rfl) (by decide) rfl) ?_
    refine Q.run zm87 2 (i' := 21) (ls' := [some (.ref 110), some (.int x1), some (.int x2)]) (st' := [.int ((sI s7 110 2) + 1), .ref 110]) rfl ?_
    obtain ⟨s10, hs11, h⟩ := nx_so h
    refine Q.pf hs11 rfl (gI_of zm87 (e := (37, 3, .putfield 18, [6, 2, 0])) rfl) (hl9.lt (a := 110) (by decide)) (by decide) (hl9.T (a := 110) (p := (6, 3)) 32 rfl rfl) (by decide) rfl rfl ?_
    have hl12 : Ly tt cc s10 := by rw [hs11]; exact hl9.wId (by decide)
    cases h
    exact Q.ret (A.rv zm87 (show zM87.2.2.2.2.2[22]? = some (40, 1, .return_, []) from rfl) rfl) hl12
/-! 84 FormulaTrees$Reader.readBetween(I)V -/
set_option maxRecDepth 100000 in
theorem zm84 : zP[84]? = some zM84 := rfl
def dm84_61 (y1 : Int32) (y2 : Int32) (s : aS) : Option (aS) :=
  nx (wI s 106 7 (y1 + y2)) fun s1 =>
  some s1
set_option maxRecDepth 100000 in
theorem dt84_61 {sio : Bool} {tt : Nat} {cc : Nat → Nat → Int32} {d : Nat} (hd : 2 ≤ d) {y1 : Int32} {y2 : Int32} {x1 : Int32} {x2 : Int32} {x3 : Int32} {x4 : Int32} {s : aS} (hl : Ly tt cc s) {o : aS} (h : dm84_61  y1 y2 s = some o) : Q 1 sio tt cc d 84 61 [some (.ref 106), some (.int x1), some (.int x2), some (.int x3), some (.int x4)] [.int y2, .int y1, .ref 106] s (.inl none, o) := by
  unfold dm84_61 at h
  obtain ⟨d, rfl⟩ : ∃ e, d = e + 1 := ⟨d - 1, by omega⟩
  refine Q.run zm84 1 (i' := 62) (ls' := [some (.ref 106), some (.int x1), some (.int x2), some (.int x3), some (.int x4)]) (st' := [.int (y1 + y2), .ref 106]) rfl ?_
  obtain ⟨s1, hs2, h⟩ := nx_so h
  refine Q.pf hs2 rfl (gI_of zm84 (e := (117, 3, .putfield 61, [4, 7, 0])) rfl) (hl.lt (a := 106) (by decide)) (by decide) (hl.T (a := 106) (p := (4, 13)) 28 rfl rfl) (by decide) rfl rfl ?_
  have hl3 : Ly tt cc s1 := by rw [hs2]; exact hl.wId (by decide)
  cases h
  exact Q.ret (A.rv zm84 (show zM84.2.2.2.2.2[63]? = some (120, 1, .return_, []) from rfl) rfl) hl3
def dm84_52 (y0 : Int32) (s : aS) : Option (aS) :=
  if y0 = 0 then
    dm84_61 (sI s 106 7) 1 s
  else
    dm84_61 (sI s 106 7) 2 s
set_option maxRecDepth 100000 in
theorem dt84_52 {sio : Bool} {tt : Nat} {cc : Nat → Nat → Int32} {d : Nat} (hd : 2 ≤ d) {y0 : Int32} {x1 : Int32} {x2 : Int32} {x3 : Int32} {s : aS} (hl : Ly tt cc s) {o : aS} (h : dm84_52  y0 s = some o) : Q 1 sio tt cc d 84 52 [some (.ref 106), some (.int x1), some (.int x2), some (.int x3), none] [.int y0] s (.inl none, o) := by
  unfold dm84_52 at h
  obtain ⟨d, rfl⟩ : ∃ e, d = e + 1 := ⟨d - 1, by omega⟩
  refine Q.run zm84 3 (i' := 55) (ls' := [some (.ref 106), some (.int x1), some (.int x2), some (.int x3), some (.int y0)]) (st' := [.ref 106, .ref 106]) rfl ?_
  refine Q.map (A.gf (gI_of zm84 (e := (103, 3, .getfield 61, [4, 7])) rfl) (hl.lt (a := 106) (by decide)) (hl.T (a := 106) (p := (4, 13)) 28 rfl rfl) (by decide) rfl) ?_
  refine Q.run zm84 1 (i' := 57) (ls' := [some (.ref 106), some (.int x1), some (.int x2), some (.int x3), some (.int y0)]) (st' := [.int y0, .int (sI s 106 7), .ref 106]) rfl ?_
  by_cases hc1 : y0 = 0
  · rw [if_pos hc1] at h
    refine Q.map (A.zT (gI_of zm84 (e := (108, 3, .ifCond .eq 7, [60])) rfl) (decide_eq_true hc1)) ?_
    refine Q.run zm84 1 (i' := 61) (ls' := [some (.ref 106), some (.int x1), some (.int x2), some (.int x3), some (.int y0)]) (st' := [.int 1, .int (sI s 106 7), .ref 106]) rfl ?_
    exact dt84_61 hd hl  h
  · rw [if_neg hc1] at h
    refine Q.map (A.zF (gI_of zm84 (e := (108, 3, .ifCond .eq 7, [60])) rfl) (fun q => hc1 (of_decide_eq_true q))) ?_
    refine Q.run zm84 2 (i' := 61) (ls' := [some (.ref 106), some (.int x1), some (.int x2), some (.int x3), some (.int y0)]) (st' := [.int 2, .int (sI s 106 7), .ref 106]) rfl ?_
    exact dt84_61 hd hl  h
def dm84_49 (s : aS) : Option (aS) :=
  dm84_52 1 s
set_option maxRecDepth 100000 in
theorem dt84_49 {sio : Bool} {tt : Nat} {cc : Nat → Nat → Int32} {d : Nat} (hd : 2 ≤ d) {x1 : Int32} {x2 : Int32} {x3 : Int32} {s : aS} (hl : Ly tt cc s) {o : aS} (h : dm84_49  s = some o) : Q 1 sio tt cc d 84 49 [some (.ref 106), some (.int x1), some (.int x2), some (.int x3), none] [] s (.inl none, o) := by
  unfold dm84_49 at h
  obtain ⟨d, rfl⟩ : ∃ e, d = e + 1 := ⟨d - 1, by omega⟩
  refine Q.run zm84 2 (i' := 52) (ls' := [some (.ref 106), some (.int x1), some (.int x2), some (.int x3), none]) (st' := [.int 1]) rfl ?_
  exact dt84_52 hd hl  h
def dm84 (x1 : Int32) (s : aS) : Option (aS) :=
  if x1 = (-1) then
    nx (wI s 106 8 (sI s 106 7)) fun s2 =>
    some s2
  else
    bv (dm70 (sI s 106 7) s) fun r8 s7 =>
    if r8 = 0 then
      some s7
    else
      bu (dm85 x1) fun r12 =>
      bu (dm79 s7) fun r15 =>
      bv (dm86 r15 r12 (sI s7 106 10) s7) fun r19 s18 =>
      vN (sR s18 106 6) (
        none
      ) fun b21 =>
        if aK s18 b21 3 then
          bu (dm72 b21 r19 x1 2 s18) fun s25 =>
          bu (dm87 r12 r19 s25) fun s29 =>
          nx (wI s29 106 9 1) fun s31 =>
          if x1 = 18 then
            dm84_49 s31
          else
            if x1 = 21 then
              dm84_49 s31
            else
              if x1 = 22 then
                dm84_49 s31
              else
                dm84_52 0 s31
        else none
set_option maxRecDepth 100000 in
theorem dt84 {sio : Bool} {tt : Nat} {cc : Nat → Nat → Int32} {d : Nat} (hd : 2 ≤ d) {x1 : Int32} {s : aS} (hl : Ly tt cc s) {o : aS} (h : dm84  x1 s = some o) : Q 1 sio tt cc d 84 0 [some (.ref 106), some (.int x1), none, none, none] [] s (.inl none, o) := by
  unfold dm84 at h
  obtain ⟨d, rfl⟩ : ∃ e, d = e + 1 := ⟨d - 1, by omega⟩
  refine Q.run zm84 2 (i' := 2) (ls' := [some (.ref 106), some (.int x1), none, none, none]) (st' := [.int (-1), .int x1]) rfl ?_
  by_cases hc1 : x1 = (-1)
  · rw [if_pos hc1] at h
    refine Q.map (A.bF (gI_of zm84 (e := (2, 3, .if_icmp .ne 14, [8])) rfl) (fun q => of_decide_eq_true q hc1)) ?_
    refine Q.run zm84 2 (i' := 5) (ls' := [some (.ref 106), some (.int x1), none, none, none]) (st' := [.ref 106, .ref 106]) rfl ?_
    refine Q.map (A.gf (gI_of zm84 (e := (7, 3, .getfield 61, [4, 7])) rfl) (hl.lt (a := 106) (by decide)) (hl.T (a := 106) (p := (4, 13)) 28 rfl rfl) (by decide) rfl) ?_
    obtain ⟨s2, hs3, h⟩ := nx_so h
    refine Q.pf hs3 rfl (gI_of zm84 (e := (10, 3, .putfield 65, [4, 8, 0])) rfl) (hl.lt (a := 106) (by decide)) (by decide) (hl.T (a := 106) (p := (4, 13)) 28 rfl rfl) (by decide) rfl rfl ?_
    have hl4 : Ly tt cc s2 := by rw [hs3]; exact hl.wId (by decide)
    refine Q.run zm84 1 (i' := 63) (ls' := [some (.ref 106), some (.int x1), none, none, none]) (st' := []) rfl ?_
    cases h
    exact Q.ret (A.rv zm84 (show zM84.2.2.2.2.2[63]? = some (120, 1, .return_, []) from rfl) rfl) hl4
  · rw [if_neg hc1] at h
    refine Q.map (A.bT (gI_of zm84 (e := (2, 3, .if_icmp .ne 14, [8])) rfl) (decide_eq_true hc1)) ?_
    refine Q.run zm84 2 (i' := 10) (ls' := [some (.ref 106), some (.int x1), none, none, none]) (st' := [.ref 106, .ref 106]) rfl ?_
    refine Q.map (A.gf (gI_of zm84 (e := (18, 3, .getfield 61, [4, 7])) rfl) (hl.lt (a := 106) (by decide)) (hl.T (a := 106) (p := (4, 13)) 28 rfl rfl) (by decide) rfl) ?_
    obtain ⟨r8, s7, hc6, h⟩ := bv_so h
    have hq5 : Q 1 sio tt cc d 70 0 [some (.ref 106), some (.int (sI s 106 7)), none] [] s (.inl (some (.int r8)), s7) := dt70 (by omega) hl  hc6
    refine Q.callI (gC_vi zm84 (show zM84.2.2.2.2.2[11]? = some (21, 3, .invokevirtual 144, [0, 70, 1, 4]) from rfl) zm70 (hl.lt (a := 106) (by decide)) (hl.T (a := 106) (p := (4, 13)) 28 rfl rfl) rfl (show aCr 1 106 [.int (sI s 106 7), .ref 106] 3 = some ([some (.ref 106), some (.int (sI s 106 7)), none], []) from rfl)) hq5 ?_
    by_cases hc9 : r8 = 0
    · rw [if_pos hc9] at h
      refine Q.map (A.zT (gI_of zm84 (e := (24, 3, .ifCond .eq 96, [63])) rfl) (decide_eq_true hc9)) ?_
      cases h
      exact Q.ret (A.rv zm84 (show zM84.2.2.2.2.2[63]? = some (120, 1, .return_, []) from rfl) rfl) hq5.1
    · rw [if_neg hc9] at h
      refine Q.map (A.zF (gI_of zm84 (e := (24, 3, .ifCond .eq 96, [63])) rfl) (fun q => hc9 (of_decide_eq_true q))) ?_
      refine Q.run zm84 1 (i' := 14) (ls' := [some (.ref 106), some (.int x1), none, none, none]) (st' := [.int x1]) rfl ?_
      obtain ⟨r12, hc11, h⟩ := bu_so h
      have hq10 : Q 1 sio tt cc d 85 0 [some (.int x1)] [] s7 (.inl (some (.int r12)), s7) := dt85 (by omega) hq5.1  hc11
      refine Q.callI (gC_st zm84 (show zM84.2.2.2.2.2[14]? = some (28, 3, .invokestatic 199, [0, 85, 1]) from rfl) zm85 (show aC 1 [.int x1] 1 = some ([some (.int x1)], []) from rfl)) hq10 ?_
      refine Q.run zm84 2 (i' := 17) (ls' := [some (.ref 106), some (.int x1), some (.int r12), none, none]) (st' := [.ref 106]) rfl ?_
      refine Q.map (A.gf (gI_of zm84 (e := (33, 3, .getfield 30, [4, 4])) rfl) (hq5.1.lt (a := 106) (by decide)) (hq5.1.T (a := 106) (p := (4, 13)) 28 rfl rfl) (by decide) (hq5.1.R 12 rfl)) ?_
      refine Q.run zm84 1 (i' := 19) (ls' := [some (.ref 106), some (.int x1), some (.int r12), none, none]) (st' := [.ref 106, .ref 110]) rfl ?_
      refine Q.map (A.gf (gI_of zm84 (e := (37, 3, .getfield 37, [4, 5])) rfl) (hq5.1.lt (a := 106) (by decide)) (hq5.1.T (a := 106) (p := (4, 13)) 28 rfl rfl) (by decide) (hq5.1.R 13 rfl)) ?_
      obtain ⟨r15, hc14, h⟩ := bu_so h
      have hq13 : Q 1 sio tt cc d 79 0 [some (.ref 113)] [] s7 (.inl (some (.int r15)), s7) := dt79 (by omega) hq5.1  hc14
      refine Q.callI (gC_vi zm84 (show zM84.2.2.2.2.2[20]? = some (40, 3, .invokevirtual 171, [0, 79, 0, 7]) from rfl) zm79 (hq5.1.lt (a := 113) (by decide)) (hq5.1.T (a := 113) (p := (7, 4)) 35 rfl rfl) rfl (show aCr 0 113 [.ref 113, .ref 110] 1 = some ([some (.ref 113)], [.ref 110]) from rfl)) hq13 ?_
      refine Q.run zm84 2 (i' := 23) (ls' := [some (.ref 106), some (.int x1), some (.int r12), none, none]) (st' := [.ref 106, .int r12, .int r15, .ref 110]) rfl ?_
      refine Q.map (A.gf (gI_of zm84 (e := (45, 3, .getfield 100, [4, 10])) rfl) (hq5.1.lt (a := 106) (by decide)) (hq5.1.T (a := 106) (p := (4, 13)) 28 rfl rfl) (by decide) rfl) ?_
      obtain ⟨r19, s18, hc17, h⟩ := bv_so h
      have hq16 : Q 1 sio tt cc d 86 0 [some (.ref 110), some (.int r15), some (.int r12), some (.int (sI s7 106 10)), none] [] s7 (.inl (some (.int r19)), s18) := dt86 (by omega) hq5.1  hc17
      refine Q.callI (gC_vi zm84 (show zM84.2.2.2.2.2[24]? = some (48, 3, .invokevirtual 202, [0, 86, 3, 6]) from rfl) zm86 (hq5.1.lt (a := 110) (by decide)) (hq5.1.T (a := 110) (p := (6, 3)) 32 rfl rfl) rfl (show aCr 3 110 [.int (sI s7 106 10), .int r12, .int r15, .ref 110] 5 = some ([some (.ref 110), some (.int r15), some (.int r12), some (.int (sI s7 106 10)), none], []) from rfl)) hq16 ?_
      refine Q.run zm84 2 (i' := 27) (ls' := [some (.ref 106), some (.int x1), some (.int r12), some (.int r19), none]) (st' := [.ref 106]) rfl ?_
      rcases vN_so h with ⟨hv20, h⟩ | ⟨b21, hv20, h⟩
      · refine Q.map (A.gf (gI_of zm84 (e := (53, 3, .getfield 48, [4, 6])) rfl) (hq16.1.lt (a := 106) (by decide)) (hq16.1.T (a := 106) (p := (4, 13)) 28 rfl rfl) (by decide) hv20) ?_
        refine Q.run zm84 3 (i' := 31) (ls' := [some (.ref 106), some (.int x1), some (.int r12), some (.int r19), none]) (st' := [.int 2, .int x1, .int r19, .null]) rfl ?_
        cases h
      · obtain ⟨hr22, h⟩ := ite_so h
        refine Q.map (A.gf (gI_of zm84 (e := (53, 3, .getfield 48, [4, 6])) rfl) (hq16.1.lt (a := 106) (by decide)) (hq16.1.T (a := 106) (p := (4, 13)) 28 rfl rfl) (by decide) hv20) ?_
        refine Q.run zm84 3 (i' := 31) (ls' := [some (.ref 106), some (.int x1), some (.int r12), some (.int r19), none]) (st' := [.int 2, .int x1, .int r19, .ref b21]) rfl ?_
        obtain ⟨s25, hc24, h⟩ := bu_so h
        have hq23 : Q 1 sio tt cc d 72 0 [some (.ref b21), some (.int r19), some (.int x1), some (.int 2), none] [] s18 (.inl none, s25) := dt72 (by omega) hq16.1 hr22 hc24
        refine Q.callV (gC_vi zm84 (show zM84.2.2.2.2.2[31]? = some (59, 3, .invokevirtual 150, [0, 72, 3, 3]) from rfl) zm72 hr22.1 (hq16.1.tr hr22).1 rfl (show aCr 3 b21 [.int 2, .int x1, .int r19, .ref b21] 5 = some ([some (.ref b21), some (.int r19), some (.int x1), some (.int 2), none], []) from rfl)) hq23 ?_
        have hr26 : aK s25 b21 3 := hq23.2.1.k hr22
        refine Q.run zm84 1 (i' := 33) (ls' := [some (.ref 106), some (.int x1), some (.int r12), some (.int r19), none]) (st' := [.ref 106]) rfl ?_
        refine Q.map (A.gf (gI_of zm84 (e := (63, 3, .getfield 30, [4, 4])) rfl) (hq23.1.lt (a := 106) (by decide)) (hq23.1.T (a := 106) (p := (4, 13)) 28 rfl rfl) (by decide) (hq23.1.R 12 rfl)) ?_
        refine Q.run zm84 2 (i' := 36) (ls' := [some (.ref 106), some (.int x1), some (.int r12), some (.int r19), none]) (st' := [.int r19, .int r12, .ref 110]) rfl ?_
        obtain ⟨s29, hc28, h⟩ := bu_so h
        have hq27 : Q 1 sio tt cc d 87 0 [some (.ref 110), some (.int r12), some (.int r19)] [] s25 (.inl none, s29) := dt87 (by omega) hq23.1  hc28
        refine Q.callV (gC_vi zm84 (show zM84.2.2.2.2.2[36]? = some (68, 3, .invokevirtual 147, [0, 87, 2, 6]) from rfl) zm87 (hq23.1.lt (a := 110) (by decide)) (hq23.1.T (a := 110) (p := (6, 3)) 32 rfl rfl) rfl (show aCr 2 110 [.int r19, .int r12, .ref 110] 3 = some ([some (.ref 110), some (.int r12), some (.int r19)], []) from rfl)) hq27 ?_
        have hr30 : aK s29 b21 3 := hq27.2.1.k hr26
        refine Q.run zm84 2 (i' := 39) (ls' := [some (.ref 106), some (.int x1), some (.int r12), some (.int r19), none]) (st' := [.int 1, .ref 106]) rfl ?_
        obtain ⟨s31, hs32, h⟩ := nx_so h
        refine Q.pf hs32 rfl (gI_of zm84 (e := (73, 3, .putfield 68, [4, 9, 0])) rfl) (hq27.1.lt (a := 106) (by decide)) (by decide) (hq27.1.T (a := 106) (p := (4, 13)) 28 rfl rfl) (by decide) rfl rfl ?_
        have hl33 : Ly tt cc s31 := by rw [hs32]; exact hq27.1.wId (by decide)
        have hr34 : aK s31 b21 3 := by rw [hs32]; exact hr30
        refine Q.run zm84 2 (i' := 42) (ls' := [some (.ref 106), some (.int x1), some (.int r12), some (.int r19), none]) (st' := [.int 18, .int x1]) rfl ?_
        by_cases hc35 : x1 = 18
        · rw [if_pos hc35] at h
          refine Q.map (A.bT (gI_of zm84 (e := (79, 3, .if_icmp .eq 15, [49])) rfl) (decide_eq_true hc35)) ?_
          exact dt84_49 hd hl33  h
        · rw [if_neg hc35] at h
          refine Q.map (A.bF (gI_of zm84 (e := (79, 3, .if_icmp .eq 15, [49])) rfl) (fun q => hc35 (of_decide_eq_true q))) ?_
          refine Q.run zm84 2 (i' := 45) (ls' := [some (.ref 106), some (.int x1), some (.int r12), some (.int r19), none]) (st' := [.int 21, .int x1]) rfl ?_
          by_cases hc36 : x1 = 21
          · rw [if_pos hc36] at h
            refine Q.map (A.bT (gI_of zm84 (e := (85, 3, .if_icmp .eq 9, [49])) rfl) (decide_eq_true hc36)) ?_
            exact dt84_49 hd hl33  h
          · rw [if_neg hc36] at h
            refine Q.map (A.bF (gI_of zm84 (e := (85, 3, .if_icmp .eq 9, [49])) rfl) (fun q => hc36 (of_decide_eq_true q))) ?_
            refine Q.run zm84 2 (i' := 48) (ls' := [some (.ref 106), some (.int x1), some (.int r12), some (.int r19), none]) (st' := [.int 22, .int x1]) rfl ?_
            by_cases hc37 : x1 = 22
            · rw [if_pos hc37] at h
              refine Q.map (A.bF (gI_of zm84 (e := (91, 3, .if_icmp .ne 7, [51])) rfl) (fun q => of_decide_eq_true q hc37)) ?_
              exact dt84_49 hd hl33  h
            · rw [if_neg hc37] at h
              refine Q.map (A.bT (gI_of zm84 (e := (91, 3, .if_icmp .ne 7, [51])) rfl) (decide_eq_true hc37)) ?_
              refine Q.run zm84 1 (i' := 52) (ls' := [some (.ref 106), some (.int x1), some (.int r12), some (.int r19), none]) (st' := [.int 0]) rfl ?_
              exact dt84_52 hd hl33  h
