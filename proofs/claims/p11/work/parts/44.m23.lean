/-! 232 FormulaTreesModel.form(II)I -/
set_option maxRecDepth 100000 in
theorem zm232 : zP[232]? = some zM232 := rfl
def dm232_8 (x1 : Int32) (x2 : Int32) (y1 : Int32) (s : aS) : Option (Int32 × aS) :=
  nx (wI s 121 0 y1) fun s1 =>
  if (sI s1 121 0) ≤ 0 then
    nx (wI s1 121 42 0) fun s5 =>
    nx (wI s5 121 43 x2) fun s8 =>
    nx (wI s8 121 44 (-1)) fun s11 =>
    bv (dm233 400 x1 (128 * x1) s11) fun r17 s16 =>
    some (sI s16 121 44, s16)
  else
    some (0, s1)
set_option maxRecDepth 100000 in
theorem dt232_8 {sio : Bool} {tt : Nat} {cc : Nat → Nat → Int32} {d : Nat} (hd : 1213 ≤ d) {x1 : Int32} {x2 : Int32} {y1 : Int32} {s : aS} (hl : Ly tt cc s) {o : Int32 × aS} (h : dm232_8  x1 x2 y1 s = some o) : Q 2 sio tt cc d 232 8 [some (.ref 121), some (.int x1), some (.int x2)] [.int y1, .ref 121] s (.inl (some (.int o.1)), o.2) := by
  unfold dm232_8 at h
  obtain ⟨d, rfl⟩ : ∃ e, d = e + 1 := ⟨d - 1, by omega⟩
  obtain ⟨s1, hs2, h⟩ := nx_so h
  refine Q.pf hs2 rfl (gI_of zm232 (e := (14, 3, .putfield 89, [9, 0, 0])) rfl) (hl.lt (a := 121) (by decide)) (by decide) (hl.T (a := 121) (p := (9, 45)) 43 rfl rfl) (by decide) rfl rfl ?_
  have hl3 : Ly tt cc s1 := by rw [hs2]; exact hl.wId (by decide)
  refine Q.run zm232 1 (i' := 10) (ls' := [some (.ref 121), some (.int x1), some (.int x2)]) (st' := [.ref 121]) rfl ?_
  refine Q.map (A.gf (gI_of zm232 (e := (18, 3, .getfield 89, [9, 0])) rfl) (hl3.lt (a := 121) (by decide)) (hl3.T (a := 121) (p := (9, 45)) 43 rfl rfl) (by decide) rfl) ?_
  by_cases hc4 : (sI s1 121 0) ≤ 0
  · rw [if_pos hc4] at h
    refine Q.map (A.zT (gI_of zm232 (e := (21, 3, .ifCond .le 5, [14])) rfl) (decide_eq_true hc4)) ?_
    refine Q.run zm232 2 (i' := 16) (ls' := [some (.ref 121), some (.int x1), some (.int x2)]) (st' := [.int 0, .ref 121]) rfl ?_
    obtain ⟨s5, hs6, h⟩ := nx_so h
    refine Q.pf hs6 rfl (gI_of zm232 (e := (28, 3, .putfield 328, [9, 42, 0])) rfl) (hl3.lt (a := 121) (by decide)) (by decide) (hl3.T (a := 121) (p := (9, 45)) 43 rfl rfl) (by decide) rfl rfl ?_
    have hl7 : Ly tt cc s5 := by rw [hs6]; exact hl3.wId (by decide)
    refine Q.run zm232 2 (i' := 19) (ls' := [some (.ref 121), some (.int x1), some (.int x2)]) (st' := [.int x2, .ref 121]) rfl ?_
    obtain ⟨s8, hs9, h⟩ := nx_so h
    refine Q.pf hs9 rfl (gI_of zm232 (e := (33, 3, .putfield 331, [9, 43, 0])) rfl) (hl7.lt (a := 121) (by decide)) (by decide) (hl7.T (a := 121) (p := (9, 45)) 43 rfl rfl) (by decide) rfl rfl ?_
    have hl10 : Ly tt cc s8 := by rw [hs9]; exact hl7.wId (by decide)
    refine Q.run zm232 2 (i' := 22) (ls' := [some (.ref 121), some (.int x1), some (.int x2)]) (st' := [.int (-1), .ref 121]) rfl ?_
    obtain ⟨s11, hs12, h⟩ := nx_so h
    refine Q.pf hs12 rfl (gI_of zm232 (e := (38, 3, .putfield 334, [9, 44, 0])) rfl) (hl10.lt (a := 121) (by decide)) (by decide) (hl10.T (a := 121) (p := (9, 45)) 43 rfl rfl) (by decide) rfl rfl ?_
    have hl13 : Ly tt cc s11 := by rw [hs12]; exact hl10.wId (by decide)
    refine Q.run zm232 5 (i' := 28) (ls' := [some (.ref 121), some (.int x1), some (.int x2)]) (st' := [.int (128 * x1), .int x1, .ref 121]) rfl ?_
    obtain ⟨r17, s16, hc15, h⟩ := bv_so h
    have hq14 : Q 2 sio tt cc d 233 0 [some (.ref 121), some (.int x1), some (.int (128 * x1)), none, none, none, none] [] s11 (.inl (some (.int r17)), s16) := dt233 400 (by omega) hl13  hc15
    refine Q.callI (gC_vi zm232 (show zM232.2.2.2.2.2[28]? = some (48, 3, .invokevirtual 350, [0, 233, 2, 9]) from rfl) zm233 (hl13.lt (a := 121) (by decide)) (hl13.T (a := 121) (p := (9, 45)) 43 rfl rfl) rfl (show aCr 2 121 [.int (128 * x1), .int x1, .ref 121] 7 = some ([some (.ref 121), some (.int x1), some (.int (128 * x1)), none, none, none, none], []) from rfl)) hq14 ?_
    refine Q.run zm232 2 (i' := 31) (ls' := [some (.ref 121), some (.int x1), some (.int x2)]) (st' := [.ref 121]) rfl ?_
    refine Q.map (A.gf (gI_of zm232 (e := (53, 3, .getfield 334, [9, 44])) rfl) (hq14.1.lt (a := 121) (by decide)) (hq14.1.T (a := 121) (p := (9, 45)) 43 rfl rfl) (by decide) rfl) ?_
    cases h
    exact Q.ret (A.ri zm232 (show zM232.2.2.2.2.2[32]? = some (56, 1, .ireturn, []) from rfl) rfl rfl) hq14.1
  · rw [if_neg hc4] at h
    refine Q.map (A.zF (gI_of zm232 (e := (21, 3, .ifCond .le 5, [14])) rfl) (fun q => hc4 (of_decide_eq_true q))) ?_
    refine Q.run zm232 1 (i' := 13) (ls' := [some (.ref 121), some (.int x1), some (.int x2)]) (st' := [.int 0]) rfl ?_
    cases h
    exact Q.ret (A.ri zm232 (show zM232.2.2.2.2.2[13]? = some (25, 1, .ireturn, []) from rfl) rfl rfl) hl3
def dm232 (x1 : Int32) (x2 : Int32) (s : aS) : Option (Int32 × aS) :=
  bu (dm225 x1 s) fun r3 =>
  if r3 = 0 then
    dm232_8 x1 x2 0 s
  else
    dm232_8 x1 x2 1 s
set_option maxRecDepth 100000 in
theorem dt232 {sio : Bool} {tt : Nat} {cc : Nat → Nat → Int32} {d : Nat} (hd : 1213 ≤ d) {x1 : Int32} {x2 : Int32} {s : aS} (hl : Ly tt cc s) {o : Int32 × aS} (h : dm232  x1 x2 s = some o) : Q 2 sio tt cc d 232 0 [some (.ref 121), some (.int x1), some (.int x2)] [] s (.inl (some (.int o.1)), o.2) := by
  unfold dm232 at h
  obtain ⟨d, rfl⟩ : ∃ e, d = e + 1 := ⟨d - 1, by omega⟩
  refine Q.run zm232 3 (i' := 3) (ls' := [some (.ref 121), some (.int x1), some (.int x2)]) (st' := [.int x1, .ref 121, .ref 121]) rfl ?_
  obtain ⟨r3, hc2, h⟩ := bu_so h
  have hq1 : Q 2 sio tt cc d 225 0 [some (.ref 121), some (.int x1)] [] s (.inl (some (.int r3)), s) := dt225 (by omega) hl  hc2
  refine Q.callI (gC_vi zm232 (show zM232.2.2.2.2.2[3]? = some (3, 3, .invokevirtual 310, [0, 225, 1, 9]) from rfl) zm225 (hl.lt (a := 121) (by decide)) (hl.T (a := 121) (p := (9, 45)) 43 rfl rfl) rfl (show aCr 1 121 [.int x1, .ref 121, .ref 121] 2 = some ([some (.ref 121), some (.int x1)], [.ref 121]) from rfl)) hq1 ?_
  by_cases hc4 : r3 = 0
  · rw [if_pos hc4] at h
    refine Q.map (A.zT (gI_of zm232 (e := (6, 3, .ifCond .eq 7, [7])) rfl) (decide_eq_true hc4)) ?_
    refine Q.run zm232 1 (i' := 8) (ls' := [some (.ref 121), some (.int x1), some (.int x2)]) (st' := [.int 0, .ref 121]) rfl ?_
    exact dt232_8 hd hl  h
  · rw [if_neg hc4] at h
    refine Q.map (A.zF (gI_of zm232 (e := (6, 3, .ifCond .eq 7, [7])) rfl) (fun q => hc4 (of_decide_eq_true q))) ?_
    refine Q.run zm232 2 (i' := 8) (ls' := [some (.ref 121), some (.int x1), some (.int x2)]) (st' := [.int 1, .ref 121]) rfl ?_
    exact dt232_8 hd hl  h
/-! 171 FormulaTreesModel.thrown()I -/
set_option maxRecDepth 100000 in
theorem zm171 : zP[171]? = some zM171 := rfl
def dm171 (s : aS) : Option (Int32) :=
  some (sI s 121 0)
set_option maxRecDepth 100000 in
theorem dt171 {sio : Bool} {tt : Nat} {cc : Nat → Nat → Int32} {d : Nat} (hd : 0 ≤ d) {s : aS} (hl : Ly tt cc s) {o : Int32} (h : dm171  s = some o) : Q 2 sio tt cc d 171 0 [some (.ref 121)] [] s (.inl (some (.int o)), s) := by
  unfold dm171 at h
  refine Q.run zm171 1 (i' := 1) (ls' := [some (.ref 121)]) (st' := [.ref 121]) rfl ?_
  refine Q.map (A.gf (gI_of zm171 (e := (1, 3, .getfield 89, [9, 0])) rfl) (hl.lt (a := 121) (by decide)) (hl.T (a := 121) (p := (9, 45)) 43 rfl rfl) (by decide) rfl) ?_
  cases h
  exact Q.ret (A.ri zm171 (show zM171.2.2.2.2.2[2]? = some (4, 1, .ireturn, []) from rfl) rfl rfl) hl
/-! 159 FormulaTrees.size(I)I -/
set_option maxRecDepth 100000 in
theorem zm159 : zP[159]? = some zM159 := rfl
def dm159 (x1 : Int32) (s : aS) : Option (xZ × aS) :=
  bu (dm54 x1 s) fun r3 =>
  vN r3 (
    some (.inr 2, nw s 82 0)
  ) fun b5 =>
    if aK s b5 3 then
      bu (dm94 b5 s) fun r9 =>
      some (.inl (some (.int r9)), s)
    else none
set_option maxRecDepth 100000 in
theorem dt159 {sio : Bool} {tt : Nat} {cc : Nat → Nat → Int32} {d : Nat} (hd : 9 ≤ d) {x1 : Int32} {s : aS} (hl : Ly tt cc s) {o : xZ × aS} (h : dm159  x1 s = some o) : Q 1 sio tt cc d 159 0 [some (.ref 78), some (.int x1), none] [] s o := by
  unfold dm159 at h
  obtain ⟨d, rfl⟩ : ∃ e, d = e + 1 := ⟨d - 1, by omega⟩
  refine Q.run zm159 2 (i' := 2) (ls' := [some (.ref 78), some (.int x1), none]) (st' := [.int x1, .ref 78]) rfl ?_
  obtain ⟨r3, hc2, h⟩ := bu_so h
  have hq1 : Q 1 sio tt cc d 54 0 [some (.ref 78), some (.int x1)] [] s (.inl (some r3), s) := dt54 (by omega) hl  hc2
  rcases vN_so h with ⟨hv4, h9⟩ | ⟨b5, hv4, h9⟩
  · clear h
    subst hv4
    have h := h9
    refine Q.callR (gC_vi zm159 (show zM159.2.2.2.2.2[2]? = some (2, 3, .invokevirtual 114, [0, 54, 1, 0]) from rfl) zm54 (hl.lt (a := 78) (by decide)) (hl.T (a := 78) (p := (0, 7)) 0 rfl rfl) rfl (show aCr 1 78 [.int x1, .ref 78] 2 = some ([some (.ref 78), some (.int x1)], []) from rfl)) hq1 ?_
    refine Q.run zm159 3 (i' := 6) (ls' := [some (.ref 78), some (.int x1), some (.null)]) (st' := []) rfl ?_
    cases h
    exact Q.t zm159 (show zM159.2.2.2.2.2[6]? = some (10, 3, .new 100, [202]) from rfl) rfl rfl hl.gL (by omega) hl
  · clear h
    subst hv4
    have h := h9
    obtain ⟨hr6, h⟩ := ite_so h
    refine Q.callR (gC_vi zm159 (show zM159.2.2.2.2.2[2]? = some (2, 3, .invokevirtual 114, [0, 54, 1, 0]) from rfl) zm54 (hl.lt (a := 78) (by decide)) (hl.T (a := 78) (p := (0, 7)) 0 rfl rfl) rfl (show aCr 1 78 [.int x1, .ref 78] 2 = some ([some (.ref 78), some (.int x1)], []) from rfl)) hq1 ?_
    refine Q.run zm159 4 (i' := 12) (ls' := [some (.ref 78), some (.int x1), some (.ref b5)]) (st' := [.ref b5]) rfl ?_
    obtain ⟨r9, hc8, h⟩ := bu_so h
    have hq7 : Q 1 sio tt cc d 94 0 [some (.ref b5)] [] s (.inl (some (.int r9)), s) := dt94 (by omega) hl hr6 hc8
    refine Q.callI (gC_vi zm159 (show zM159.2.2.2.2.2[12]? = some (21, 3, .invokevirtual 163, [0, 94, 0, 3]) from rfl) zm94 hr6.1 (hl.tr hr6).1 rfl (show aCr 0 b5 [.ref b5] 1 = some ([some (.ref b5)], []) from rfl)) hq7 ?_
    cases h
    exact Q.ret (A.ri zm159 (show zM159.2.2.2.2.2[13]? = some (24, 1, .ireturn, []) from rfl) rfl rfl) hl
/-! 10 FormulaTreesLaw.size(LFormulaTrees;I[J)I -/
set_option maxRecDepth 100000 in
theorem zm10 : zP[10]? = some zM10 := rfl
def dm10 (x1 : Int32) (s : aS) : Option (Int32 × aS) :=
  bv (dm159 x1 s) fun z4 s3 =>
  zN z4 (fun v5 =>
    vI v5 fun r7 =>
    if aB 0 1 then
      nx (wJ s3 148 (jN 0) r7.toInt64) fun s10 =>
      some (0, s10)
    else none
  ) fun e6 =>
    if e6 = 2 then
      some (1, s3)
    else
      none
set_option maxRecDepth 100000 in
theorem dt10 {sio : Bool} {tt : Nat} {cc : Nat → Nat → Int32} {d : Nat} (hd : 10 ≤ d) {x1 : Int32} {s : aS} (hl : Ly tt cc s) {o : Int32 × aS} (h : dm10  x1 s = some o) : Q 1 sio tt cc d 10 0 [some (.ref 78), some (.int x1), some (.ref 148), none] [] s (.inl (some (.int o.1)), o.2) := by
  unfold dm10 at h
  obtain ⟨d, rfl⟩ : ∃ e, d = e + 1 := ⟨d - 1, by omega⟩
  refine Q.run zm10 4 (i' := 4) (ls' := [some (.ref 78), some (.int x1), some (.ref 148), none]) (st' := [.int x1, .ref 78, .int 0, .ref 148]) rfl ?_
  obtain ⟨z4, s3, hc2, h⟩ := bv_so h
  have hq1 : Q 1 sio tt cc d 159 0 [some (.ref 78), some (.int x1), none] [] s (z4, s3) := dt159 (by omega) hl  hc2
  rcases zN_so h with ⟨v5, hz13, h8⟩ | ⟨e6, hz13, h8⟩
  · clear h
    subst hz13
    have h := h8
    obtain ⟨r7, hv8, h9⟩ := vI_so h
    clear h
    subst hv8
    have h := h9
    refine Q.callI (gC_vi zm10 (show zM10.2.2.2.2.2[4]? = some (4, 3, .invokevirtual 48, [0, 159, 1, 0]) from rfl) zm159 (hl.lt (a := 78) (by decide)) (hl.T (a := 78) (p := (0, 7)) 0 rfl rfl) rfl (show aCr 1 78 [.int x1, .ref 78, .int 0, .ref 148] 3 = some ([some (.ref 78), some (.int x1), none], [.int 0, .ref 148]) from rfl)) hq1 ?_
    refine Q.run zm10 1 (i' := 6) (ls' := [some (.ref 78), some (.int x1), some (.ref 148), none]) (st' := [.long r7.toInt64, .int 0, .ref 148]) rfl ?_
    obtain ⟨hc9, h⟩ := ite_so h
    obtain ⟨s10, hs11, h⟩ := nx_so h
    refine Q.lS hs11 rfl (gI_of zm10 (e := (8, 1, .lastore, [])) rfl) (hq1.1.lt (a := 148) (by decide)) (by decide) (hq1.1.T (a := 148) (p := (104, 1)) 70 rfl rfl) hc9 ?_
    have hl12 : Ly tt cc s10 := by rw [hs11]; exact hq1.1.wJd
    refine Q.run zm10 2 (i' := 12) (ls' := [some (.ref 78), some (.int x1), some (.ref 148), none]) (st' := [.int 0]) rfl ?_
    cases h
    exact Q.ret (A.ri zm10 (show zM10.2.2.2.2.2[12]? = some (16, 1, .ireturn, []) from rfl) rfl rfl) hl12
  · clear h
    subst hz13
    have h := h8
    by_cases hc14 : e6 = 2
    · rw [if_pos hc14] at h
      subst hc14
      refine Q.hc (gC_vi zm10 (show zM10.2.2.2.2.2[4]? = some (4, 3, .invokevirtual 48, [0, 159, 1, 0]) from rfl) zm159 (hl.lt (a := 78) (by decide)) (hl.T (a := 78) (p := (0, 7)) 0 rfl rfl) rfl (show aCr 1 78 [.int x1, .ref 78, .int 0, .ref 148] 3 = some ([some (.ref 78), some (.int x1), none], [.int 0, .ref 148]) from rfl)) hq1 (t := 8) rfl ?_
      refine Q.run zm10 2 (i' := 10) (ls' := [some (.ref 78), some (.int x1), some (.ref 148), some (.ref (sL s3 - 1))]) (st' := [.int 1]) rfl ?_
      cases h
      exact Q.ret (A.ri zm10 (show zM10.2.2.2.2.2[10]? = some (14, 1, .ireturn, []) from rfl) rfl rfl) hq1.1
    · rw [if_neg hc14] at h
      cases h
/-! 243 FormulaTreesModel.size(I)I -/
set_option maxRecDepth 100000 in
theorem zm243 : zP[243]? = some zM243 := rfl
def dm243_8 (x1 : Int32) (y1 : Int32) (s : aS) : Option (Int32 × aS) :=
  nx (wI s 121 0 y1) fun s1 =>
  if (sI s1 121 0) ≤ 0 then
    if aB x1 9 then
      some (sI s1 127 (jN x1), s1)
    else none
  else
    some (0, s1)
set_option maxRecDepth 100000 in
theorem dt243_8 {sio : Bool} {tt : Nat} {cc : Nat → Nat → Int32} {d : Nat} (hd : 1 ≤ d) {x1 : Int32} {y1 : Int32} {s : aS} (hl : Ly tt cc s) {o : Int32 × aS} (h : dm243_8  x1 y1 s = some o) : Q 2 sio tt cc d 243 8 [some (.ref 121), some (.int x1)] [.int y1, .ref 121] s (.inl (some (.int o.1)), o.2) := by
  unfold dm243_8 at h
  obtain ⟨d, rfl⟩ : ∃ e, d = e + 1 := ⟨d - 1, by omega⟩
  obtain ⟨s1, hs2, h⟩ := nx_so h
  refine Q.pf hs2 rfl (gI_of zm243 (e := (14, 3, .putfield 89, [9, 0, 0])) rfl) (hl.lt (a := 121) (by decide)) (by decide) (hl.T (a := 121) (p := (9, 45)) 43 rfl rfl) (by decide) rfl rfl ?_
  have hl3 : Ly tt cc s1 := by rw [hs2]; exact hl.wId (by decide)
  refine Q.run zm243 1 (i' := 10) (ls' := [some (.ref 121), some (.int x1)]) (st' := [.ref 121]) rfl ?_
  refine Q.map (A.gf (gI_of zm243 (e := (18, 3, .getfield 89, [9, 0])) rfl) (hl3.lt (a := 121) (by decide)) (hl3.T (a := 121) (p := (9, 45)) 43 rfl rfl) (by decide) rfl) ?_
  by_cases hc4 : (sI s1 121 0) ≤ 0
  · rw [if_pos hc4] at h
    refine Q.map (A.zT (gI_of zm243 (e := (21, 3, .ifCond .le 7, [14])) rfl) (decide_eq_true hc4)) ?_
    refine Q.run zm243 1 (i' := 15) (ls' := [some (.ref 121), some (.int x1)]) (st' := [.ref 121]) rfl ?_
    refine Q.map (A.gf (gI_of zm243 (e := (29, 3, .getfield 26, [9, 8])) rfl) (hl3.lt (a := 121) (by decide)) (hl3.T (a := 121) (p := (9, 45)) 43 rfl rfl) (by decide) (hl3.R 28 rfl)) ?_
    refine Q.run zm243 1 (i' := 17) (ls' := [some (.ref 121), some (.int x1)]) (st' := [.int x1, .ref 127]) rfl ?_
    obtain ⟨hc5, h⟩ := ite_so h
    refine Q.map (A.ia (gI_of zm243 (e := (33, 1, .iaload, [])) rfl) (hl3.lt (a := 127) (by decide)) (hl3.T (a := 127) (p := (100, 9)) 49 rfl rfl) hc5) ?_
    cases h
    exact Q.ret (A.ri zm243 (show zM243.2.2.2.2.2[18]? = some (34, 1, .ireturn, []) from rfl) rfl rfl) hl3
  · rw [if_neg hc4] at h
    refine Q.map (A.zF (gI_of zm243 (e := (21, 3, .ifCond .le 7, [14])) rfl) (fun q => hc4 (of_decide_eq_true q))) ?_
    refine Q.run zm243 2 (i' := 18) (ls' := [some (.ref 121), some (.int x1)]) (st' := [.int 0]) rfl ?_
    cases h
    exact Q.ret (A.ri zm243 (show zM243.2.2.2.2.2[18]? = some (34, 1, .ireturn, []) from rfl) rfl rfl) hl3
def dm243 (x1 : Int32) (s : aS) : Option (Int32 × aS) :=
  bu (dm225 x1 s) fun r3 =>
  if r3 = 0 then
    dm243_8 x1 0 s
  else
    dm243_8 x1 1 s
set_option maxRecDepth 100000 in
theorem dt243 {sio : Bool} {tt : Nat} {cc : Nat → Nat → Int32} {d : Nat} (hd : 1 ≤ d) {x1 : Int32} {s : aS} (hl : Ly tt cc s) {o : Int32 × aS} (h : dm243  x1 s = some o) : Q 2 sio tt cc d 243 0 [some (.ref 121), some (.int x1)] [] s (.inl (some (.int o.1)), o.2) := by
  unfold dm243 at h
  obtain ⟨d, rfl⟩ : ∃ e, d = e + 1 := ⟨d - 1, by omega⟩
  refine Q.run zm243 3 (i' := 3) (ls' := [some (.ref 121), some (.int x1)]) (st' := [.int x1, .ref 121, .ref 121]) rfl ?_
  obtain ⟨r3, hc2, h⟩ := bu_so h
  have hq1 : Q 2 sio tt cc d 225 0 [some (.ref 121), some (.int x1)] [] s (.inl (some (.int r3)), s) := dt225 (by omega) hl  hc2
  refine Q.callI (gC_vi zm243 (show zM243.2.2.2.2.2[3]? = some (3, 3, .invokevirtual 310, [0, 225, 1, 9]) from rfl) zm225 (hl.lt (a := 121) (by decide)) (hl.T (a := 121) (p := (9, 45)) 43 rfl rfl) rfl (show aCr 1 121 [.int x1, .ref 121, .ref 121] 2 = some ([some (.ref 121), some (.int x1)], [.ref 121]) from rfl)) hq1 ?_
  by_cases hc4 : r3 = 0
  · rw [if_pos hc4] at h
    refine Q.map (A.zT (gI_of zm243 (e := (6, 3, .ifCond .eq 7, [7])) rfl) (decide_eq_true hc4)) ?_
    refine Q.run zm243 1 (i' := 8) (ls' := [some (.ref 121), some (.int x1)]) (st' := [.int 0, .ref 121]) rfl ?_
    exact dt243_8 hd hl  h
  · rw [if_neg hc4] at h
    refine Q.map (A.zF (gI_of zm243 (e := (6, 3, .ifCond .eq 7, [7])) rfl) (fun q => hc4 (of_decide_eq_true q))) ?_
    refine Q.run zm243 2 (i' := 8) (ls' := [some (.ref 121), some (.int x1)]) (st' := [.int 1, .ref 121]) rfl ?_
    exact dt243_8 hd hl  h
/-! 161 FormulaTrees$Tree.has(I)Z -/
set_option maxRecDepth 100000 in
theorem zm161 : zP[161]? = some zM161 := rfl
def dm161 (b0 : Nat) (x1 : Int32) (s : aS) : Option (Int32) :=
  if x1 < 0 then
    some 0
  else
    if (sI s b0 2) ≤ x1 then
      some 0
    else
      some 1
set_option maxRecDepth 100000 in
theorem dt161 {sio : Bool} {tt : Nat} {cc : Nat → Nat → Int32} {d : Nat} (hd : 0 ≤ d) {b0 : Nat} {x1 : Int32} {s : aS} (hl : Ly tt cc s) (hk_b0 : aK s b0 3) {o : Int32} (h : dm161  b0 x1 s = some o) : Q 1 sio tt cc d 161 0 [some (.ref b0), some (.int x1)] [] s (.inl (some (.int o)), s) := by
  unfold dm161 at h
  refine Q.run zm161 1 (i' := 1) (ls' := [some (.ref b0), some (.int x1)]) (st' := [.int x1]) rfl ?_
  by_cases hc1 : x1 < 0
  · rw [if_pos hc1] at h
    refine Q.map (A.zT (gI_of zm161 (e := (1, 3, .ifCond .lt 15, [8])) rfl) (decide_eq_true hc1)) ?_
    refine Q.run zm161 1 (i' := 9) (ls' := [some (.ref b0), some (.int x1)]) (st' := [.int 0]) rfl ?_
    cases h
    exact Q.ret (A.ri zm161 (show zM161.2.2.2.2.2[9]? = some (17, 1, .ireturn, []) from rfl) rfl rfl) hl
  · rw [if_neg hc1] at h
    refine Q.map (A.zF (gI_of zm161 (e := (1, 3, .ifCond .lt 15, [8])) rfl) (fun q => hc1 (of_decide_eq_true q))) ?_
    refine Q.run zm161 2 (i' := 4) (ls' := [some (.ref b0), some (.int x1)]) (st' := [.ref b0, .int x1]) rfl ?_
    refine Q.map (A.gf (gI_of zm161 (e := (6, 3, .getfield 24, [3, 2])) rfl) hk_b0.1 (hl.tr hk_b0).1 (by decide) rfl) ?_
    by_cases hc2 : (sI s b0 2) ≤ x1
    · rw [if_pos hc2] at h
      refine Q.map (A.bT (gI_of zm161 (e := (9, 3, .if_icmp .ge 7, [8])) rfl) (decide_eq_true hc2)) ?_
      refine Q.run zm161 1 (i' := 9) (ls' := [some (.ref b0), some (.int x1)]) (st' := [.int 0]) rfl ?_
      cases h
      exact Q.ret (A.ri zm161 (show zM161.2.2.2.2.2[9]? = some (17, 1, .ireturn, []) from rfl) rfl rfl) hl
    · rw [if_neg hc2] at h
      refine Q.map (A.bF (gI_of zm161 (e := (9, 3, .if_icmp .ge 7, [8])) rfl) (fun q => hc2 (of_decide_eq_true q))) ?_
      refine Q.run zm161 2 (i' := 9) (ls' := [some (.ref b0), some (.int x1)]) (st' := [.int 1]) rfl ?_
      cases h
      exact Q.ret (A.ri zm161 (show zM161.2.2.2.2.2[9]? = some (17, 1, .ireturn, []) from rfl) rfl rfl) hl
/-! 160 FormulaTrees.node(III)I -/
set_option maxRecDepth 100000 in
theorem zm160 : zP[160]? = some zM160 := rfl
def dm160_20 (s : aS) : Option (xZ × aS) :=
  some (.inr 0, nw s 80 0)
set_option maxRecDepth 100000 in
theorem dt160_20 {sio : Bool} {tt : Nat} {cc : Nat → Nat → Int32} {d : Nat} (hd : 9 ≤ d) {x1 : Int32} {x2 : Int32} {x3 : Int32} {b4 : Nat} {s : aS} (hl : Ly tt cc s) {o : xZ × aS} (h : dm160_20  s = some o) : Q 1 sio tt cc d 160 20 [some (.ref 78), some (.int x1), some (.int x2), some (.int x3), some (.ref b4)] [] s o := by
  unfold dm160_20 at h
  obtain ⟨d, rfl⟩ : ∃ e, d = e + 1 := ⟨d - 1, by omega⟩
  cases h
  exact Q.t zm160 (show zM160.2.2.2.2.2[20]? = some (41, 3, .new 58, [200]) from rfl) rfl rfl hl.gL (by omega) hl
def dm160_10 (s : aS) : Option (xZ × aS) :=
  some (.inr 2, nw s 82 0)
set_option maxRecDepth 100000 in
theorem dt160_10 {sio : Bool} {tt : Nat} {cc : Nat → Nat → Int32} {d : Nat} (hd : 9 ≤ d) {x1 : Int32} {x2 : Int32} {x3 : Int32} {g4 : Option Value} {s : aS} (hl : Ly tt cc s) {o : xZ × aS} (h : dm160_10  s = some o) : Q 1 sio tt cc d 160 10 [some (.ref 78), some (.int x1), some (.int x2), some (.int x3), g4] [] s o := by
  unfold dm160_10 at h
  obtain ⟨d, rfl⟩ : ∃ e, d = e + 1 := ⟨d - 1, by omega⟩
  cases h
  exact Q.t zm160 (show zM160.2.2.2.2.2[10]? = some (21, 3, .new 100, [202]) from rfl) rfl rfl hl.gL (by omega) hl
def dm160 (x1 : Int32) (x2 : Int32) (x3 : Int32) (s : aS) : Option (xZ × aS) :=
  bu (dm54 x1 s) fun r3 =>
  vN r3 (
    dm160_10 s
  ) fun b5 =>
    if aK s b5 3 then
      bu (dm161 b5 x2 s) fun r9 =>
      if r9 = 0 then
        dm160_10 s
      else
        if x3 < 0 then
          dm160_20 s
        else
          if x3 < 9 then
            bu (dm57 b5 x2 x3 s) fun r15 =>
            some (.inl (some (.int r15)), s)
          else
            dm160_20 s
    else none
set_option maxRecDepth 100000 in
theorem dt160 {sio : Bool} {tt : Nat} {cc : Nat → Nat → Int32} {d : Nat} (hd : 9 ≤ d) {x1 : Int32} {x2 : Int32} {x3 : Int32} {s : aS} (hl : Ly tt cc s) {o : xZ × aS} (h : dm160  x1 x2 x3 s = some o) : Q 1 sio tt cc d 160 0 [some (.ref 78), some (.int x1), some (.int x2), some (.int x3), none] [] s o := by
  unfold dm160 at h
  obtain ⟨d, rfl⟩ : ∃ e, d = e + 1 := ⟨d - 1, by omega⟩
  refine Q.run zm160 2 (i' := 2) (ls' := [some (.ref 78), some (.int x1), some (.int x2), some (.int x3), none]) (st' := [.int x1, .ref 78]) rfl ?_
  obtain ⟨r3, hc2, h⟩ := bu_so h
  have hq1 : Q 1 sio tt cc d 54 0 [some (.ref 78), some (.int x1)] [] s (.inl (some r3), s) := dt54 (by omega) hl  hc2
  rcases vN_so h with ⟨hv4, h9⟩ | ⟨b5, hv4, h9⟩
  · clear h
    subst hv4
    have h := h9
    refine Q.callR (gC_vi zm160 (show zM160.2.2.2.2.2[2]? = some (2, 3, .invokevirtual 114, [0, 54, 1, 0]) from rfl) zm54 (hl.lt (a := 78) (by decide)) (hl.T (a := 78) (p := (0, 7)) 0 rfl rfl) rfl (show aCr 1 78 [.int x1, .ref 78] 2 = some ([some (.ref 78), some (.int x1)], []) from rfl)) hq1 ?_
    refine Q.run zm160 3 (i' := 10) (ls' := [some (.ref 78), some (.int x1), some (.int x2), some (.int x3), some (.null)]) (st' := []) rfl ?_
    exact dt160_10 hd hl  h
  · clear h
    subst hv4
    have h := h9
    obtain ⟨hr6, h⟩ := ite_so h
    refine Q.callR (gC_vi zm160 (show zM160.2.2.2.2.2[2]? = some (2, 3, .invokevirtual 114, [0, 54, 1, 0]) from rfl) zm54 (hl.lt (a := 78) (by decide)) (hl.T (a := 78) (p := (0, 7)) 0 rfl rfl) rfl (show aCr 1 78 [.int x1, .ref 78] 2 = some ([some (.ref 78), some (.int x1)], []) from rfl)) hq1 ?_
    refine Q.run zm160 5 (i' := 8) (ls' := [some (.ref 78), some (.int x1), some (.int x2), some (.int x3), some (.ref b5)]) (st' := [.int x2, .ref b5]) rfl ?_
    obtain ⟨r9, hc8, h⟩ := bu_so h
    have hq7 : Q 1 sio tt cc d 161 0 [some (.ref b5), some (.int x2)] [] s (.inl (some (.int r9)), s) := dt161 (by omega) hl hr6 hc8
    refine Q.callI (gC_vi zm160 (show zM160.2.2.2.2.2[8]? = some (15, 3, .invokevirtual 166, [0, 161, 1, 3]) from rfl) zm161 hr6.1 (hl.tr hr6).1 rfl (show aCr 1 b5 [.int x2, .ref b5] 2 = some ([some (.ref b5), some (.int x2)], []) from rfl)) hq7 ?_
    by_cases hc10 : r9 = 0
    · rw [if_pos hc10] at h
      refine Q.map (A.zF (gI_of zm160 (e := (18, 3, .ifCond .ne 13, [15])) rfl) (fun q => of_decide_eq_true q hc10)) ?_
      exact dt160_10 hd hl  h
    · rw [if_neg hc10] at h
      refine Q.map (A.zT (gI_of zm160 (e := (18, 3, .ifCond .ne 13, [15])) rfl) (decide_eq_true hc10)) ?_
      refine Q.run zm160 1 (i' := 16) (ls' := [some (.ref 78), some (.int x1), some (.int x2), some (.int x3), some (.ref b5)]) (st' := [.int x3]) rfl ?_
      by_cases hc11 : x3 < 0
      · rw [if_pos hc11] at h
        refine Q.map (A.zT (gI_of zm160 (e := (32, 3, .ifCond .lt 9, [20])) rfl) (decide_eq_true hc11)) ?_
        exact dt160_20 hd hl  h
      · rw [if_neg hc11] at h
        refine Q.map (A.zF (gI_of zm160 (e := (32, 3, .ifCond .lt 9, [20])) rfl) (fun q => hc11 (of_decide_eq_true q))) ?_
        refine Q.run zm160 2 (i' := 19) (ls' := [some (.ref 78), some (.int x1), some (.int x2), some (.int x3), some (.ref b5)]) (st' := [.int 9, .int x3]) rfl ?_
        by_cases hc12 : x3 < 9
        · rw [if_pos hc12] at h
          refine Q.map (A.bT (gI_of zm160 (e := (38, 3, .if_icmp .lt 13, [25])) rfl) (decide_eq_true hc12)) ?_
          refine Q.run zm160 3 (i' := 28) (ls' := [some (.ref 78), some (.int x1), some (.int x2), some (.int x3), some (.ref b5)]) (st' := [.int x3, .int x2, .ref b5]) rfl ?_
          obtain ⟨r15, hc14, h⟩ := bu_so h
          have hq13 : Q 1 sio tt cc d 57 0 [some (.ref b5), some (.int x2), some (.int x3), none] [] s (.inl (some (.int r15)), s) := dt57 (by omega) hl hr6 hc14
          refine Q.callI (gC_vi zm160 (show zM160.2.2.2.2.2[28]? = some (55, 3, .invokevirtual 171, [0, 57, 2, 3]) from rfl) zm57 hr6.1 (hl.tr hr6).1 rfl (show aCr 2 b5 [.int x3, .int x2, .ref b5] 4 = some ([some (.ref b5), some (.int x2), some (.int x3), none], []) from rfl)) hq13 ?_
          cases h
          exact Q.ret (A.ri zm160 (show zM160.2.2.2.2.2[29]? = some (58, 1, .ireturn, []) from rfl) rfl rfl) hl
        · rw [if_neg hc12] at h
          refine Q.map (A.bF (gI_of zm160 (e := (38, 3, .if_icmp .lt 13, [25])) rfl) (fun q => hc12 (of_decide_eq_true q))) ?_
          exact dt160_20 hd hl  h
/-! 11 FormulaTreesLaw.node(LFormulaTrees;III[J)I -/
set_option maxRecDepth 100000 in
theorem zm11 : zP[11]? = some zM11 := rfl
def dm11 (x1 : Int32) (x2 : Int32) (x3 : Int32) (s : aS) : Option (Int32 × aS) :=
  bv (dm160 x1 x2 x3 s) fun z4 s3 =>
  zN z4 (fun v5 =>
    vI v5 fun r7 =>
    if aB 0 1 then
      nx (wJ s3 148 (jN 0) r7.toInt64) fun s10 =>
      some (0, s10)
    else none
  ) fun e6 =>
    if e6 = 2 then
      some (1, s3)
    else
      if e6 = 0 then
        some (2, s3)
      else
        none
set_option maxRecDepth 100000 in
theorem dt11 {sio : Bool} {tt : Nat} {cc : Nat → Nat → Int32} {d : Nat} (hd : 10 ≤ d) {x1 : Int32} {x2 : Int32} {x3 : Int32} {s : aS} (hl : Ly tt cc s) {o : Int32 × aS} (h : dm11  x1 x2 x3 s = some o) : Q 1 sio tt cc d 11 0 [some (.ref 78), some (.int x1), some (.int x2), some (.int x3), some (.ref 148), none] [] s (.inl (some (.int o.1)), o.2) := by
  unfold dm11 at h
  obtain ⟨d, rfl⟩ : ∃ e, d = e + 1 := ⟨d - 1, by omega⟩
  refine Q.run zm11 6 (i' := 6) (ls' := [some (.ref 78), some (.int x1), some (.int x2), some (.int x3), some (.ref 148), none]) (st' := [.int x3, .int x2, .int x1, .ref 78, .int 0, .ref 148]) rfl ?_
  obtain ⟨z4, s3, hc2, h⟩ := bv_so h
  have hq1 : Q 1 sio tt cc d 160 0 [some (.ref 78), some (.int x1), some (.int x2), some (.int x3), none] [] s (z4, s3) := dt160 (by omega) hl  hc2
  rcases zN_so h with ⟨v5, hz13, h8⟩ | ⟨e6, hz13, h8⟩
  · clear h
    subst hz13
    have h := h8
    obtain ⟨r7, hv8, h9⟩ := vI_so h
    clear h
    subst hv8
    have h := h9
    refine Q.callI (gC_vi zm11 (show zM11.2.2.2.2.2[6]? = some (7, 3, .invokevirtual 51, [0, 160, 3, 0]) from rfl) zm160 (hl.lt (a := 78) (by decide)) (hl.T (a := 78) (p := (0, 7)) 0 rfl rfl) rfl (show aCr 3 78 [.int x3, .int x2, .int x1, .ref 78, .int 0, .ref 148] 5 = some ([some (.ref 78), some (.int x1), some (.int x2), some (.int x3), none], [.int 0, .ref 148]) from rfl)) hq1 ?_
    refine Q.run zm11 1 (i' := 8) (ls' := [some (.ref 78), some (.int x1), some (.int x2), some (.int x3), some (.ref 148), none]) (st' := [.long r7.toInt64, .int 0, .ref 148]) rfl ?_
    obtain ⟨hc9, h⟩ := ite_so h
    obtain ⟨s10, hs11, h⟩ := nx_so h
    refine Q.lS hs11 rfl (gI_of zm11 (e := (11, 1, .lastore, [])) rfl) (hq1.1.lt (a := 148) (by decide)) (by decide) (hq1.1.T (a := 148) (p := (104, 1)) 70 rfl rfl) hc9 ?_
    have hl12 : Ly tt cc s10 := by rw [hs11]; exact hq1.1.wJd
    refine Q.run zm11 2 (i' := 17) (ls' := [some (.ref 78), some (.int x1), some (.int x2), some (.int x3), some (.ref 148), none]) (st' := [.int 0]) rfl ?_
    cases h
    exact Q.ret (A.ri zm11 (show zM11.2.2.2.2.2[17]? = some (24, 1, .ireturn, []) from rfl) rfl rfl) hl12
  · clear h
    subst hz13
    have h := h8
    by_cases hc14 : e6 = 2
    · rw [if_pos hc14] at h
      subst hc14
      refine Q.hc (gC_vi zm11 (show zM11.2.2.2.2.2[6]? = some (7, 3, .invokevirtual 51, [0, 160, 3, 0]) from rfl) zm160 (hl.lt (a := 78) (by decide)) (hl.T (a := 78) (p := (0, 7)) 0 rfl rfl) rfl (show aCr 3 78 [.int x3, .int x2, .int x1, .ref 78, .int 0, .ref 148] 5 = some ([some (.ref 78), some (.int x1), some (.int x2), some (.int x3), none], [.int 0, .ref 148]) from rfl)) hq1 (t := 10) rfl ?_
      refine Q.run zm11 2 (i' := 12) (ls' := [some (.ref 78), some (.int x1), some (.int x2), some (.int x3), some (.ref 148), some (.ref (sL s3 - 1))]) (st' := [.int 1]) rfl ?_
      cases h
      exact Q.ret (A.ri zm11 (show zM11.2.2.2.2.2[12]? = some (18, 1, .ireturn, []) from rfl) rfl rfl) hq1.1
    · rw [if_neg hc14] at h
      by_cases hc15 : e6 = 0
      · rw [if_pos hc15] at h
        subst hc15
        refine Q.hc (gC_vi zm11 (show zM11.2.2.2.2.2[6]? = some (7, 3, .invokevirtual 51, [0, 160, 3, 0]) from rfl) zm160 (hl.lt (a := 78) (by decide)) (hl.T (a := 78) (p := (0, 7)) 0 rfl rfl) rfl (show aCr 3 78 [.int x3, .int x2, .int x1, .ref 78, .int 0, .ref 148] 5 = some ([some (.ref 78), some (.int x1), some (.int x2), some (.int x3), none], [.int 0, .ref 148]) from rfl)) hq1 (t := 13) rfl ?_
        refine Q.run zm11 2 (i' := 15) (ls' := [some (.ref 78), some (.int x1), some (.int x2), some (.int x3), some (.ref 148), some (.ref (sL s3 - 1))]) (st' := [.int 2]) rfl ?_
        cases h
        exact Q.ret (A.ri zm11 (show zM11.2.2.2.2.2[15]? = some (22, 1, .ireturn, []) from rfl) rfl rfl) hq1.1
      · rw [if_neg hc15] at h
        cases h
/-! 245 FormulaTreesModel.told(II)I -/
set_option maxRecDepth 100000 in
theorem zm245 : zP[245]? = some zM245 := rfl
def dm245 (x1 : Int32) (x2 : Int32) (s : aS) : Option (Int32) :=
  if x2 = 0 then
    if aB x1 1152 then
      some (sI s 128 (jN x1))
    else none
  else
    if x2 = 1 then
      if aB x1 1152 then
        some (sI s 129 (jN x1))
      else none
    else
      if x2 = 2 then
        if aB x1 1152 then
          some (sI s 130 (jN x1))
        else none
      else
        if x2 = 3 then
          if aB x1 1152 then
            some (sI s 131 (jN x1))
          else none
        else
          if x2 = 4 then
            if aB x1 1152 then
              some (sI s 132 (jN x1))
            else none
          else
            if x2 = 5 then
              if aB x1 1152 then
                some (sI s 133 (jN x1))
              else none
            else
              if x2 = 6 then
                if aB x1 1152 then
                  some (sI s 134 (jN x1))
                else none
              else
                if x2 = 7 then
                  if aB x1 1152 then
                    some (sI s 135 (jN x1))
                  else none
                else
                  if aB x1 1152 then
                    some (sI s 136 (jN x1))
                  else none
set_option maxRecDepth 100000 in
theorem dt245 {sio : Bool} {tt : Nat} {cc : Nat → Nat → Int32} {d : Nat} (hd : 0 ≤ d) {x1 : Int32} {x2 : Int32} {s : aS} (hl : Ly tt cc s) {o : Int32} (h : dm245  x1 x2 s = some o) : Q 2 sio tt cc d 245 0 [some (.ref 121), some (.int x1), some (.int x2)] [] s (.inl (some (.int o)), s) := by
  unfold dm245 at h
  refine Q.run zm245 1 (i' := 1) (ls' := [some (.ref 121), some (.int x1), some (.int x2)]) (st' := [.int x2]) rfl ?_
  by_cases hc1 : x2 = 0
  · rw [if_pos hc1] at h
    refine Q.map (A.ts (gI_of zm245 (e := (1, 47, .tableswitch 103 0 7 #[47, 54, 61, 68, 75, 82, 89, 96], [42, 2, 7, 12, 17, 22, 27, 32, 37])) rfl) (t := 2) (by rw [hc1] <;> decide)) ?_
    refine Q.run zm245 1 (i' := 3) (ls' := [some (.ref 121), some (.int x1), some (.int x2)]) (st' := [.ref 121]) rfl ?_
    refine Q.map (A.gf (gI_of zm245 (e := (49, 3, .getfield 29, [9, 9])) rfl) (hl.lt (a := 121) (by decide)) (hl.T (a := 121) (p := (9, 45)) 43 rfl rfl) (by decide) (hl.R 29 rfl)) ?_
    refine Q.run zm245 1 (i' := 5) (ls' := [some (.ref 121), some (.int x1), some (.int x2)]) (st' := [.int x1, .ref 128]) rfl ?_
    obtain ⟨hc2, h⟩ := ite_so h
    refine Q.map (A.ia (gI_of zm245 (e := (53, 1, .iaload, [])) rfl) (hl.lt (a := 128) (by decide)) (hl.T (a := 128) (p := (100, 1152)) 50 rfl rfl) hc2) ?_
    cases h
    exact Q.ret (A.ri zm245 (show zM245.2.2.2.2.2[6]? = some (54, 1, .ireturn, []) from rfl) rfl rfl) hl
  · rw [if_neg hc1] at h
    by_cases hc3 : x2 = 1
    · rw [if_pos hc3] at h
      refine Q.map (A.ts (gI_of zm245 (e := (1, 47, .tableswitch 103 0 7 #[47, 54, 61, 68, 75, 82, 89, 96], [42, 2, 7, 12, 17, 22, 27, 32, 37])) rfl) (t := 7) (by rw [hc3] <;> decide)) ?_
      refine Q.run zm245 1 (i' := 8) (ls' := [some (.ref 121), some (.int x1), some (.int x2)]) (st' := [.ref 121]) rfl ?_
      refine Q.map (A.gf (gI_of zm245 (e := (56, 3, .getfield 32, [9, 10])) rfl) (hl.lt (a := 121) (by decide)) (hl.T (a := 121) (p := (9, 45)) 43 rfl rfl) (by decide) (hl.R 30 rfl)) ?_
      refine Q.run zm245 1 (i' := 10) (ls' := [some (.ref 121), some (.int x1), some (.int x2)]) (st' := [.int x1, .ref 129]) rfl ?_
      obtain ⟨hc4, h⟩ := ite_so h
      refine Q.map (A.ia (gI_of zm245 (e := (60, 1, .iaload, [])) rfl) (hl.lt (a := 129) (by decide)) (hl.T (a := 129) (p := (100, 1152)) 51 rfl rfl) hc4) ?_
      cases h
      exact Q.ret (A.ri zm245 (show zM245.2.2.2.2.2[11]? = some (61, 1, .ireturn, []) from rfl) rfl rfl) hl
    · rw [if_neg hc3] at h
      by_cases hc5 : x2 = 2
      · rw [if_pos hc5] at h
        refine Q.map (A.ts (gI_of zm245 (e := (1, 47, .tableswitch 103 0 7 #[47, 54, 61, 68, 75, 82, 89, 96], [42, 2, 7, 12, 17, 22, 27, 32, 37])) rfl) (t := 12) (by rw [hc5] <;> decide)) ?_
        refine Q.run zm245 1 (i' := 13) (ls' := [some (.ref 121), some (.int x1), some (.int x2)]) (st' := [.ref 121]) rfl ?_
        refine Q.map (A.gf (gI_of zm245 (e := (63, 3, .getfield 35, [9, 11])) rfl) (hl.lt (a := 121) (by decide)) (hl.T (a := 121) (p := (9, 45)) 43 rfl rfl) (by decide) (hl.R 31 rfl)) ?_
        refine Q.run zm245 1 (i' := 15) (ls' := [some (.ref 121), some (.int x1), some (.int x2)]) (st' := [.int x1, .ref 130]) rfl ?_
        obtain ⟨hc6, h⟩ := ite_so h
        refine Q.map (A.ia (gI_of zm245 (e := (67, 1, .iaload, [])) rfl) (hl.lt (a := 130) (by decide)) (hl.T (a := 130) (p := (100, 1152)) 52 rfl rfl) hc6) ?_
        cases h
        exact Q.ret (A.ri zm245 (show zM245.2.2.2.2.2[16]? = some (68, 1, .ireturn, []) from rfl) rfl rfl) hl
      · rw [if_neg hc5] at h
        by_cases hc7 : x2 = 3
        · rw [if_pos hc7] at h
          refine Q.map (A.ts (gI_of zm245 (e := (1, 47, .tableswitch 103 0 7 #[47, 54, 61, 68, 75, 82, 89, 96], [42, 2, 7, 12, 17, 22, 27, 32, 37])) rfl) (t := 17) (by rw [hc7] <;> decide)) ?_
          refine Q.run zm245 1 (i' := 18) (ls' := [some (.ref 121), some (.int x1), some (.int x2)]) (st' := [.ref 121]) rfl ?_
          refine Q.map (A.gf (gI_of zm245 (e := (70, 3, .getfield 38, [9, 12])) rfl) (hl.lt (a := 121) (by decide)) (hl.T (a := 121) (p := (9, 45)) 43 rfl rfl) (by decide) (hl.R 32 rfl)) ?_
          refine Q.run zm245 1 (i' := 20) (ls' := [some (.ref 121), some (.int x1), some (.int x2)]) (st' := [.int x1, .ref 131]) rfl ?_
          obtain ⟨hc8, h⟩ := ite_so h
          refine Q.map (A.ia (gI_of zm245 (e := (74, 1, .iaload, [])) rfl) (hl.lt (a := 131) (by decide)) (hl.T (a := 131) (p := (100, 1152)) 53 rfl rfl) hc8) ?_
          cases h
          exact Q.ret (A.ri zm245 (show zM245.2.2.2.2.2[21]? = some (75, 1, .ireturn, []) from rfl) rfl rfl) hl
        · rw [if_neg hc7] at h
          by_cases hc9 : x2 = 4
          · rw [if_pos hc9] at h
            refine Q.map (A.ts (gI_of zm245 (e := (1, 47, .tableswitch 103 0 7 #[47, 54, 61, 68, 75, 82, 89, 96], [42, 2, 7, 12, 17, 22, 27, 32, 37])) rfl) (t := 22) (by rw [hc9] <;> decide)) ?_
            refine Q.run zm245 1 (i' := 23) (ls' := [some (.ref 121), some (.int x1), some (.int x2)]) (st' := [.ref 121]) rfl ?_
            refine Q.map (A.gf (gI_of zm245 (e := (77, 3, .getfield 41, [9, 13])) rfl) (hl.lt (a := 121) (by decide)) (hl.T (a := 121) (p := (9, 45)) 43 rfl rfl) (by decide) (hl.R 33 rfl)) ?_
            refine Q.run zm245 1 (i' := 25) (ls' := [some (.ref 121), some (.int x1), some (.int x2)]) (st' := [.int x1, .ref 132]) rfl ?_
            obtain ⟨hc10, h⟩ := ite_so h
            refine Q.map (A.ia (gI_of zm245 (e := (81, 1, .iaload, [])) rfl) (hl.lt (a := 132) (by decide)) (hl.T (a := 132) (p := (100, 1152)) 54 rfl rfl) hc10) ?_
            cases h
            exact Q.ret (A.ri zm245 (show zM245.2.2.2.2.2[26]? = some (82, 1, .ireturn, []) from rfl) rfl rfl) hl
          · rw [if_neg hc9] at h
            by_cases hc11 : x2 = 5
            · rw [if_pos hc11] at h
              refine Q.map (A.ts (gI_of zm245 (e := (1, 47, .tableswitch 103 0 7 #[47, 54, 61, 68, 75, 82, 89, 96], [42, 2, 7, 12, 17, 22, 27, 32, 37])) rfl) (t := 27) (by rw [hc11] <;> decide)) ?_
              refine Q.run zm245 1 (i' := 28) (ls' := [some (.ref 121), some (.int x1), some (.int x2)]) (st' := [.ref 121]) rfl ?_
              refine Q.map (A.gf (gI_of zm245 (e := (84, 3, .getfield 44, [9, 14])) rfl) (hl.lt (a := 121) (by decide)) (hl.T (a := 121) (p := (9, 45)) 43 rfl rfl) (by decide) (hl.R 34 rfl)) ?_
              refine Q.run zm245 1 (i' := 30) (ls' := [some (.ref 121), some (.int x1), some (.int x2)]) (st' := [.int x1, .ref 133]) rfl ?_
              obtain ⟨hc12, h⟩ := ite_so h
              refine Q.map (A.ia (gI_of zm245 (e := (88, 1, .iaload, [])) rfl) (hl.lt (a := 133) (by decide)) (hl.T (a := 133) (p := (100, 1152)) 55 rfl rfl) hc12) ?_
              cases h
              exact Q.ret (A.ri zm245 (show zM245.2.2.2.2.2[31]? = some (89, 1, .ireturn, []) from rfl) rfl rfl) hl
            · rw [if_neg hc11] at h
              by_cases hc13 : x2 = 6
              · rw [if_pos hc13] at h
                refine Q.map (A.ts (gI_of zm245 (e := (1, 47, .tableswitch 103 0 7 #[47, 54, 61, 68, 75, 82, 89, 96], [42, 2, 7, 12, 17, 22, 27, 32, 37])) rfl) (t := 32) (by rw [hc13] <;> decide)) ?_
                refine Q.run zm245 1 (i' := 33) (ls' := [some (.ref 121), some (.int x1), some (.int x2)]) (st' := [.ref 121]) rfl ?_
                refine Q.map (A.gf (gI_of zm245 (e := (91, 3, .getfield 47, [9, 15])) rfl) (hl.lt (a := 121) (by decide)) (hl.T (a := 121) (p := (9, 45)) 43 rfl rfl) (by decide) (hl.R 35 rfl)) ?_
                refine Q.run zm245 1 (i' := 35) (ls' := [some (.ref 121), some (.int x1), some (.int x2)]) (st' := [.int x1, .ref 134]) rfl ?_
                obtain ⟨hc14, h⟩ := ite_so h
                refine Q.map (A.ia (gI_of zm245 (e := (95, 1, .iaload, [])) rfl) (hl.lt (a := 134) (by decide)) (hl.T (a := 134) (p := (100, 1152)) 56 rfl rfl) hc14) ?_
                cases h
                exact Q.ret (A.ri zm245 (show zM245.2.2.2.2.2[36]? = some (96, 1, .ireturn, []) from rfl) rfl rfl) hl
              · rw [if_neg hc13] at h
                by_cases hc15 : x2 = 7
                · rw [if_pos hc15] at h
                  refine Q.map (A.ts (gI_of zm245 (e := (1, 47, .tableswitch 103 0 7 #[47, 54, 61, 68, 75, 82, 89, 96], [42, 2, 7, 12, 17, 22, 27, 32, 37])) rfl) (t := 37) (by rw [hc15] <;> decide)) ?_
                  refine Q.run zm245 1 (i' := 38) (ls' := [some (.ref 121), some (.int x1), some (.int x2)]) (st' := [.ref 121]) rfl ?_
                  refine Q.map (A.gf (gI_of zm245 (e := (98, 3, .getfield 50, [9, 16])) rfl) (hl.lt (a := 121) (by decide)) (hl.T (a := 121) (p := (9, 45)) 43 rfl rfl) (by decide) (hl.R 36 rfl)) ?_
                  refine Q.run zm245 1 (i' := 40) (ls' := [some (.ref 121), some (.int x1), some (.int x2)]) (st' := [.int x1, .ref 135]) rfl ?_
                  obtain ⟨hc16, h⟩ := ite_so h
                  refine Q.map (A.ia (gI_of zm245 (e := (102, 1, .iaload, [])) rfl) (hl.lt (a := 135) (by decide)) (hl.T (a := 135) (p := (100, 1152)) 57 rfl rfl) hc16) ?_
                  cases h
                  exact Q.ret (A.ri zm245 (show zM245.2.2.2.2.2[41]? = some (103, 1, .ireturn, []) from rfl) rfl rfl) hl
                · rw [if_neg hc15] at h
                  refine Q.map (A.ts (gI_of zm245 (e := (1, 47, .tableswitch 103 0 7 #[47, 54, 61, 68, 75, 82, 89, 96], [42, 2, 7, 12, 17, 22, 27, 32, 37])) rfl) (t := 42) (by have := (show x2.toInt ≠ 0 ∧ x2.toInt ≠ 1 ∧ x2.toInt ≠ 2 ∧ x2.toInt ≠ 3 ∧ x2.toInt ≠ 4 ∧ x2.toInt ≠ 5 ∧ x2.toInt ≠ 6 ∧ x2.toInt ≠ 7 from ⟨i32_ne (n := 0) hc1 (by decide), i32_ne (n := 1) hc3 (by decide), i32_ne (n := 2) hc5 (by decide), i32_ne (n := 3) hc7 (by decide), i32_ne (n := 4) hc9 (by decide), i32_ne (n := 5) hc11 (by decide), i32_ne (n := 6) hc13 (by decide), i32_ne (n := 7) hc15 (by decide)⟩); rw [if_pos]; omega)) ?_
                  refine Q.run zm245 1 (i' := 43) (ls' := [some (.ref 121), some (.int x1), some (.int x2)]) (st' := [.ref 121]) rfl ?_
                  refine Q.map (A.gf (gI_of zm245 (e := (105, 3, .getfield 53, [9, 17])) rfl) (hl.lt (a := 121) (by decide)) (hl.T (a := 121) (p := (9, 45)) 43 rfl rfl) (by decide) (hl.R 37 rfl)) ?_
                  refine Q.run zm245 1 (i' := 45) (ls' := [some (.ref 121), some (.int x1), some (.int x2)]) (st' := [.int x1, .ref 136]) rfl ?_
                  obtain ⟨hc17, h⟩ := ite_so h
                  refine Q.map (A.ia (gI_of zm245 (e := (109, 1, .iaload, [])) rfl) (hl.lt (a := 136) (by decide)) (hl.T (a := 136) (p := (100, 1152)) 58 rfl rfl) hc17) ?_
                  cases h
                  exact Q.ret (A.ri zm245 (show zM245.2.2.2.2.2[46]? = some (110, 1, .ireturn, []) from rfl) rfl rfl) hl
/-! 244 FormulaTreesModel.node(III)I -/
set_option maxRecDepth 100000 in
theorem zm244 : zP[244]? = some zM244 := rfl
def dm244_23 (x1 : Int32) (x2 : Int32) (x3 : Int32) (y1 : Int32) (s : aS) : Option (Int32 × aS) :=
  nx (wI s 121 0 y1) fun s1 =>
  if (sI s1 121 0) ≤ 0 then
    bu (dm245 ((128 * x1) + x2) x3 s1) fun r7 =>
    some (r7, s1)
  else
    some (0, s1)
set_option maxRecDepth 100000 in
theorem dt244_23 {sio : Bool} {tt : Nat} {cc : Nat → Nat → Int32} {d : Nat} (hd : 1 ≤ d) {x1 : Int32} {x2 : Int32} {x3 : Int32} {y1 : Int32} {s : aS} (hl : Ly tt cc s) {o : Int32 × aS} (h : dm244_23  x1 x2 x3 y1 s = some o) : Q 2 sio tt cc d 244 23 [some (.ref 121), some (.int x1), some (.int x2), some (.int x3)] [.int y1, .ref 121] s (.inl (some (.int o.1)), o.2) := by
  unfold dm244_23 at h
  obtain ⟨d, rfl⟩ : ∃ e, d = e + 1 := ⟨d - 1, by omega⟩
  obtain ⟨s1, hs2, h⟩ := nx_so h
  refine Q.pf hs2 rfl (gI_of zm244 (e := (42, 3, .putfield 89, [9, 0, 0])) rfl) (hl.lt (a := 121) (by decide)) (by decide) (hl.T (a := 121) (p := (9, 45)) 43 rfl rfl) (by decide) rfl rfl ?_
  have hl3 : Ly tt cc s1 := by rw [hs2]; exact hl.wId (by decide)
  refine Q.run zm244 1 (i' := 25) (ls' := [some (.ref 121), some (.int x1), some (.int x2), some (.int x3)]) (st' := [.ref 121]) rfl ?_
  refine Q.map (A.gf (gI_of zm244 (e := (46, 3, .getfield 89, [9, 0])) rfl) (hl3.lt (a := 121) (by decide)) (hl3.T (a := 121) (p := (9, 45)) 43 rfl rfl) (by decide) rfl) ?_
  by_cases hc4 : (sI s1 121 0) ≤ 0
  · rw [if_pos hc4] at h
    refine Q.map (A.zT (gI_of zm244 (e := (49, 3, .ifCond .le 7, [29])) rfl) (decide_eq_true hc4)) ?_
    refine Q.run zm244 7 (i' := 36) (ls' := [some (.ref 121), some (.int x1), some (.int x2), some (.int x3)]) (st' := [.int x3, .int ((128 * x1) + x2), .ref 121]) rfl ?_
    obtain ⟨r7, hc6, h⟩ := bu_so h
    have hq5 : Q 2 sio tt cc d 245 0 [some (.ref 121), some (.int ((128 * x1) + x2)), some (.int x3)] [] s1 (.inl (some (.int r7)), s1) := dt245 (by omega) hl3  hc6
    refine Q.callI (gC_vi zm244 (show zM244.2.2.2.2.2[36]? = some (65, 3, .invokevirtual 368, [0, 245, 2, 9]) from rfl) zm245 (hl3.lt (a := 121) (by decide)) (hl3.T (a := 121) (p := (9, 45)) 43 rfl rfl) rfl (show aCr 2 121 [.int x3, .int ((128 * x1) + x2), .ref 121] 3 = some ([some (.ref 121), some (.int ((128 * x1) + x2)), some (.int x3)], []) from rfl)) hq5 ?_
    cases h
    exact Q.ret (A.ri zm244 (show zM244.2.2.2.2.2[37]? = some (68, 1, .ireturn, []) from rfl) rfl rfl) hl3
  · rw [if_neg hc4] at h
    refine Q.map (A.zF (gI_of zm244 (e := (49, 3, .ifCond .le 7, [29])) rfl) (fun q => hc4 (of_decide_eq_true q))) ?_
    refine Q.run zm244 2 (i' := 37) (ls' := [some (.ref 121), some (.int x1), some (.int x2), some (.int x3)]) (st' := [.int 0]) rfl ?_
    cases h
    exact Q.ret (A.ri zm244 (show zM244.2.2.2.2.2[37]? = some (68, 1, .ireturn, []) from rfl) rfl rfl) hl3
def dm244_20 (x1 : Int32) (x2 : Int32) (x3 : Int32) (s : aS) : Option (Int32 × aS) :=
  dm244_23 x1 x2 x3 2 s
set_option maxRecDepth 100000 in
theorem dt244_20 {sio : Bool} {tt : Nat} {cc : Nat → Nat → Int32} {d : Nat} (hd : 1 ≤ d) {x1 : Int32} {x2 : Int32} {x3 : Int32} {s : aS} (hl : Ly tt cc s) {o : Int32 × aS} (h : dm244_20  x1 x2 x3 s = some o) : Q 2 sio tt cc d 244 20 [some (.ref 121), some (.int x1), some (.int x2), some (.int x3)] [.ref 121] s (.inl (some (.int o.1)), o.2) := by
  unfold dm244_20 at h
  obtain ⟨d, rfl⟩ : ∃ e, d = e + 1 := ⟨d - 1, by omega⟩
  refine Q.run zm244 2 (i' := 23) (ls' := [some (.ref 121), some (.int x1), some (.int x2), some (.int x3)]) (st' := [.int 2, .ref 121]) rfl ?_
  exact dt244_23 hd hl  h
def dm244_13 (x1 : Int32) (x2 : Int32) (x3 : Int32) (s : aS) : Option (Int32 × aS) :=
  dm244_23 x1 x2 x3 1 s
set_option maxRecDepth 100000 in
theorem dt244_13 {sio : Bool} {tt : Nat} {cc : Nat → Nat → Int32} {d : Nat} (hd : 1 ≤ d) {x1 : Int32} {x2 : Int32} {x3 : Int32} {s : aS} (hl : Ly tt cc s) {o : Int32 × aS} (h : dm244_13  x1 x2 x3 s = some o) : Q 2 sio tt cc d 244 13 [some (.ref 121), some (.int x1), some (.int x2), some (.int x3)] [.ref 121] s (.inl (some (.int o.1)), o.2) := by
  unfold dm244_13 at h
  obtain ⟨d, rfl⟩ : ∃ e, d = e + 1 := ⟨d - 1, by omega⟩
  refine Q.run zm244 2 (i' := 23) (ls' := [some (.ref 121), some (.int x1), some (.int x2), some (.int x3)]) (st' := [.int 1, .ref 121]) rfl ?_
  exact dt244_23 hd hl  h
def dm244 (x1 : Int32) (x2 : Int32) (x3 : Int32) (s : aS) : Option (Int32 × aS) :=
  bu (dm225 x1 s) fun r3 =>
  if r3 = 0 then
    if x2 < 0 then
      dm244_13 x1 x2 x3 s
    else
      if aB x1 9 then
        if x2 < (sI s 127 (jN x1)) then
          if x3 < 0 then
            dm244_20 x1 x2 x3 s
          else
            if x3 ≤ 8 then
              dm244_23 x1 x2 x3 0 s
            else
              dm244_20 x1 x2 x3 s
        else
          dm244_13 x1 x2 x3 s
      else none
  else
    dm244_13 x1 x2 x3 s
set_option maxRecDepth 100000 in
theorem dt244 {sio : Bool} {tt : Nat} {cc : Nat → Nat → Int32} {d : Nat} (hd : 1 ≤ d) {x1 : Int32} {x2 : Int32} {x3 : Int32} {s : aS} (hl : Ly tt cc s) {o : Int32 × aS} (h : dm244  x1 x2 x3 s = some o) : Q 2 sio tt cc d 244 0 [some (.ref 121), some (.int x1), some (.int x2), some (.int x3)] [] s (.inl (some (.int o.1)), o.2) := by
  unfold dm244 at h
  obtain ⟨d, rfl⟩ : ∃ e, d = e + 1 := ⟨d - 1, by omega⟩
  refine Q.run zm244 3 (i' := 3) (ls' := [some (.ref 121), some (.int x1), some (.int x2), some (.int x3)]) (st' := [.int x1, .ref 121, .ref 121]) rfl ?_
  obtain ⟨r3, hc2, h⟩ := bu_so h
  have hq1 : Q 2 sio tt cc d 225 0 [some (.ref 121), some (.int x1)] [] s (.inl (some (.int r3)), s) := dt225 (by omega) hl  hc2
  refine Q.callI (gC_vi zm244 (show zM244.2.2.2.2.2[3]? = some (3, 3, .invokevirtual 310, [0, 225, 1, 9]) from rfl) zm225 (hl.lt (a := 121) (by decide)) (hl.T (a := 121) (p := (9, 45)) 43 rfl rfl) rfl (show aCr 1 121 [.int x1, .ref 121, .ref 121] 2 = some ([some (.ref 121), some (.int x1)], [.ref 121]) from rfl)) hq1 ?_
  by_cases hc4 : r3 = 0
  · rw [if_pos hc4] at h
    refine Q.map (A.zF (gI_of zm244 (e := (6, 3, .ifCond .ne 17, [13])) rfl) (fun q => of_decide_eq_true q hc4)) ?_
    refine Q.run zm244 1 (i' := 6) (ls' := [some (.ref 121), some (.int x1), some (.int x2), some (.int x3)]) (st' := [.int x2, .ref 121]) rfl ?_
    by_cases hc5 : x2 < 0
    · rw [if_pos hc5] at h
      refine Q.map (A.zT (gI_of zm244 (e := (10, 3, .ifCond .lt 13, [13])) rfl) (decide_eq_true hc5)) ?_
      exact dt244_13 hd hl  h
    · rw [if_neg hc5] at h
      refine Q.map (A.zF (gI_of zm244 (e := (10, 3, .ifCond .lt 13, [13])) rfl) (fun q => hc5 (of_decide_eq_true q))) ?_
      refine Q.run zm244 2 (i' := 9) (ls' := [some (.ref 121), some (.int x1), some (.int x2), some (.int x3)]) (st' := [.ref 121, .int x2, .ref 121]) rfl ?_
      refine Q.map (A.gf (gI_of zm244 (e := (15, 3, .getfield 26, [9, 8])) rfl) (hl.lt (a := 121) (by decide)) (hl.T (a := 121) (p := (9, 45)) 43 rfl rfl) (by decide) (hl.R 28 rfl)) ?_
      refine Q.run zm244 1 (i' := 11) (ls' := [some (.ref 121), some (.int x1), some (.int x2), some (.int x3)]) (st' := [.int x1, .ref 127, .int x2, .ref 121]) rfl ?_
      obtain ⟨hc6, h⟩ := ite_so h
      refine Q.map (A.ia (gI_of zm244 (e := (19, 1, .iaload, [])) rfl) (hl.lt (a := 127) (by decide)) (hl.T (a := 127) (p := (100, 9)) 49 rfl rfl) hc6) ?_
      by_cases hc7 : x2 < (sI s 127 (jN x1))
      · rw [if_pos hc7] at h
        refine Q.map (A.bT (gI_of zm244 (e := (20, 3, .if_icmp .lt 7, [15])) rfl) (decide_eq_true hc7)) ?_
        refine Q.run zm244 1 (i' := 16) (ls' := [some (.ref 121), some (.int x1), some (.int x2), some (.int x3)]) (st' := [.int x3, .ref 121]) rfl ?_
        by_cases hc8 : x3 < 0
        · rw [if_pos hc8] at h
          refine Q.map (A.zT (gI_of zm244 (e := (28, 3, .ifCond .lt 9, [20])) rfl) (decide_eq_true hc8)) ?_
          exact dt244_20 hd hl  h
        · rw [if_neg hc8] at h
          refine Q.map (A.zF (gI_of zm244 (e := (28, 3, .ifCond .lt 9, [20])) rfl) (fun q => hc8 (of_decide_eq_true q))) ?_
          refine Q.run zm244 2 (i' := 19) (ls' := [some (.ref 121), some (.int x1), some (.int x2), some (.int x3)]) (st' := [.int 8, .int x3, .ref 121]) rfl ?_
          by_cases hc9 : x3 ≤ 8
          · rw [if_pos hc9] at h
            refine Q.map (A.bT (gI_of zm244 (e := (34, 3, .if_icmp .le 7, [22])) rfl) (decide_eq_true hc9)) ?_
            refine Q.run zm244 1 (i' := 23) (ls' := [some (.ref 121), some (.int x1), some (.int x2), some (.int x3)]) (st' := [.int 0, .ref 121]) rfl ?_
            exact dt244_23 hd hl  h
          · rw [if_neg hc9] at h
            refine Q.map (A.bF (gI_of zm244 (e := (34, 3, .if_icmp .le 7, [22])) rfl) (fun q => hc9 (of_decide_eq_true q))) ?_
            exact dt244_20 hd hl  h
      · rw [if_neg hc7] at h
        refine Q.map (A.bF (gI_of zm244 (e := (20, 3, .if_icmp .lt 7, [15])) rfl) (fun q => hc7 (of_decide_eq_true q))) ?_
        exact dt244_13 hd hl  h
  · rw [if_neg hc4] at h
    refine Q.map (A.zT (gI_of zm244 (e := (6, 3, .ifCond .ne 17, [13])) rfl) (decide_eq_true hc4)) ?_
    exact dt244_13 hd hl  h
/-! 162 FormulaTrees.letter(III)I -/
set_option maxRecDepth 100000 in
theorem zm162 : zP[162]? = some zM162 := rfl
def dm162_10 (s : aS) : Option (xZ × aS) :=
  some (.inr 2, nw s 82 0)
set_option maxRecDepth 100000 in
theorem dt162_10 {sio : Bool} {tt : Nat} {cc : Nat → Nat → Int32} {d : Nat} (hd : 9 ≤ d) {x1 : Int32} {x2 : Int32} {x3 : Int32} {g4 : Option Value} {s : aS} (hl : Ly tt cc s) {o : xZ × aS} (h : dm162_10  s = some o) : Q 1 sio tt cc d 162 10 [some (.ref 78), some (.int x1), some (.int x2), some (.int x3), g4] [] s o := by
  unfold dm162_10 at h
  obtain ⟨d, rfl⟩ : ∃ e, d = e + 1 := ⟨d - 1, by omega⟩
  cases h
  exact Q.t zm162 (show zM162.2.2.2.2.2[10]? = some (21, 3, .new 100, [202]) from rfl) rfl rfl hl.gL (by omega) hl
def dm162 (x1 : Int32) (x2 : Int32) (x3 : Int32) (s : aS) : Option (xZ × aS) :=
  bu (dm54 x1 s) fun r3 =>
  vN r3 (
    dm162_10 s
  ) fun b5 =>
    if aK s b5 3 then
      bu (dm161 b5 x2 s) fun r9 =>
      if r9 = 0 then
        dm162_10 s
      else
        bu (dm144 b5 x2 x3 s) fun r13 =>
        some (.inl (some (.int r13)), s)
    else none
set_option maxRecDepth 100000 in
theorem dt162 {sio : Bool} {tt : Nat} {cc : Nat → Nat → Int32} {d : Nat} (hd : 9 ≤ d) {x1 : Int32} {x2 : Int32} {x3 : Int32} {s : aS} (hl : Ly tt cc s) {o : xZ × aS} (h : dm162  x1 x2 x3 s = some o) : Q 1 sio tt cc d 162 0 [some (.ref 78), some (.int x1), some (.int x2), some (.int x3), none] [] s o := by
  unfold dm162 at h
  obtain ⟨d, rfl⟩ : ∃ e, d = e + 1 := ⟨d - 1, by omega⟩
  refine Q.run zm162 2 (i' := 2) (ls' := [some (.ref 78), some (.int x1), some (.int x2), some (.int x3), none]) (st' := [.int x1, .ref 78]) rfl ?_
  obtain ⟨r3, hc2, h⟩ := bu_so h
  have hq1 : Q 1 sio tt cc d 54 0 [some (.ref 78), some (.int x1)] [] s (.inl (some r3), s) := dt54 (by omega) hl  hc2
  rcases vN_so h with ⟨hv4, h9⟩ | ⟨b5, hv4, h9⟩
  · clear h
    subst hv4
    have h := h9
    refine Q.callR (gC_vi zm162 (show zM162.2.2.2.2.2[2]? = some (2, 3, .invokevirtual 114, [0, 54, 1, 0]) from rfl) zm54 (hl.lt (a := 78) (by decide)) (hl.T (a := 78) (p := (0, 7)) 0 rfl rfl) rfl (show aCr 1 78 [.int x1, .ref 78] 2 = some ([some (.ref 78), some (.int x1)], []) from rfl)) hq1 ?_
    refine Q.run zm162 3 (i' := 10) (ls' := [some (.ref 78), some (.int x1), some (.int x2), some (.int x3), some (.null)]) (st' := []) rfl ?_
    exact dt162_10 hd hl  h
  · clear h
    subst hv4
    have h := h9
    obtain ⟨hr6, h⟩ := ite_so h
    refine Q.callR (gC_vi zm162 (show zM162.2.2.2.2.2[2]? = some (2, 3, .invokevirtual 114, [0, 54, 1, 0]) from rfl) zm54 (hl.lt (a := 78) (by decide)) (hl.T (a := 78) (p := (0, 7)) 0 rfl rfl) rfl (show aCr 1 78 [.int x1, .ref 78] 2 = some ([some (.ref 78), some (.int x1)], []) from rfl)) hq1 ?_
    refine Q.run zm162 5 (i' := 8) (ls' := [some (.ref 78), some (.int x1), some (.int x2), some (.int x3), some (.ref b5)]) (st' := [.int x2, .ref b5]) rfl ?_
    obtain ⟨r9, hc8, h⟩ := bu_so h
    have hq7 : Q 1 sio tt cc d 161 0 [some (.ref b5), some (.int x2)] [] s (.inl (some (.int r9)), s) := dt161 (by omega) hl hr6 hc8
    refine Q.callI (gC_vi zm162 (show zM162.2.2.2.2.2[8]? = some (15, 3, .invokevirtual 166, [0, 161, 1, 3]) from rfl) zm161 hr6.1 (hl.tr hr6).1 rfl (show aCr 1 b5 [.int x2, .ref b5] 2 = some ([some (.ref b5), some (.int x2)], []) from rfl)) hq7 ?_
    by_cases hc10 : r9 = 0
    · rw [if_pos hc10] at h
      refine Q.map (A.zF (gI_of zm162 (e := (18, 3, .ifCond .ne 13, [15])) rfl) (fun q => of_decide_eq_true q hc10)) ?_
      exact dt162_10 hd hl  h
    · rw [if_neg hc10] at h
      refine Q.map (A.zT (gI_of zm162 (e := (18, 3, .ifCond .ne 13, [15])) rfl) (decide_eq_true hc10)) ?_
      refine Q.run zm162 3 (i' := 18) (ls' := [some (.ref 78), some (.int x1), some (.int x2), some (.int x3), some (.ref b5)]) (st' := [.int x3, .int x2, .ref b5]) rfl ?_
      obtain ⟨r13, hc12, h⟩ := bu_so h
      have hq11 : Q 1 sio tt cc d 144 0 [some (.ref b5), some (.int x2), some (.int x3), none] [] s (.inl (some (.int r13)), s) := dt144 (by omega) hl hr6 hc12
      refine Q.callI (gC_vi zm162 (show zM162.2.2.2.2.2[18]? = some (35, 3, .invokevirtual 174, [0, 144, 2, 3]) from rfl) zm144 hr6.1 (hl.tr hr6).1 rfl (show aCr 2 b5 [.int x3, .int x2, .ref b5] 4 = some ([some (.ref b5), some (.int x2), some (.int x3), none], []) from rfl)) hq11 ?_
      cases h
      exact Q.ret (A.ri zm162 (show zM162.2.2.2.2.2[19]? = some (38, 1, .ireturn, []) from rfl) rfl rfl) hl
/-! 12 FormulaTreesLaw.letter(LFormulaTrees;III[J)I -/
set_option maxRecDepth 100000 in
theorem zm12 : zP[12]? = some zM12 := rfl
def dm12 (x1 : Int32) (x2 : Int32) (x3 : Int32) (s : aS) : Option (Int32 × aS) :=
  bv (dm162 x1 x2 x3 s) fun z4 s3 =>
  zN z4 (fun v5 =>
    vI v5 fun r7 =>
    if aB 0 1 then
      nx (wJ s3 148 (jN 0) r7.toInt64) fun s10 =>
      some (0, s10)
    else none
  ) fun e6 =>
    if e6 = 2 then
      some (1, s3)
    else
      none
set_option maxRecDepth 100000 in
theorem dt12 {sio : Bool} {tt : Nat} {cc : Nat → Nat → Int32} {d : Nat} (hd : 10 ≤ d) {x1 : Int32} {x2 : Int32} {x3 : Int32} {s : aS} (hl : Ly tt cc s) {o : Int32 × aS} (h : dm12  x1 x2 x3 s = some o) : Q 1 sio tt cc d 12 0 [some (.ref 78), some (.int x1), some (.int x2), some (.int x3), some (.ref 148), none] [] s (.inl (some (.int o.1)), o.2) := by
  unfold dm12 at h
  obtain ⟨d, rfl⟩ : ∃ e, d = e + 1 := ⟨d - 1, by omega⟩
  refine Q.run zm12 6 (i' := 6) (ls' := [some (.ref 78), some (.int x1), some (.int x2), some (.int x3), some (.ref 148), none]) (st' := [.int x3, .int x2, .int x1, .ref 78, .int 0, .ref 148]) rfl ?_
  obtain ⟨z4, s3, hc2, h⟩ := bv_so h
  have hq1 : Q 1 sio tt cc d 162 0 [some (.ref 78), some (.int x1), some (.int x2), some (.int x3), none] [] s (z4, s3) := dt162 (by omega) hl  hc2
  rcases zN_so h with ⟨v5, hz13, h8⟩ | ⟨e6, hz13, h8⟩
  · clear h
    subst hz13
    have h := h8
    obtain ⟨r7, hv8, h9⟩ := vI_so h
    clear h
    subst hv8
    have h := h9
    refine Q.callI (gC_vi zm12 (show zM12.2.2.2.2.2[6]? = some (7, 3, .invokevirtual 55, [0, 162, 3, 0]) from rfl) zm162 (hl.lt (a := 78) (by decide)) (hl.T (a := 78) (p := (0, 7)) 0 rfl rfl) rfl (show aCr 3 78 [.int x3, .int x2, .int x1, .ref 78, .int 0, .ref 148] 5 = some ([some (.ref 78), some (.int x1), some (.int x2), some (.int x3), none], [.int 0, .ref 148]) from rfl)) hq1 ?_
    refine Q.run zm12 1 (i' := 8) (ls' := [some (.ref 78), some (.int x1), some (.int x2), some (.int x3), some (.ref 148), none]) (st' := [.long r7.toInt64, .int 0, .ref 148]) rfl ?_
    obtain ⟨hc9, h⟩ := ite_so h
    obtain ⟨s10, hs11, h⟩ := nx_so h
    refine Q.lS hs11 rfl (gI_of zm12 (e := (11, 1, .lastore, [])) rfl) (hq1.1.lt (a := 148) (by decide)) (by decide) (hq1.1.T (a := 148) (p := (104, 1)) 70 rfl rfl) hc9 ?_
    have hl12 : Ly tt cc s10 := by rw [hs11]; exact hq1.1.wJd
    refine Q.run zm12 2 (i' := 14) (ls' := [some (.ref 78), some (.int x1), some (.int x2), some (.int x3), some (.ref 148), none]) (st' := [.int 0]) rfl ?_
    cases h
    exact Q.ret (A.ri zm12 (show zM12.2.2.2.2.2[14]? = some (20, 1, .ireturn, []) from rfl) rfl rfl) hl12
  · clear h
    subst hz13
    have h := h8
    by_cases hc14 : e6 = 2
    · rw [if_pos hc14] at h
      subst hc14
      refine Q.hc (gC_vi zm12 (show zM12.2.2.2.2.2[6]? = some (7, 3, .invokevirtual 55, [0, 162, 3, 0]) from rfl) zm162 (hl.lt (a := 78) (by decide)) (hl.T (a := 78) (p := (0, 7)) 0 rfl rfl) rfl (show aCr 3 78 [.int x3, .int x2, .int x1, .ref 78, .int 0, .ref 148] 5 = some ([some (.ref 78), some (.int x1), some (.int x2), some (.int x3), none], [.int 0, .ref 148]) from rfl)) hq1 (t := 10) rfl ?_
      refine Q.run zm12 2 (i' := 12) (ls' := [some (.ref 78), some (.int x1), some (.int x2), some (.int x3), some (.ref 148), some (.ref (sL s3 - 1))]) (st' := [.int 1]) rfl ?_
      cases h
      exact Q.ret (A.ri zm12 (show zM12.2.2.2.2.2[12]? = some (18, 1, .ireturn, []) from rfl) rfl rfl) hq1.1
    · rw [if_neg hc14] at h
      cases h
/-! 247 FormulaTreesModel.letterOf(III)I -/
set_option maxRecDepth 100000 in
theorem zm247 : zP[247]? = some zM247 := rfl
def dm247_83 (k51 : Int32 → Int32 → Int32 → Int32 → Int32 → aS → Option (Int32)) (x2 : Int32) (x3 : Int32) (x5 : Int32) (x6 : Int32) (y0 : Int32) (s : aS) : Option (Int32) :=
  k51 x2 x3 x5 x6 (y0 + 1) s
set_option maxRecDepth 100000 in
theorem dt247_83 {sio : Bool} {tt : Nat} {cc : Nat → Nat → Int32} {d : Nat} (hd : 0 ≤ d) {k51 : Int32 → Int32 → Int32 → Int32 → Int32 → aS → Option (Int32)} (hk51 : ∀ {x2 : Int32} {x3 : Int32} {x5 : Int32} {x6 : Int32} {x7 : Int32} {x1 : Int32} {x4 : Int32} {s : aS}, Ly tt cc s → ∀ {o : Int32}, k51 x2 x3 x5 x6 x7 s = some o → Q 2 sio tt cc d 247 51 [some (.ref 121), some (.int x1), some (.int x2), some (.int x3), some (.int x4), some (.int x5), some (.int x6), some (.int x7)] [] s (.inl (some (.int o)), s)) {x2 : Int32} {x3 : Int32} {x5 : Int32} {x6 : Int32} {y0 : Int32} {x1 : Int32} {x4 : Int32} {x7 : Int32} {s : aS} (hl : Ly tt cc s) {o : Int32} (h : dm247_83 k51 x2 x3 x5 x6 y0 s = some o) : Q 2 sio tt cc d 247 83 [some (.ref 121), some (.int x1), some (.int x2), some (.int x3), some (.int x4), some (.int x5), some (.int x6), some (.int x7)] [.int y0] s (.inl (some (.int o)), s) := by
  unfold dm247_83 at h
  refine Q.run zm247 3 (i' := 51) (ls' := [some (.ref 121), some (.int x1), some (.int x2), some (.int x3), some (.int x4), some (.int x5), some (.int x6), some (.int (y0 + 1))]) (st' := []) rfl ?_
  exact hk51 hl  h
def dm247_51 : Nat → Int32 → Int32 → Int32 → Int32 → Int32 → aS → Option (Int32)
  | 0, _, _, _, _, _, _ => none
  | n + 1, x2, x3, x5, x6, x7, s =>
    if aB x2 1152 then
      if ((sI s 138 (jN x2)) - 1) ≤ x7 then
        some (-1)
      else
        if x6 = x3 then
          if aB (x5 + x7) 2304 then
            some (sI s 139 (jN (x5 + x7)))
          else none
        else
          if aB (x5 + x7) 2304 then
            if (sI s 139 (jN (x5 + x7))) = 34 then
              dm247_83 (dm247_51 n) x2 x3 x5 (x6 + 1) (x7 + 1) s
            else
              dm247_83 (dm247_51 n) x2 x3 x5 (x6 + 1) x7 s
          else none
    else none
set_option maxRecDepth 100000 in
theorem dt247_51 {sio : Bool} {tt : Nat} {cc : Nat → Nat → Int32} {d : Nat} (hd : 0 ≤ d) : ∀ (n : Nat) {x2 : Int32} {x3 : Int32} {x5 : Int32} {x6 : Int32} {x7 : Int32} {x1 : Int32} {x4 : Int32} {s : aS} (_ : Ly tt cc s) {o : Int32} (_ : dm247_51  n x2 x3 x5 x6 x7 s = some o), Q 2 sio tt cc d 247 51 [some (.ref 121), some (.int x1), some (.int x2), some (.int x3), some (.int x4), some (.int x5), some (.int x6), some (.int x7)] [] s (.inl (some (.int o)), s) := by
  intro n
  induction n with
  | zero => intro x2 x3 x5 x6 x7 x1 x4 s hl o h; rw [dm247_51] at h; cases h
  | succ n ih =>
    intro x2 x3 x5 x6 x7 x1 x4 s hl o h
    rw [dm247_51] at h
    refine Q.run zm247 2 (i' := 53) (ls' := [some (.ref 121), some (.int x1), some (.int x2), some (.int x3), some (.int x4), some (.int x5), some (.int x6), some (.int x7)]) (st' := [.ref 121, .int x7]) rfl ?_
    refine Q.map (A.gf (gI_of zm247 (e := (92, 3, .getfield 59, [9, 19])) rfl) (hl.lt (a := 121) (by decide)) (hl.T (a := 121) (p := (9, 45)) 43 rfl rfl) (by decide) (hl.R 39 rfl)) ?_
    refine Q.run zm247 1 (i' := 55) (ls' := [some (.ref 121), some (.int x1), some (.int x2), some (.int x3), some (.int x4), some (.int x5), some (.int x6), some (.int x7)]) (st' := [.int x2, .ref 138, .int x7]) rfl ?_
    obtain ⟨hc1, h⟩ := ite_so h
    refine Q.map (A.ia (gI_of zm247 (e := (96, 1, .iaload, [])) rfl) (hl.lt (a := 138) (by decide)) (hl.T (a := 138) (p := (100, 1152)) 60 rfl rfl) hc1) ?_
    refine Q.run zm247 2 (i' := 58) (ls' := [some (.ref 121), some (.int x1), some (.int x2), some (.int x3), some (.int x4), some (.int x5), some (.int x6), some (.int x7)]) (st' := [.int ((sI s 138 (jN x2)) - 1), .int x7]) rfl ?_
    by_cases hc2 : ((sI s 138 (jN x2)) - 1) ≤ x7
    · rw [if_pos hc2] at h
      refine Q.map (A.bT (gI_of zm247 (e := (99, 3, .if_icmp .ge 55, [86])) rfl) (decide_eq_true hc2)) ?_
      refine Q.run zm247 1 (i' := 87) (ls' := [some (.ref 121), some (.int x1), some (.int x2), some (.int x3), some (.int x4), some (.int x5), some (.int x6), some (.int x7)]) (st' := [.int (-1)]) rfl ?_
      cases h
      exact Q.ret (A.ri zm247 (show zM247.2.2.2.2.2[87]? = some (155, 1, .ireturn, []) from rfl) rfl rfl) hl
    · rw [if_neg hc2] at h
      refine Q.map (A.bF (gI_of zm247 (e := (99, 3, .if_icmp .ge 55, [86])) rfl) (fun q => hc2 (of_decide_eq_true q))) ?_
      refine Q.run zm247 2 (i' := 61) (ls' := [some (.ref 121), some (.int x1), some (.int x2), some (.int x3), some (.int x4), some (.int x5), some (.int x6), some (.int x7)]) (st' := [.int x3, .int x6]) rfl ?_
      by_cases hc3 : x6 = x3
      · rw [if_pos hc3] at h
        refine Q.map (A.bF (gI_of zm247 (e := (105, 3, .if_icmp .ne 14, [69])) rfl) (fun q => of_decide_eq_true q hc3)) ?_
        refine Q.run zm247 1 (i' := 63) (ls' := [some (.ref 121), some (.int x1), some (.int x2), some (.int x3), some (.int x4), some (.int x5), some (.int x6), some (.int x7)]) (st' := [.ref 121]) rfl ?_
        refine Q.map (A.gf (gI_of zm247 (e := (109, 3, .getfield 62, [9, 20])) rfl) (hl.lt (a := 121) (by decide)) (hl.T (a := 121) (p := (9, 45)) 43 rfl rfl) (by decide) (hl.R 40 rfl)) ?_
        refine Q.run zm247 3 (i' := 67) (ls' := [some (.ref 121), some (.int x1), some (.int x2), some (.int x3), some (.int x4), some (.int x5), some (.int x6), some (.int x7)]) (st' := [.int (x5 + x7), .ref 139]) rfl ?_
        obtain ⟨hc4, h⟩ := ite_so h
        refine Q.map (A.ia (gI_of zm247 (e := (117, 1, .iaload, [])) rfl) (hl.lt (a := 139) (by decide)) (hl.T (a := 139) (p := (100, 2304)) 61 rfl rfl) hc4) ?_
        cases h
        exact Q.ret (A.ri zm247 (show zM247.2.2.2.2.2[68]? = some (118, 1, .ireturn, []) from rfl) rfl rfl) hl
      · rw [if_neg hc3] at h
        refine Q.map (A.bT (gI_of zm247 (e := (105, 3, .if_icmp .ne 14, [69])) rfl) (decide_eq_true hc3)) ?_
        refine Q.run zm247 2 (i' := 71) (ls' := [some (.ref 121), some (.int x1), some (.int x2), some (.int x3), some (.int x4), some (.int x5), some (.int (x6 + 1)), some (.int x7)]) (st' := [.ref 121]) rfl ?_
        refine Q.map (A.gf (gI_of zm247 (e := (123, 3, .getfield 62, [9, 20])) rfl) (hl.lt (a := 121) (by decide)) (hl.T (a := 121) (p := (9, 45)) 43 rfl rfl) (by decide) (hl.R 40 rfl)) ?_
        refine Q.run zm247 3 (i' := 75) (ls' := [some (.ref 121), some (.int x1), some (.int x2), some (.int x3), some (.int x4), some (.int x5), some (.int (x6 + 1)), some (.int x7)]) (st' := [.int (x5 + x7), .ref 139]) rfl ?_
        obtain ⟨hc5, h⟩ := ite_so h
        refine Q.map (A.ia (gI_of zm247 (e := (131, 1, .iaload, [])) rfl) (hl.lt (a := 139) (by decide)) (hl.T (a := 139) (p := (100, 2304)) 61 rfl rfl) hc5) ?_
        refine Q.run zm247 1 (i' := 77) (ls' := [some (.ref 121), some (.int x1), some (.int x2), some (.int x3), some (.int x4), some (.int x5), some (.int (x6 + 1)), some (.int x7)]) (st' := [.int 34, .int (sI s 139 (jN (x5 + x7)))]) rfl ?_
        by_cases hc6 : (sI s 139 (jN (x5 + x7))) = 34
        · rw [if_pos hc6] at h
          refine Q.map (A.bF (gI_of zm247 (e := (134, 3, .if_icmp .ne 10, [82])) rfl) (fun q => of_decide_eq_true q hc6)) ?_
          refine Q.run zm247 4 (i' := 83) (ls' := [some (.ref 121), some (.int x1), some (.int x2), some (.int x3), some (.int x4), some (.int x5), some (.int (x6 + 1)), some (.int x7)]) (st' := [.int (x7 + 1)]) rfl ?_
          exact dt247_83 hd ih hl  h
        · rw [if_neg hc6] at h
          refine Q.map (A.bT (gI_of zm247 (e := (134, 3, .if_icmp .ne 10, [82])) rfl) (decide_eq_true hc6)) ?_
          refine Q.run zm247 1 (i' := 83) (ls' := [some (.ref 121), some (.int x1), some (.int x2), some (.int x3), some (.int x4), some (.int x5), some (.int (x6 + 1)), some (.int x7)]) (st' := [.int x7]) rfl ?_
          exact dt247_83 hd ih hl  h
def dm247_20 (x1 : Int32) (x2 : Int32) (x3 : Int32) (x4 : Int32) (s : aS) : Option (Int32) :=
  if aB x2 1152 then
    if x4 = 1 then
      dm247_51 5000 x2 x3 ((256 * x1) + (sI s 137 (jN x2))) 0 1 s
    else
      if aB x2 1152 then
        if (sI s 138 (jN x2)) ≤ x3 then
          some (-1)
        else
          if aB (((256 * x1) + (sI s 137 (jN x2))) + x3) 2304 then
            some (sI s 139 (jN (((256 * x1) + (sI s 137 (jN x2))) + x3)))
          else none
      else none
  else none
set_option maxRecDepth 100000 in
theorem dt247_20 {sio : Bool} {tt : Nat} {cc : Nat → Nat → Int32} {d : Nat} (hd : 0 ≤ d) {x1 : Int32} {x2 : Int32} {x3 : Int32} {x4 : Int32} {s : aS} (hl : Ly tt cc s) {o : Int32} (h : dm247_20  x1 x2 x3 x4 s = some o) : Q 2 sio tt cc d 247 20 [some (.ref 121), some (.int x1), some (.int x2), some (.int x3), some (.int x4), none, none, none] [] s (.inl (some (.int o)), s) := by
  unfold dm247_20 at h
  refine Q.run zm247 4 (i' := 24) (ls' := [some (.ref 121), some (.int x1), some (.int x2), some (.int x3), some (.int x4), none, none, none]) (st' := [.ref 121, .int (256 * x1)]) rfl ?_
  refine Q.map (A.gf (gI_of zm247 (e := (45, 3, .getfield 56, [9, 18])) rfl) (hl.lt (a := 121) (by decide)) (hl.T (a := 121) (p := (9, 45)) 43 rfl rfl) (by decide) (hl.R 38 rfl)) ?_
  refine Q.run zm247 1 (i' := 26) (ls' := [some (.ref 121), some (.int x1), some (.int x2), some (.int x3), some (.int x4), none, none, none]) (st' := [.int x2, .ref 137, .int (256 * x1)]) rfl ?_
  obtain ⟨hc1, h⟩ := ite_so h
  refine Q.map (A.ia (gI_of zm247 (e := (49, 1, .iaload, [])) rfl) (hl.lt (a := 137) (by decide)) (hl.T (a := 137) (p := (100, 1152)) 59 rfl rfl) hc1) ?_
  refine Q.run zm247 4 (i' := 31) (ls' := [some (.ref 121), some (.int x1), some (.int x2), some (.int x3), some (.int x4), some (.int ((256 * x1) + (sI s 137 (jN x2)))), none, none]) (st' := [.int 1, .int x4]) rfl ?_
  by_cases hc2 : x4 = 1
  · rw [if_pos hc2] at h
    refine Q.map (A.bT (gI_of zm247 (e := (56, 3, .if_icmp .eq 27, [47])) rfl) (decide_eq_true hc2)) ?_
    refine Q.run zm247 4 (i' := 51) (ls' := [some (.ref 121), some (.int x1), some (.int x2), some (.int x3), some (.int x4), some (.int ((256 * x1) + (sI s 137 (jN x2)))), some (.int 0), some (.int 1)]) (st' := []) rfl ?_
    exact dt247_51 hd _ hl  h
  · rw [if_neg hc2] at h
    refine Q.map (A.bF (gI_of zm247 (e := (56, 3, .if_icmp .eq 27, [47])) rfl) (fun q => hc2 (of_decide_eq_true q))) ?_
    refine Q.run zm247 2 (i' := 34) (ls' := [some (.ref 121), some (.int x1), some (.int x2), some (.int x3), some (.int x4), some (.int ((256 * x1) + (sI s 137 (jN x2)))), none, none]) (st' := [.ref 121, .int x3]) rfl ?_
    refine Q.map (A.gf (gI_of zm247 (e := (61, 3, .getfield 59, [9, 19])) rfl) (hl.lt (a := 121) (by decide)) (hl.T (a := 121) (p := (9, 45)) 43 rfl rfl) (by decide) (hl.R 39 rfl)) ?_
    refine Q.run zm247 1 (i' := 36) (ls' := [some (.ref 121), some (.int x1), some (.int x2), some (.int x3), some (.int x4), some (.int ((256 * x1) + (sI s 137 (jN x2)))), none, none]) (st' := [.int x2, .ref 138, .int x3]) rfl ?_
    obtain ⟨hc3, h⟩ := ite_so h
    refine Q.map (A.ia (gI_of zm247 (e := (65, 1, .iaload, [])) rfl) (hl.lt (a := 138) (by decide)) (hl.T (a := 138) (p := (100, 1152)) 60 rfl rfl) hc3) ?_
    by_cases hc4 : (sI s 138 (jN x2)) ≤ x3
    · rw [if_pos hc4] at h
      refine Q.map (A.bT (gI_of zm247 (e := (66, 3, .if_icmp .ge 15, [45])) rfl) (decide_eq_true hc4)) ?_
      refine Q.run zm247 1 (i' := 46) (ls' := [some (.ref 121), some (.int x1), some (.int x2), some (.int x3), some (.int x4), some (.int ((256 * x1) + (sI s 137 (jN x2)))), none, none]) (st' := [.int (-1)]) rfl ?_
      cases h
      exact Q.ret (A.ri zm247 (show zM247.2.2.2.2.2[46]? = some (82, 1, .ireturn, []) from rfl) rfl rfl) hl
    · rw [if_neg hc4] at h
      refine Q.map (A.bF (gI_of zm247 (e := (66, 3, .if_icmp .ge 15, [45])) rfl) (fun q => hc4 (of_decide_eq_true q))) ?_
      refine Q.run zm247 1 (i' := 39) (ls' := [some (.ref 121), some (.int x1), some (.int x2), some (.int x3), some (.int x4), some (.int ((256 * x1) + (sI s 137 (jN x2)))), none, none]) (st' := [.ref 121]) rfl ?_
      refine Q.map (A.gf (gI_of zm247 (e := (70, 3, .getfield 62, [9, 20])) rfl) (hl.lt (a := 121) (by decide)) (hl.T (a := 121) (p := (9, 45)) 43 rfl rfl) (by decide) (hl.R 40 rfl)) ?_
      refine Q.run zm247 3 (i' := 43) (ls' := [some (.ref 121), some (.int x1), some (.int x2), some (.int x3), some (.int x4), some (.int ((256 * x1) + (sI s 137 (jN x2)))), none, none]) (st' := [.int (((256 * x1) + (sI s 137 (jN x2))) + x3), .ref 139]) rfl ?_
      obtain ⟨hc5, h⟩ := ite_so h
      refine Q.map (A.ia (gI_of zm247 (e := (77, 1, .iaload, [])) rfl) (hl.lt (a := 139) (by decide)) (hl.T (a := 139) (p := (100, 2304)) 61 rfl rfl) hc5) ?_
      refine Q.run zm247 1 (i' := 46) (ls' := [some (.ref 121), some (.int x1), some (.int x2), some (.int x3), some (.int x4), some (.int ((256 * x1) + (sI s 137 (jN x2)))), none, none]) (st' := [.int (sI s 139 (jN (((256 * x1) + (sI s 137 (jN x2))) + x3)))]) rfl ?_
      cases h
      exact Q.ret (A.ri zm247 (show zM247.2.2.2.2.2[46]? = some (82, 1, .ireturn, []) from rfl) rfl rfl) hl
def dm247 (x1 : Int32) (x2 : Int32) (x3 : Int32) (s : aS) : Option (Int32) :=
  if aB x2 1152 then
    if x3 < 0 then
      some (-1)
    else
      if (sI s 128 (jN x2)) = 0 then
        dm247_20 x1 x2 x3 (sI s 128 (jN x2)) s
      else
        if (sI s 128 (jN x2)) = 1 then
          dm247_20 x1 x2 x3 (sI s 128 (jN x2)) s
        else
          if (sI s 128 (jN x2)) = 6 then
            dm247_20 x1 x2 x3 (sI s 128 (jN x2)) s
          else
            if (sI s 128 (jN x2)) = 7 then
              dm247_20 x1 x2 x3 (sI s 128 (jN x2)) s
            else
              some (-1)
  else none
set_option maxRecDepth 100000 in
theorem dt247 {sio : Bool} {tt : Nat} {cc : Nat → Nat → Int32} {d : Nat} (hd : 0 ≤ d) {x1 : Int32} {x2 : Int32} {x3 : Int32} {s : aS} (hl : Ly tt cc s) {o : Int32} (h : dm247  x1 x2 x3 s = some o) : Q 2 sio tt cc d 247 0 [some (.ref 121), some (.int x1), some (.int x2), some (.int x3), none, none, none, none] [] s (.inl (some (.int o)), s) := by
  unfold dm247 at h
  refine Q.run zm247 1 (i' := 1) (ls' := [some (.ref 121), some (.int x1), some (.int x2), some (.int x3), none, none, none, none]) (st' := [.ref 121]) rfl ?_
  refine Q.map (A.gf (gI_of zm247 (e := (1, 3, .getfield 29, [9, 9])) rfl) (hl.lt (a := 121) (by decide)) (hl.T (a := 121) (p := (9, 45)) 43 rfl rfl) (by decide) (hl.R 29 rfl)) ?_
  refine Q.run zm247 1 (i' := 3) (ls' := [some (.ref 121), some (.int x1), some (.int x2), some (.int x3), none, none, none, none]) (st' := [.int x2, .ref 128]) rfl ?_
  obtain ⟨hc1, h⟩ := ite_so h
  refine Q.map (A.ia (gI_of zm247 (e := (5, 1, .iaload, [])) rfl) (hl.lt (a := 128) (by decide)) (hl.T (a := 128) (p := (100, 1152)) 50 rfl rfl) hc1) ?_
  refine Q.run zm247 2 (i' := 6) (ls' := [some (.ref 121), some (.int x1), some (.int x2), some (.int x3), some (.int (sI s 128 (jN x2))), none, none, none]) (st' := [.int x3]) rfl ?_
  by_cases hc2 : x3 < 0
  · rw [if_pos hc2] at h
    refine Q.map (A.zT (gI_of zm247 (e := (9, 3, .ifCond .lt 28, [18])) rfl) (decide_eq_true hc2)) ?_
    refine Q.run zm247 1 (i' := 19) (ls' := [some (.ref 121), some (.int x1), some (.int x2), some (.int x3), some (.int (sI s 128 (jN x2))), none, none, none]) (st' := [.int (-1)]) rfl ?_
    cases h
    exact Q.ret (A.ri zm247 (show zM247.2.2.2.2.2[19]? = some (38, 1, .ireturn, []) from rfl) rfl rfl) hl
  · rw [if_neg hc2] at h
    refine Q.map (A.zF (gI_of zm247 (e := (9, 3, .ifCond .lt 28, [18])) rfl) (fun q => hc2 (of_decide_eq_true q))) ?_
    refine Q.run zm247 1 (i' := 8) (ls' := [some (.ref 121), some (.int x1), some (.int x2), some (.int x3), some (.int (sI s 128 (jN x2))), none, none, none]) (st' := [.int (sI s 128 (jN x2))]) rfl ?_
    by_cases hc3 : (sI s 128 (jN x2)) = 0
    · rw [if_pos hc3] at h
      refine Q.map (A.zT (gI_of zm247 (e := (14, 3, .ifCond .eq 25, [20])) rfl) (decide_eq_true hc3)) ?_
      exact dt247_20 hd hl  h
    · rw [if_neg hc3] at h
      refine Q.map (A.zF (gI_of zm247 (e := (14, 3, .ifCond .eq 25, [20])) rfl) (fun q => hc3 (of_decide_eq_true q))) ?_
      refine Q.run zm247 2 (i' := 11) (ls' := [some (.ref 121), some (.int x1), some (.int x2), some (.int x3), some (.int (sI s 128 (jN x2))), none, none, none]) (st' := [.int 1, .int (sI s 128 (jN x2))]) rfl ?_
      by_cases hc4 : (sI s 128 (jN x2)) = 1
      · rw [if_pos hc4] at h
        refine Q.map (A.bT (gI_of zm247 (e := (20, 3, .if_icmp .eq 19, [20])) rfl) (decide_eq_true hc4)) ?_
        exact dt247_20 hd hl  h
      · rw [if_neg hc4] at h
        refine Q.map (A.bF (gI_of zm247 (e := (20, 3, .if_icmp .eq 19, [20])) rfl) (fun q => hc4 (of_decide_eq_true q))) ?_
        refine Q.run zm247 2 (i' := 14) (ls' := [some (.ref 121), some (.int x1), some (.int x2), some (.int x3), some (.int (sI s 128 (jN x2))), none, none, none]) (st' := [.int 6, .int (sI s 128 (jN x2))]) rfl ?_
        by_cases hc5 : (sI s 128 (jN x2)) = 6
        · rw [if_pos hc5] at h
          refine Q.map (A.bT (gI_of zm247 (e := (27, 3, .if_icmp .eq 12, [20])) rfl) (decide_eq_true hc5)) ?_
          exact dt247_20 hd hl  h
        · rw [if_neg hc5] at h
          refine Q.map (A.bF (gI_of zm247 (e := (27, 3, .if_icmp .eq 12, [20])) rfl) (fun q => hc5 (of_decide_eq_true q))) ?_
          refine Q.run zm247 2 (i' := 17) (ls' := [some (.ref 121), some (.int x1), some (.int x2), some (.int x3), some (.int (sI s 128 (jN x2))), none, none, none]) (st' := [.int 7, .int (sI s 128 (jN x2))]) rfl ?_
          by_cases hc6 : (sI s 128 (jN x2)) = 7
          · rw [if_pos hc6] at h
            refine Q.map (A.bT (gI_of zm247 (e := (34, 3, .if_icmp .eq 5, [20])) rfl) (decide_eq_true hc6)) ?_
            exact dt247_20 hd hl  h
          · rw [if_neg hc6] at h
            refine Q.map (A.bF (gI_of zm247 (e := (34, 3, .if_icmp .eq 5, [20])) rfl) (fun q => hc6 (of_decide_eq_true q))) ?_
            refine Q.run zm247 1 (i' := 19) (ls' := [some (.ref 121), some (.int x1), some (.int x2), some (.int x3), some (.int (sI s 128 (jN x2))), none, none, none]) (st' := [.int (-1)]) rfl ?_
            cases h
            exact Q.ret (A.ri zm247 (show zM247.2.2.2.2.2[19]? = some (38, 1, .ireturn, []) from rfl) rfl rfl) hl
