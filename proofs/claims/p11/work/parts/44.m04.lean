/-! 174 FormulaTreesModel.sheet()I -/
set_option maxRecDepth 100000 in
theorem zm174 : zP[174]? = some zM174 := rfl
def dm174_21 (y1 : Int32) (s : aS) : Option (Int32 × aS) :=
  nx (wI s 121 0 y1) fun s1 =>
  if (sI s1 121 0) ≤ 0 then
    bu (dm179 (sI s1 121 3) s1) fun s7 =>
    nx (wI s7 121 3 ((sI s7 121 3) + 1)) fun s8 =>
    some ((sI s8 121 3) - 1, s8)
  else
    some (0, s1)
set_option maxRecDepth 100000 in
theorem dt174_21 {sio : Bool} {tt : Nat} {cc : Nat → Nat → Int32} {d : Nat} (hd : 2 ≤ d) {y1 : Int32} {s : aS} (hl : Ly tt cc s) {o : Int32 × aS} (h : dm174_21  y1 s = some o) : Q 2 sio tt cc d 174 21 [some (.ref 121)] [.int y1, .ref 121] s (.inl (some (.int o.1)), o.2) := by
  unfold dm174_21 at h
  obtain ⟨d, rfl⟩ : ∃ e, d = e + 1 := ⟨d - 1, by omega⟩
  obtain ⟨s1, hs2, h⟩ := nx_so h
  refine Q.pf hs2 rfl (gI_of zm174 (e := (42, 3, .putfield 89, [9, 0, 0])) rfl) (hl.lt (a := 121) (by decide)) (by decide) (hl.T (a := 121) (p := (9, 45)) 43 rfl rfl) (by decide) rfl rfl ?_
  have hl3 : Ly tt cc s1 := by rw [hs2]; exact hl.wId (by decide)
  refine Q.run zm174 1 (i' := 23) (ls' := [some (.ref 121)]) (st' := [.ref 121]) rfl ?_
  refine Q.map (A.gf (gI_of zm174 (e := (46, 3, .getfield 89, [9, 0])) rfl) (hl3.lt (a := 121) (by decide)) (hl3.T (a := 121) (p := (9, 45)) 43 rfl rfl) (by decide) rfl) ?_
  by_cases hc4 : (sI s1 121 0) ≤ 0
  · rw [if_pos hc4] at h
    refine Q.map (A.zT (gI_of zm174 (e := (49, 3, .ifCond .le 5, [27])) rfl) (decide_eq_true hc4)) ?_
    refine Q.run zm174 2 (i' := 29) (ls' := [some (.ref 121)]) (st' := [.ref 121, .ref 121]) rfl ?_
    refine Q.map (A.gf (gI_of zm174 (e := (56, 3, .getfield 106, [9, 3])) rfl) (hl3.lt (a := 121) (by decide)) (hl3.T (a := 121) (p := (9, 45)) 43 rfl rfl) (by decide) rfl) ?_
    obtain ⟨s7, hc6, h⟩ := bu_so h
    have hq5 : Q 2 sio tt cc d 179 0 [some (.ref 121), some (.int (sI s1 121 3)), none] [] s1 (.inl none, s7) := dt179 (by omega) hl3  hc6
    refine Q.callV (gC_vi zm174 (show zM174.2.2.2.2.2[30]? = some (59, 3, .invokevirtual 124, [0, 179, 1, 9]) from rfl) zm179 (hl3.lt (a := 121) (by decide)) (hl3.T (a := 121) (p := (9, 45)) 43 rfl rfl) rfl (show aCr 1 121 [.int (sI s1 121 3), .ref 121] 3 = some ([some (.ref 121), some (.int (sI s1 121 3)), none], []) from rfl)) hq5 ?_
    refine Q.run zm174 2 (i' := 33) (ls' := [some (.ref 121)]) (st' := [.ref 121, .ref 121]) rfl ?_
    refine Q.map (A.gf (gI_of zm174 (e := (64, 3, .getfield 106, [9, 3])) rfl) (hq5.1.lt (a := 121) (by decide)) (hq5.1.T (a := 121) (p := (9, 45)) 43 rfl rfl) (by decide) rfl) ?_
    refine Q.run zm174 2 (i' := 36) (ls' := [some (.ref 121)]) (st' := [.int ((sI s7 121 3) + 1), .ref 121]) rfl ?_
    obtain ⟨s8, hs9, h⟩ := nx_so h
    refine Q.pf hs9 rfl (gI_of zm174 (e := (69, 3, .putfield 106, [9, 3, 0])) rfl) (hq5.1.lt (a := 121) (by decide)) (by decide) (hq5.1.T (a := 121) (p := (9, 45)) 43 rfl rfl) (by decide) rfl rfl ?_
    have hl10 : Ly tt cc s8 := by rw [hs9]; exact hq5.1.wId (by decide)
    refine Q.run zm174 1 (i' := 38) (ls' := [some (.ref 121)]) (st' := [.ref 121]) rfl ?_
    refine Q.map (A.gf (gI_of zm174 (e := (73, 3, .getfield 106, [9, 3])) rfl) (hl10.lt (a := 121) (by decide)) (hl10.T (a := 121) (p := (9, 45)) 43 rfl rfl) (by decide) rfl) ?_
    refine Q.run zm174 2 (i' := 41) (ls' := [some (.ref 121)]) (st' := [.int ((sI s8 121 3) - 1)]) rfl ?_
    cases h
    exact Q.ret (A.ri zm174 (show zM174.2.2.2.2.2[41]? = some (78, 1, .ireturn, []) from rfl) rfl rfl) hl10
  · rw [if_neg hc4] at h
    refine Q.map (A.zF (gI_of zm174 (e := (49, 3, .ifCond .le 5, [27])) rfl) (fun q => hc4 (of_decide_eq_true q))) ?_
    refine Q.run zm174 1 (i' := 26) (ls' := [some (.ref 121)]) (st' := [.int 0]) rfl ?_
    cases h
    exact Q.ret (A.ri zm174 (show zM174.2.2.2.2.2[26]? = some (53, 1, .ireturn, []) from rfl) rfl rfl) hl3
def dm174_12 (s : aS) : Option (Int32 × aS) :=
  dm174_21 1 s
set_option maxRecDepth 100000 in
theorem dt174_12 {sio : Bool} {tt : Nat} {cc : Nat → Nat → Int32} {d : Nat} (hd : 2 ≤ d) {s : aS} (hl : Ly tt cc s) {o : Int32 × aS} (h : dm174_12  s = some o) : Q 2 sio tt cc d 174 12 [some (.ref 121)] [.ref 121] s (.inl (some (.int o.1)), o.2) := by
  unfold dm174_12 at h
  obtain ⟨d, rfl⟩ : ∃ e, d = e + 1 := ⟨d - 1, by omega⟩
  refine Q.run zm174 2 (i' := 21) (ls' := [some (.ref 121)]) (st' := [.int 1, .ref 121]) rfl ?_
  exact dt174_21 hd hl  h
def dm174 (s : aS) : Option (Int32 × aS) :=
  bu (dm175 s) fun r3 =>
  if r3 = 0 then
    dm174_12 s
  else
    bu (dm177 122 0 (sI s 121 1) s) fun r7 =>
    if r7 < 0 then
      if (sI s 121 3) = 8 then
        dm174_21 2 s
      else
        dm174_21 0 s
    else
      dm174_12 s
set_option maxRecDepth 100000 in
theorem dt174 {sio : Bool} {tt : Nat} {cc : Nat → Nat → Int32} {d : Nat} (hd : 2 ≤ d) {s : aS} (hl : Ly tt cc s) {o : Int32 × aS} (h : dm174  s = some o) : Q 2 sio tt cc d 174 0 [some (.ref 121)] [] s (.inl (some (.int o.1)), o.2) := by
  unfold dm174 at h
  obtain ⟨d, rfl⟩ : ∃ e, d = e + 1 := ⟨d - 1, by omega⟩
  refine Q.run zm174 2 (i' := 2) (ls' := [some (.ref 121)]) (st' := [.ref 121, .ref 121]) rfl ?_
  obtain ⟨r3, hc2, h⟩ := bu_so h
  have hq1 : Q 2 sio tt cc d 175 0 [some (.ref 121), none, none, none] [] s (.inl (some (.int r3)), s) := dt175 (by omega) hl  hc2
  refine Q.callI (gC_vi zm174 (show zM174.2.2.2.2.2[2]? = some (2, 3, .invokevirtual 116, [0, 175, 0, 9]) from rfl) zm175 (hl.lt (a := 121) (by decide)) (hl.T (a := 121) (p := (9, 45)) 43 rfl rfl) rfl (show aCr 0 121 [.ref 121, .ref 121] 4 = some ([some (.ref 121), none, none, none], [.ref 121]) from rfl)) hq1 ?_
  by_cases hc4 : r3 = 0
  · rw [if_pos hc4] at h
    refine Q.map (A.zT (gI_of zm174 (e := (5, 3, .ifCond .eq 19, [12])) rfl) (decide_eq_true hc4)) ?_
    exact dt174_12 hd hl  h
  · rw [if_neg hc4] at h
    refine Q.map (A.zF (gI_of zm174 (e := (5, 3, .ifCond .eq 19, [12])) rfl) (fun q => hc4 (of_decide_eq_true q))) ?_
    refine Q.run zm174 2 (i' := 6) (ls' := [some (.ref 121)]) (st' := [.ref 121, .ref 121, .ref 121]) rfl ?_
    refine Q.map (A.gf (gI_of zm174 (e := (10, 3, .getfield 7, [9, 2])) rfl) (hl.lt (a := 121) (by decide)) (hl.T (a := 121) (p := (9, 45)) 43 rfl rfl) (by decide) (hl.R 23 rfl)) ?_
    refine Q.run zm174 2 (i' := 9) (ls' := [some (.ref 121)]) (st' := [.ref 121, .int 0, .ref 122, .ref 121, .ref 121]) rfl ?_
    refine Q.map (A.gf (gI_of zm174 (e := (15, 3, .getfield 103, [9, 1])) rfl) (hl.lt (a := 121) (by decide)) (hl.T (a := 121) (p := (9, 45)) 43 rfl rfl) (by decide) rfl) ?_
    obtain ⟨r7, hc6, h⟩ := bu_so h
    have hq5 : Q 2 sio tt cc d 177 0 [some (.ref 121), some (.ref 122), some (.int 0), some (.int (sI s 121 1)), none, none, none] [] s (.inl (some (.int r7)), s) := dt177 (by omega) hl (hl.Kd (a := 122) (c := 100) (n := 256) 44 rfl rfl (by decide)) hc6
    refine Q.callI (gC_vi zm174 (show zM174.2.2.2.2.2[10]? = some (18, 3, .invokevirtual 120, [0, 177, 3, 9]) from rfl) zm177 (hl.lt (a := 121) (by decide)) (hl.T (a := 121) (p := (9, 45)) 43 rfl rfl) rfl (show aCr 3 121 [.int (sI s 121 1), .int 0, .ref 122, .ref 121, .ref 121] 7 = some ([some (.ref 121), some (.ref 122), some (.int 0), some (.int (sI s 121 1)), none, none, none], [.ref 121]) from rfl)) hq5 ?_
    by_cases hc8 : r7 < 0
    · rw [if_pos hc8] at h
      refine Q.map (A.zT (gI_of zm174 (e := (21, 3, .ifCond .lt 7, [14])) rfl) (decide_eq_true hc8)) ?_
      refine Q.run zm174 1 (i' := 15) (ls' := [some (.ref 121)]) (st' := [.ref 121, .ref 121]) rfl ?_
      refine Q.map (A.gf (gI_of zm174 (e := (29, 3, .getfield 106, [9, 3])) rfl) (hl.lt (a := 121) (by decide)) (hl.T (a := 121) (p := (9, 45)) 43 rfl rfl) (by decide) rfl) ?_
      refine Q.run zm174 1 (i' := 17) (ls' := [some (.ref 121)]) (st' := [.int 8, .int (sI s 121 3), .ref 121]) rfl ?_
      by_cases hc9 : (sI s 121 3) = 8
      · rw [if_pos hc9] at h
        refine Q.map (A.bF (gI_of zm174 (e := (34, 3, .if_icmp .ne 7, [20])) rfl) (fun q => of_decide_eq_true q hc9)) ?_
        refine Q.run zm174 2 (i' := 21) (ls' := [some (.ref 121)]) (st' := [.int 2, .ref 121]) rfl ?_
        exact dt174_21 hd hl  h
      · rw [if_neg hc9] at h
        refine Q.map (A.bT (gI_of zm174 (e := (34, 3, .if_icmp .ne 7, [20])) rfl) (decide_eq_true hc9)) ?_
        refine Q.run zm174 1 (i' := 21) (ls' := [some (.ref 121)]) (st' := [.int 0, .ref 121]) rfl ?_
        exact dt174_21 hd hl  h
    · rw [if_neg hc8] at h
      refine Q.map (A.zF (gI_of zm174 (e := (21, 3, .ifCond .lt 7, [14])) rfl) (fun q => hc8 (of_decide_eq_true q))) ?_
      exact dt174_12 hd hl  h
/-! 51 FormulaTrees.rename(I)V -/
set_option maxRecDepth 100000 in
theorem zm51 : zP[51]? = some zM51 := rfl
def dm51 (x1 : Int32) (s : aS) : Option (xZ × aS) :=
  bu (dm40 x1 s) fun r3 =>
  if r3 = 0 then
    some (.inr 2, nw s 82 0)
  else
    bu (dm31 79 x1 s) fun r7 =>
    if r7 = 0 then
      some (.inr 0, nw s 80 0)
    else
      bu (dm39 x1 79 s) fun s11 =>
      some (.inl none, s11)
set_option maxRecDepth 100000 in
theorem dt51 {sio : Bool} {tt : Nat} {cc : Nat → Nat → Int32} {d : Nat} (hd : 9 ≤ d) {x1 : Int32} {s : aS} (hl : Ly tt cc s) {o : xZ × aS} (h : dm51  x1 s = some o) : Q 1 sio tt cc d 51 0 [some (.ref 78), some (.int x1)] [] s o := by
  unfold dm51 at h
  obtain ⟨d, rfl⟩ : ∃ e, d = e + 1 := ⟨d - 1, by omega⟩
  refine Q.run zm51 1 (i' := 1) (ls' := [some (.ref 78), some (.int x1)]) (st' := [.ref 78]) rfl ?_
  refine Q.map (A.gf (gI_of zm51 (e := (1, 3, .getfield 21, [0, 1])) rfl) (hl.lt (a := 78) (by decide)) (hl.T (a := 78) (p := (0, 7)) 0 rfl rfl) (by decide) (hl.R 1 rfl)) ?_
  refine Q.run zm51 1 (i' := 3) (ls' := [some (.ref 78), some (.int x1)]) (st' := [.int x1, .ref 81]) rfl ?_
  obtain ⟨r3, hc2, h⟩ := bu_so h
  have hq1 : Q 1 sio tt cc d 40 0 [some (.ref 81), some (.int x1)] [] s (.inl (some (.int r3)), s) := dt40 (by omega) hl  hc2
  refine Q.callI (gC_vi zm51 (show zM51.2.2.2.2.2[3]? = some (5, 3, .invokevirtual 96, [0, 40, 1, 2]) from rfl) zm40 (hl.lt (a := 81) (by decide)) (hl.T (a := 81) (p := (2, 3)) 3 rfl rfl) rfl (show aCr 1 81 [.int x1, .ref 81] 2 = some ([some (.ref 81), some (.int x1)], []) from rfl)) hq1 ?_
  by_cases hc4 : r3 = 0
  · rw [if_pos hc4] at h
    refine Q.map (A.zF (gI_of zm51 (e := (8, 3, .ifCond .ne 13, [10])) rfl) (fun q => of_decide_eq_true q hc4)) ?_
    cases h
    exact Q.t zm51 (show zM51.2.2.2.2.2[5]? = some (11, 3, .new 100, [202]) from rfl) rfl rfl hl.gL (by omega) hl
  · rw [if_neg hc4] at h
    refine Q.map (A.zT (gI_of zm51 (e := (8, 3, .ifCond .ne 13, [10])) rfl) (decide_eq_true hc4)) ?_
    refine Q.run zm51 1 (i' := 11) (ls' := [some (.ref 78), some (.int x1)]) (st' := [.ref 78]) rfl ?_
    refine Q.map (A.gf (gI_of zm51 (e := (22, 3, .getfield 21, [0, 1])) rfl) (hl.lt (a := 78) (by decide)) (hl.T (a := 78) (p := (0, 7)) 0 rfl rfl) (by decide) (hl.R 1 rfl)) ?_
    refine Q.run zm51 1 (i' := 13) (ls' := [some (.ref 78), some (.int x1)]) (st' := [.ref 78, .ref 81]) rfl ?_
    refine Q.map (A.gf (gI_of zm51 (e := (26, 3, .getfield 14, [0, 0])) rfl) (hl.lt (a := 78) (by decide)) (hl.T (a := 78) (p := (0, 7)) 0 rfl rfl) (by decide) (hl.R 0 rfl)) ?_
    refine Q.run zm51 1 (i' := 15) (ls' := [some (.ref 78), some (.int x1)]) (st' := [.int x1, .ref 79, .ref 81]) rfl ?_
    obtain ⟨r7, hc6, h⟩ := bu_so h
    have hq5 : Q 1 sio tt cc d 31 0 [some (.ref 81), some (.ref 79), some (.int x1), none] [] s (.inl (some (.int r7)), s) := dt31 (by omega) hl (hl.Kd (a := 79) (c := 1) (n := 2) 1 rfl rfl (by decide)) hc6
    refine Q.callI (gC_vi zm51 (show zM51.2.2.2.2.2[15]? = some (30, 3, .invokevirtual 80, [0, 31, 2, 2]) from rfl) zm31 (hl.lt (a := 81) (by decide)) (hl.T (a := 81) (p := (2, 3)) 3 rfl rfl) rfl (show aCr 2 81 [.int x1, .ref 79, .ref 81] 4 = some ([some (.ref 81), some (.ref 79), some (.int x1), none], []) from rfl)) hq5 ?_
    by_cases hc8 : r7 = 0
    · rw [if_pos hc8] at h
      refine Q.map (A.zF (gI_of zm51 (e := (33, 3, .ifCond .ne 13, [22])) rfl) (fun q => of_decide_eq_true q hc8)) ?_
      cases h
      exact Q.t zm51 (show zM51.2.2.2.2.2[17]? = some (36, 3, .new 58, [200]) from rfl) rfl rfl hl.gL (by omega) hl
    · rw [if_neg hc8] at h
      refine Q.map (A.zT (gI_of zm51 (e := (33, 3, .ifCond .ne 13, [22])) rfl) (decide_eq_true hc8)) ?_
      refine Q.run zm51 1 (i' := 23) (ls' := [some (.ref 78), some (.int x1)]) (st' := [.ref 78]) rfl ?_
      refine Q.map (A.gf (gI_of zm51 (e := (47, 3, .getfield 21, [0, 1])) rfl) (hl.lt (a := 78) (by decide)) (hl.T (a := 78) (p := (0, 7)) 0 rfl rfl) (by decide) (hl.R 1 rfl)) ?_
      refine Q.run zm51 2 (i' := 26) (ls' := [some (.ref 78), some (.int x1)]) (st' := [.ref 78, .int x1, .ref 81]) rfl ?_
      refine Q.map (A.gf (gI_of zm51 (e := (52, 3, .getfield 14, [0, 0])) rfl) (hl.lt (a := 78) (by decide)) (hl.T (a := 78) (p := (0, 7)) 0 rfl rfl) (by decide) (hl.R 0 rfl)) ?_
      obtain ⟨s11, hc10, h⟩ := bu_so h
      have hq9 : Q 1 sio tt cc d 39 0 [some (.ref 81), some (.int x1), some (.ref 79)] [] s (.inl none, s11) := dt39 (by omega) hl (hl.Kd (a := 79) (c := 1) (n := 2) 1 rfl rfl (by decide)) hc10
      refine Q.callV (gC_vi zm51 (show zM51.2.2.2.2.2[27]? = some (55, 3, .invokevirtual 107, [0, 39, 2, 2]) from rfl) zm39 (hl.lt (a := 81) (by decide)) (hl.T (a := 81) (p := (2, 3)) 3 rfl rfl) rfl (show aCr 2 81 [.ref 79, .int x1, .ref 81] 3 = some ([some (.ref 81), some (.int x1), some (.ref 79)], []) from rfl)) hq9 ?_
      cases h
      exact Q.ret (A.rv zm51 (show zM51.2.2.2.2.2[28]? = some (58, 1, .return_, []) from rfl) rfl) hq9.1
/-! 3 FormulaTreesLaw.rename(LFormulaTrees;I)I -/
set_option maxRecDepth 100000 in
theorem zm3 : zP[3]? = some zM3 := rfl
def dm3 (x1 : Int32) (s : aS) : Option (Int32 × aS) :=
  bv (dm51 x1 s) fun z4 s3 =>
  zN z4 (fun v5 =>
    vV v5 <|
    some (0, s3)
  ) fun e6 =>
    if e6 = 2 then
      some (1, s3)
    else
      if e6 = 0 then
        some (2, s3)
      else
        none
set_option maxRecDepth 100000 in
theorem dt3 {sio : Bool} {tt : Nat} {cc : Nat → Nat → Int32} {d : Nat} (hd : 10 ≤ d) {x1 : Int32} {s : aS} (hl : Ly tt cc s) {o : Int32 × aS} (h : dm3  x1 s = some o) : Q 1 sio tt cc d 3 0 [some (.ref 78), some (.int x1), none] [] s (.inl (some (.int o.1)), o.2) := by
  unfold dm3 at h
  obtain ⟨d, rfl⟩ : ∃ e, d = e + 1 := ⟨d - 1, by omega⟩
  refine Q.run zm3 2 (i' := 2) (ls' := [some (.ref 78), some (.int x1), none]) (st' := [.int x1, .ref 78]) rfl ?_
  obtain ⟨z4, s3, hc2, h⟩ := bv_so h
  have hq1 : Q 1 sio tt cc d 51 0 [some (.ref 78), some (.int x1)] [] s (z4, s3) := dt51 (by omega) hl  hc2
  rcases zN_so h with ⟨v5, hz8, h8⟩ | ⟨e6, hz8, h8⟩
  · clear h
    subst hz8
    have h := h8
    obtain ⟨hv7, h9⟩ := vV_so h
    clear h
    subst hv7
    have h := h9
    refine Q.callV (gC_vi zm3 (show zM3.2.2.2.2.2[2]? = some (2, 3, .invokevirtual 21, [0, 51, 1, 0]) from rfl) zm51 (hl.lt (a := 78) (by decide)) (hl.T (a := 78) (p := (0, 7)) 0 rfl rfl) rfl (show aCr 1 78 [.int x1, .ref 78] 2 = some ([some (.ref 78), some (.int x1)], []) from rfl)) hq1 ?_
    refine Q.run zm3 2 (i' := 11) (ls' := [some (.ref 78), some (.int x1), none]) (st' := [.int 0]) rfl ?_
    cases h
    exact Q.ret (A.ri zm3 (show zM3.2.2.2.2.2[11]? = some (15, 1, .ireturn, []) from rfl) rfl rfl) hq1.1
  · clear h
    subst hz8
    have h := h8
    by_cases hc9 : e6 = 2
    · rw [if_pos hc9] at h
      subst hc9
      refine Q.hc (gC_vi zm3 (show zM3.2.2.2.2.2[2]? = some (2, 3, .invokevirtual 21, [0, 51, 1, 0]) from rfl) zm51 (hl.lt (a := 78) (by decide)) (hl.T (a := 78) (p := (0, 7)) 0 rfl rfl) rfl (show aCr 1 78 [.int x1, .ref 78] 2 = some ([some (.ref 78), some (.int x1)], []) from rfl)) hq1 (t := 4) rfl ?_
      refine Q.run zm3 2 (i' := 6) (ls' := [some (.ref 78), some (.int x1), some (.ref (sL s3 - 1))]) (st' := [.int 1]) rfl ?_
      cases h
      exact Q.ret (A.ri zm3 (show zM3.2.2.2.2.2[6]? = some (10, 1, .ireturn, []) from rfl) rfl rfl) hq1.1
    · rw [if_neg hc9] at h
      by_cases hc10 : e6 = 0
      · rw [if_pos hc10] at h
        subst hc10
        refine Q.hc (gC_vi zm3 (show zM3.2.2.2.2.2[2]? = some (2, 3, .invokevirtual 21, [0, 51, 1, 0]) from rfl) zm51 (hl.lt (a := 78) (by decide)) (hl.T (a := 78) (p := (0, 7)) 0 rfl rfl) rfl (show aCr 1 78 [.int x1, .ref 78] 2 = some ([some (.ref 78), some (.int x1)], []) from rfl)) hq1 (t := 7) rfl ?_
        refine Q.run zm3 2 (i' := 9) (ls' := [some (.ref 78), some (.int x1), some (.ref (sL s3 - 1))]) (st' := [.int 2]) rfl ?_
        cases h
        exact Q.ret (A.ri zm3 (show zM3.2.2.2.2.2[9]? = some (13, 1, .ireturn, []) from rfl) rfl rfl) hq1.1
      · rw [if_neg hc10] at h
        cases h
/-! 181 FormulaTreesModel.noSheet(I)Z -/
set_option maxRecDepth 100000 in
theorem zm181 : zP[181]? = some zM181 := rfl
def dm181_6 (s : aS) : Option (Int32) :=
  some 1
set_option maxRecDepth 100000 in
theorem dt181_6 {sio : Bool} {tt : Nat} {cc : Nat → Nat → Int32} {d : Nat} (hd : 0 ≤ d) {x1 : Int32} {s : aS} (hl : Ly tt cc s) {o : Int32} (h : dm181_6  s = some o) : Q 2 sio tt cc d 181 6 [some (.ref 121), some (.int x1)] [] s (.inl (some (.int o)), s) := by
  unfold dm181_6 at h
  refine Q.run zm181 2 (i' := 9) (ls' := [some (.ref 121), some (.int x1)]) (st' := [.int 1]) rfl ?_
  cases h
  exact Q.ret (A.ri zm181 (show zM181.2.2.2.2.2[9]? = some (17, 1, .ireturn, []) from rfl) rfl rfl) hl
def dm181 (x1 : Int32) (s : aS) : Option (Int32) :=
  if x1 < 0 then
    dm181_6 s
  else
    if x1 < (sI s 121 3) then
      some 0
    else
      dm181_6 s
set_option maxRecDepth 100000 in
theorem dt181 {sio : Bool} {tt : Nat} {cc : Nat → Nat → Int32} {d : Nat} (hd : 0 ≤ d) {x1 : Int32} {s : aS} (hl : Ly tt cc s) {o : Int32} (h : dm181  x1 s = some o) : Q 2 sio tt cc d 181 0 [some (.ref 121), some (.int x1)] [] s (.inl (some (.int o)), s) := by
  unfold dm181 at h
  refine Q.run zm181 1 (i' := 1) (ls' := [some (.ref 121), some (.int x1)]) (st' := [.int x1]) rfl ?_
  by_cases hc1 : x1 < 0
  · rw [if_pos hc1] at h
    refine Q.map (A.zT (gI_of zm181 (e := (1, 3, .ifCond .lt 11, [6])) rfl) (decide_eq_true hc1)) ?_
    exact dt181_6 hd hl  h
  · rw [if_neg hc1] at h
    refine Q.map (A.zF (gI_of zm181 (e := (1, 3, .ifCond .lt 11, [6])) rfl) (fun q => hc1 (of_decide_eq_true q))) ?_
    refine Q.run zm181 2 (i' := 4) (ls' := [some (.ref 121), some (.int x1)]) (st' := [.ref 121, .int x1]) rfl ?_
    refine Q.map (A.gf (gI_of zm181 (e := (6, 3, .getfield 106, [9, 3])) rfl) (hl.lt (a := 121) (by decide)) (hl.T (a := 121) (p := (9, 45)) 43 rfl rfl) (by decide) rfl) ?_
    by_cases hc2 : x1 < (sI s 121 3)
    · rw [if_pos hc2] at h
      refine Q.map (A.bT (gI_of zm181 (e := (9, 3, .if_icmp .lt 7, [8])) rfl) (decide_eq_true hc2)) ?_
      refine Q.run zm181 1 (i' := 9) (ls' := [some (.ref 121), some (.int x1)]) (st' := [.int 0]) rfl ?_
      cases h
      exact Q.ret (A.ri zm181 (show zM181.2.2.2.2.2[9]? = some (17, 1, .ireturn, []) from rfl) rfl rfl) hl
    · rw [if_neg hc2] at h
      refine Q.map (A.bF (gI_of zm181 (e := (9, 3, .if_icmp .lt 7, [8])) rfl) (fun q => hc2 (of_decide_eq_true q))) ?_
      exact dt181_6 hd hl  h
/-! 180 FormulaTreesModel.rename(I)V -/
set_option maxRecDepth 100000 in
theorem zm180 : zP[180]? = some zM180 := rfl
def dm180_36 (x1 : Int32) (y1 : Int32) (s : aS) : Option (aS) :=
  nx (wI s 121 0 y1) fun s1 =>
  if (sI s1 121 0) = 0 then
    bu (dm179 x1 s1) fun s7 =>
    some s7
  else
    some s1
set_option maxRecDepth 100000 in
theorem dt180_36 {sio : Bool} {tt : Nat} {cc : Nat → Nat → Int32} {d : Nat} (hd : 2 ≤ d) {x1 : Int32} {y1 : Int32} {x2 : Int32} {x3 : Int32} {s : aS} (hl : Ly tt cc s) {o : aS} (h : dm180_36  x1 y1 s = some o) : Q 2 sio tt cc d 180 36 [some (.ref 121), some (.int x1), some (.int x2), some (.int x3)] [.int y1, .ref 121] s (.inl none, o) := by
  unfold dm180_36 at h
  obtain ⟨d, rfl⟩ : ∃ e, d = e + 1 := ⟨d - 1, by omega⟩
  obtain ⟨s1, hs2, h⟩ := nx_so h
  refine Q.pf hs2 rfl (gI_of zm180 (e := (66, 3, .putfield 89, [9, 0, 0])) rfl) (hl.lt (a := 121) (by decide)) (by decide) (hl.T (a := 121) (p := (9, 45)) 43 rfl rfl) (by decide) rfl rfl ?_
  have hl3 : Ly tt cc s1 := by rw [hs2]; exact hl.wId (by decide)
  refine Q.run zm180 1 (i' := 38) (ls' := [some (.ref 121), some (.int x1), some (.int x2), some (.int x3)]) (st' := [.ref 121]) rfl ?_
  refine Q.map (A.gf (gI_of zm180 (e := (70, 3, .getfield 89, [9, 0])) rfl) (hl3.lt (a := 121) (by decide)) (hl3.T (a := 121) (p := (9, 45)) 43 rfl rfl) (by decide) rfl) ?_
  by_cases hc4 : (sI s1 121 0) = 0
  · rw [if_pos hc4] at h
    refine Q.map (A.zF (gI_of zm180 (e := (73, 3, .ifCond .ne 8, [43])) rfl) (fun q => of_decide_eq_true q hc4)) ?_
    refine Q.run zm180 2 (i' := 42) (ls' := [some (.ref 121), some (.int x1), some (.int x2), some (.int x3)]) (st' := [.int x1, .ref 121]) rfl ?_
    obtain ⟨s7, hc6, h⟩ := bu_so h
    have hq5 : Q 2 sio tt cc d 179 0 [some (.ref 121), some (.int x1), none] [] s1 (.inl none, s7) := dt179 (by omega) hl3  hc6
    refine Q.callV (gC_vi zm180 (show zM180.2.2.2.2.2[42]? = some (78, 3, .invokevirtual 124, [0, 179, 1, 9]) from rfl) zm179 (hl3.lt (a := 121) (by decide)) (hl3.T (a := 121) (p := (9, 45)) 43 rfl rfl) rfl (show aCr 1 121 [.int x1, .ref 121] 3 = some ([some (.ref 121), some (.int x1), none], []) from rfl)) hq5 ?_
    cases h
    exact Q.ret (A.rv zm180 (show zM180.2.2.2.2.2[43]? = some (81, 1, .return_, []) from rfl) rfl) hq5.1
  · rw [if_neg hc4] at h
    refine Q.map (A.zT (gI_of zm180 (e := (73, 3, .ifCond .ne 8, [43])) rfl) (decide_eq_true hc4)) ?_
    cases h
    exact Q.ret (A.rv zm180 (show zM180.2.2.2.2.2[43]? = some (81, 1, .return_, []) from rfl) rfl) hl3
def dm180_35 (x1 : Int32) (s : aS) : Option (aS) :=
  dm180_36 x1 0 s
set_option maxRecDepth 100000 in
theorem dt180_35 {sio : Bool} {tt : Nat} {cc : Nat → Nat → Int32} {d : Nat} (hd : 2 ≤ d) {x1 : Int32} {x2 : Int32} {x3 : Int32} {s : aS} (hl : Ly tt cc s) {o : aS} (h : dm180_35  x1 s = some o) : Q 2 sio tt cc d 180 35 [some (.ref 121), some (.int x1), some (.int x2), some (.int x3)] [.ref 121] s (.inl none, o) := by
  unfold dm180_35 at h
  obtain ⟨d, rfl⟩ : ∃ e, d = e + 1 := ⟨d - 1, by omega⟩
  refine Q.run zm180 1 (i' := 36) (ls' := [some (.ref 121), some (.int x1), some (.int x2), some (.int x3)]) (st' := [.int 0, .ref 121]) rfl ?_
  exact dt180_36 hd hl  h
def dm180_33 (x1 : Int32) (s : aS) : Option (aS) :=
  dm180_36 x1 2 s
set_option maxRecDepth 100000 in
theorem dt180_33 {sio : Bool} {tt : Nat} {cc : Nat → Nat → Int32} {d : Nat} (hd : 2 ≤ d) {x1 : Int32} {x2 : Int32} {x3 : Int32} {s : aS} (hl : Ly tt cc s) {o : aS} (h : dm180_33  x1 s = some o) : Q 2 sio tt cc d 180 33 [some (.ref 121), some (.int x1), some (.int x2), some (.int x3)] [.ref 121] s (.inl none, o) := by
  unfold dm180_33 at h
  obtain ⟨d, rfl⟩ : ∃ e, d = e + 1 := ⟨d - 1, by omega⟩
  refine Q.run zm180 2 (i' := 36) (ls' := [some (.ref 121), some (.int x1), some (.int x2), some (.int x3)]) (st' := [.int 2, .ref 121]) rfl ?_
  exact dt180_36 hd hl  h
def dm180_18 (x1 : Int32) (x2 : Int32) (y0 : Int32) (s : aS) : Option (aS) :=
  bu (dm181 x1 s) fun r3 =>
  if r3 = 0 then
    if x2 = 0 then
      if y0 < 0 then
        dm180_35 x1 s
      else
        if y0 = x1 then
          dm180_35 x1 s
        else
          dm180_33 x1 s
    else
      dm180_33 x1 s
  else
    dm180_36 x1 1 s
set_option maxRecDepth 100000 in
theorem dt180_18 {sio : Bool} {tt : Nat} {cc : Nat → Nat → Int32} {d : Nat} (hd : 2 ≤ d) {x1 : Int32} {x2 : Int32} {y0 : Int32} {s : aS} (hl : Ly tt cc s) {o : aS} (h : dm180_18  x1 x2 y0 s = some o) : Q 2 sio tt cc d 180 18 [some (.ref 121), some (.int x1), some (.int x2), none] [.int y0] s (.inl none, o) := by
  unfold dm180_18 at h
  obtain ⟨d, rfl⟩ : ∃ e, d = e + 1 := ⟨d - 1, by omega⟩
  refine Q.run zm180 4 (i' := 22) (ls' := [some (.ref 121), some (.int x1), some (.int x2), some (.int y0)]) (st' := [.int x1, .ref 121, .ref 121]) rfl ?_
  obtain ⟨r3, hc2, h⟩ := bu_so h
  have hq1 : Q 2 sio tt cc d 181 0 [some (.ref 121), some (.int x1)] [] s (.inl (some (.int r3)), s) := dt181 (by omega) hl  hc2
  refine Q.callI (gC_vi zm180 (show zM180.2.2.2.2.2[22]? = some (38, 3, .invokevirtual 128, [0, 181, 1, 9]) from rfl) zm181 (hl.lt (a := 121) (by decide)) (hl.T (a := 121) (p := (9, 45)) 43 rfl rfl) rfl (show aCr 1 121 [.int x1, .ref 121, .ref 121] 2 = some ([some (.ref 121), some (.int x1)], [.ref 121]) from rfl)) hq1 ?_
  by_cases hc4 : r3 = 0
  · rw [if_pos hc4] at h
    refine Q.map (A.zT (gI_of zm180 (e := (41, 3, .ifCond .eq 7, [26])) rfl) (decide_eq_true hc4)) ?_
    refine Q.run zm180 1 (i' := 27) (ls' := [some (.ref 121), some (.int x1), some (.int x2), some (.int y0)]) (st' := [.int x2, .ref 121]) rfl ?_
    by_cases hc5 : x2 = 0
    · rw [if_pos hc5] at h
      refine Q.map (A.zF (gI_of zm180 (e := (49, 3, .ifCond .ne 12, [33])) rfl) (fun q => of_decide_eq_true q hc5)) ?_
      refine Q.run zm180 1 (i' := 29) (ls' := [some (.ref 121), some (.int x1), some (.int x2), some (.int y0)]) (st' := [.int y0, .ref 121]) rfl ?_
      by_cases hc6 : y0 < 0
      · rw [if_pos hc6] at h
        refine Q.map (A.zT (gI_of zm180 (e := (53, 3, .ifCond .lt 12, [35])) rfl) (decide_eq_true hc6)) ?_
        exact dt180_35 hd hl  h
      · rw [if_neg hc6] at h
        refine Q.map (A.zF (gI_of zm180 (e := (53, 3, .ifCond .lt 12, [35])) rfl) (fun q => hc6 (of_decide_eq_true q))) ?_
        refine Q.run zm180 2 (i' := 32) (ls' := [some (.ref 121), some (.int x1), some (.int x2), some (.int y0)]) (st' := [.int x1, .int y0, .ref 121]) rfl ?_
        by_cases hc7 : y0 = x1
        · rw [if_pos hc7] at h
          refine Q.map (A.bT (gI_of zm180 (e := (58, 3, .if_icmp .eq 7, [35])) rfl) (decide_eq_true hc7)) ?_
          exact dt180_35 hd hl  h
        · rw [if_neg hc7] at h
          refine Q.map (A.bF (gI_of zm180 (e := (58, 3, .if_icmp .eq 7, [35])) rfl) (fun q => hc7 (of_decide_eq_true q))) ?_
          exact dt180_33 hd hl  h
    · rw [if_neg hc5] at h
      refine Q.map (A.zT (gI_of zm180 (e := (49, 3, .ifCond .ne 12, [33])) rfl) (decide_eq_true hc5)) ?_
      exact dt180_33 hd hl  h
  · rw [if_neg hc4] at h
    refine Q.map (A.zF (gI_of zm180 (e := (41, 3, .ifCond .eq 7, [26])) rfl) (fun q => hc4 (of_decide_eq_true q))) ?_
    refine Q.run zm180 2 (i' := 36) (ls' := [some (.ref 121), some (.int x1), some (.int x2), some (.int y0)]) (st' := [.int 1, .ref 121]) rfl ?_
    exact dt180_36 hd hl  h
def dm180_6 (x1 : Int32) (y0 : Int32) (s : aS) : Option (aS) :=
  if y0 = 0 then
    bu (dm177 122 0 (sI s 121 1) s) fun r4 =>
    dm180_18 x1 y0 r4 s
  else
    dm180_18 x1 y0 (-1) s
set_option maxRecDepth 100000 in
theorem dt180_6 {sio : Bool} {tt : Nat} {cc : Nat → Nat → Int32} {d : Nat} (hd : 2 ≤ d) {x1 : Int32} {y0 : Int32} {s : aS} (hl : Ly tt cc s) {o : aS} (h : dm180_6  x1 y0 s = some o) : Q 2 sio tt cc d 180 6 [some (.ref 121), some (.int x1), none, none] [.int y0] s (.inl none, o) := by
  unfold dm180_6 at h
  obtain ⟨d, rfl⟩ : ∃ e, d = e + 1 := ⟨d - 1, by omega⟩
  refine Q.run zm180 2 (i' := 8) (ls' := [some (.ref 121), some (.int x1), some (.int y0), none]) (st' := [.int y0]) rfl ?_
  by_cases hc1 : y0 = 0
  · rw [if_pos hc1] at h
    refine Q.map (A.zT (gI_of zm180 (e := (14, 3, .ifCond .eq 7, [11])) rfl) (decide_eq_true hc1)) ?_
    refine Q.run zm180 2 (i' := 13) (ls' := [some (.ref 121), some (.int x1), some (.int y0), none]) (st' := [.ref 121, .ref 121]) rfl ?_
    refine Q.map (A.gf (gI_of zm180 (e := (23, 3, .getfield 7, [9, 2])) rfl) (hl.lt (a := 121) (by decide)) (hl.T (a := 121) (p := (9, 45)) 43 rfl rfl) (by decide) (hl.R 23 rfl)) ?_
    refine Q.run zm180 2 (i' := 16) (ls' := [some (.ref 121), some (.int x1), some (.int y0), none]) (st' := [.ref 121, .int 0, .ref 122, .ref 121]) rfl ?_
    refine Q.map (A.gf (gI_of zm180 (e := (28, 3, .getfield 103, [9, 1])) rfl) (hl.lt (a := 121) (by decide)) (hl.T (a := 121) (p := (9, 45)) 43 rfl rfl) (by decide) rfl) ?_
    obtain ⟨r4, hc3, h⟩ := bu_so h
    have hq2 : Q 2 sio tt cc d 177 0 [some (.ref 121), some (.ref 122), some (.int 0), some (.int (sI s 121 1)), none, none, none] [] s (.inl (some (.int r4)), s) := dt177 (by omega) hl (hl.Kd (a := 122) (c := 100) (n := 256) 44 rfl rfl (by decide)) hc3
    refine Q.callI (gC_vi zm180 (show zM180.2.2.2.2.2[17]? = some (31, 3, .invokevirtual 120, [0, 177, 3, 9]) from rfl) zm177 (hl.lt (a := 121) (by decide)) (hl.T (a := 121) (p := (9, 45)) 43 rfl rfl) rfl (show aCr 3 121 [.int (sI s 121 1), .int 0, .ref 122, .ref 121] 7 = some ([some (.ref 121), some (.ref 122), some (.int 0), some (.int (sI s 121 1)), none, none, none], []) from rfl)) hq2 ?_
    exact dt180_18 hd hl  h
  · rw [if_neg hc1] at h
    refine Q.map (A.zF (gI_of zm180 (e := (14, 3, .ifCond .eq 7, [11])) rfl) (fun q => hc1 (of_decide_eq_true q))) ?_
    refine Q.run zm180 2 (i' := 18) (ls' := [some (.ref 121), some (.int x1), some (.int y0), none]) (st' := [.int (-1)]) rfl ?_
    exact dt180_18 hd hl  h
def dm180 (x1 : Int32) (s : aS) : Option (aS) :=
  bu (dm175 s) fun r3 =>
  if r3 = 0 then
    dm180_6 x1 1 s
  else
    dm180_6 x1 0 s
set_option maxRecDepth 100000 in
theorem dt180 {sio : Bool} {tt : Nat} {cc : Nat → Nat → Int32} {d : Nat} (hd : 2 ≤ d) {x1 : Int32} {s : aS} (hl : Ly tt cc s) {o : aS} (h : dm180  x1 s = some o) : Q 2 sio tt cc d 180 0 [some (.ref 121), some (.int x1), none, none] [] s (.inl none, o) := by
  unfold dm180 at h
  obtain ⟨d, rfl⟩ : ∃ e, d = e + 1 := ⟨d - 1, by omega⟩
  refine Q.run zm180 1 (i' := 1) (ls' := [some (.ref 121), some (.int x1), none, none]) (st' := [.ref 121]) rfl ?_
  obtain ⟨r3, hc2, h⟩ := bu_so h
  have hq1 : Q 2 sio tt cc d 175 0 [some (.ref 121), none, none, none] [] s (.inl (some (.int r3)), s) := dt175 (by omega) hl  hc2
  refine Q.callI (gC_vi zm180 (show zM180.2.2.2.2.2[1]? = some (1, 3, .invokevirtual 116, [0, 175, 0, 9]) from rfl) zm175 (hl.lt (a := 121) (by decide)) (hl.T (a := 121) (p := (9, 45)) 43 rfl rfl) rfl (show aCr 0 121 [.ref 121] 4 = some ([some (.ref 121), none, none, none], []) from rfl)) hq1 ?_
  by_cases hc4 : r3 = 0
  · rw [if_pos hc4] at h
    refine Q.map (A.zF (gI_of zm180 (e := (4, 3, .ifCond .ne 7, [5])) rfl) (fun q => of_decide_eq_true q hc4)) ?_
    refine Q.run zm180 2 (i' := 6) (ls' := [some (.ref 121), some (.int x1), none, none]) (st' := [.int 1]) rfl ?_
    exact dt180_6 hd hl  h
  · rw [if_neg hc4] at h
    refine Q.map (A.zT (gI_of zm180 (e := (4, 3, .ifCond .ne 7, [5])) rfl) (decide_eq_true hc4)) ?_
    refine Q.run zm180 1 (i' := 6) (ls' := [some (.ref 121), some (.int x1), none, none]) (st' := [.int 0]) rfl ?_
    exact dt180_6 hd hl  h
/-! 53 FormulaTrees$Sheets.takeAway(I)V -/
set_option maxRecDepth 100000 in
theorem zm53 : zP[53]? = some zM53 := rfl
def dm53_8 : Nat → Int32 → aS → Option (aS)
  | 0, _, _ => none
  | n + 1, x2, s =>
    if (sI s 81 2) ≤ x2 then
      nx (wI s 81 2 ((sI s 81 2) - 1)) fun s2 =>
      some s2
    else
      if aB x2 8 then
        bu (dm39 (x2 - 1) (84 + 2 * jN x2) s) fun s10 =>
        dm53_8 n (x2 + 1) s10
      else none
set_option maxRecDepth 100000 in
theorem dt53_8 {sio : Bool} {tt : Nat} {cc : Nat → Nat → Int32} {d : Nat} (hd : 8 ≤ d) : ∀ (n : Nat) {x2 : Int32} {x1 : Int32} {s : aS} (_ : Ly tt cc s) {o : aS} (_ : dm53_8  n x2 s = some o), Q 1 sio tt cc d 53 8 [some (.ref 81), some (.int x1), some (.int x2)] [] s (.inl none, o) := by
  obtain ⟨d, rfl⟩ : ∃ e, d = e + 1 := ⟨d - 1, by omega⟩
  intro n
  induction n with
  | zero => intro x2 x1 s hl o h; rw [dm53_8] at h; cases h
  | succ n ih =>
    intro x2 x1 s hl o h
    rw [dm53_8] at h
    refine Q.run zm53 2 (i' := 10) (ls' := [some (.ref 81), some (.int x1), some (.int x2)]) (st' := [.ref 81, .int x2]) rfl ?_
    refine Q.map (A.gf (gI_of zm53 (e := (14, 3, .getfield 24, [2, 2])) rfl) (hl.lt (a := 81) (by decide)) (hl.T (a := 81) (p := (2, 3)) 3 rfl rfl) (by decide) rfl) ?_
    by_cases hc1 : (sI s 81 2) ≤ x2
    · rw [if_pos hc1] at h
      refine Q.map (A.bT (gI_of zm53 (e := (17, 3, .if_icmp .ge 22, [23])) rfl) (decide_eq_true hc1)) ?_
      refine Q.run zm53 2 (i' := 25) (ls' := [some (.ref 81), some (.int x1), some (.int x2)]) (st' := [.ref 81, .ref 81]) rfl ?_
      refine Q.map (A.gf (gI_of zm53 (e := (41, 3, .getfield 24, [2, 2])) rfl) (hl.lt (a := 81) (by decide)) (hl.T (a := 81) (p := (2, 3)) 3 rfl rfl) (by decide) rfl) ?_
      refine Q.run zm53 2 (i' := 28) (ls' := [some (.ref 81), some (.int x1), some (.int x2)]) (st' := [.int ((sI s 81 2) - 1), .ref 81]) rfl ?_
      obtain ⟨s2, hs3, h⟩ := nx_so h
      refine Q.pf hs3 rfl (gI_of zm53 (e := (46, 3, .putfield 24, [2, 2, 0])) rfl) (hl.lt (a := 81) (by decide)) (by decide) (hl.T (a := 81) (p := (2, 3)) 3 rfl rfl) (by decide) rfl rfl ?_
      have hl4 : Ly tt cc s2 := by rw [hs3]; exact hl.wId (by decide)
      cases h
      exact Q.ret (A.rv zm53 (show zM53.2.2.2.2.2[29]? = some (49, 1, .return_, []) from rfl) rfl) hl4
    · rw [if_neg hc1] at h
      refine Q.map (A.bF (gI_of zm53 (e := (17, 3, .if_icmp .ge 22, [23])) rfl) (fun q => hc1 (of_decide_eq_true q))) ?_
      refine Q.run zm53 5 (i' := 17) (ls' := [some (.ref 81), some (.int x1), some (.int x2)]) (st' := [.ref 81, .int (x2 - 1), .ref 81]) rfl ?_
      refine Q.map (A.gf (gI_of zm53 (e := (25, 3, .getfield 11, [2, 0])) rfl) (hl.lt (a := 81) (by decide)) (hl.T (a := 81) (p := (2, 3)) 3 rfl rfl) (by decide) (hl.R 6 rfl)) ?_
      refine Q.run zm53 1 (i' := 19) (ls' := [some (.ref 81), some (.int x1), some (.int x2)]) (st' := [.int x2, .ref 82, .int (x2 - 1), .ref 81]) rfl ?_
      obtain ⟨hc5, h⟩ := ite_so h
      have hn6 := lay_names hl hc5.2
      refine Q.map (A.aa (gI_of zm53 (e := (29, 1, .aaload, [])) rfl) (hl.lt (a := 82) (by decide)) (hl.T (a := 82) (p := (111, 8)) 4 rfl rfl) (by decide) hc5 hn6.2) ?_
      have hr7 := hn6.1
      obtain ⟨s10, hc9, h⟩ := bu_so h
      have hq8 : Q 1 sio tt cc d 39 0 [some (.ref 81), some (.int (x2 - 1)), some (.ref (84 + 2 * jN x2))] [] s (.inl none, s10) := dt39 (by omega) hl hr7 hc9
      refine Q.callV (gC_vi zm53 (show zM53.2.2.2.2.2[20]? = some (30, 3, .invokevirtual 62, [0, 39, 2, 2]) from rfl) zm39 (hl.lt (a := 81) (by decide)) (hl.T (a := 81) (p := (2, 3)) 3 rfl rfl) rfl (show aCr 2 81 [.ref (84 + 2 * jN x2), .int (x2 - 1), .ref 81] 3 = some ([some (.ref 81), some (.int (x2 - 1)), some (.ref (84 + 2 * jN x2))], []) from rfl)) hq8 ?_
      have hr11 : aK s10 (84 + 2 * jN x2) 1 := hq8.2.1.k hr7
      refine Q.run zm53 2 (i' := 8) (ls' := [some (.ref 81), some (.int x1), some (.int (x2 + 1))]) (st' := []) rfl ?_
      exact ih hq8.1  h
def dm53 (x1 : Int32) (s : aS) : Option (aS) :=
  bu (dm40 x1 s) fun r3 =>
  if r3 = 0 then
    some s
  else
    dm53_8 5000 (x1 + 1) s
set_option maxRecDepth 100000 in
theorem dt53 {sio : Bool} {tt : Nat} {cc : Nat → Nat → Int32} {d : Nat} (hd : 8 ≤ d) {x1 : Int32} {s : aS} (hl : Ly tt cc s) {o : aS} (h : dm53  x1 s = some o) : Q 1 sio tt cc d 53 0 [some (.ref 81), some (.int x1), none] [] s (.inl none, o) := by
  unfold dm53 at h
  obtain ⟨d, rfl⟩ : ∃ e, d = e + 1 := ⟨d - 1, by omega⟩
  refine Q.run zm53 2 (i' := 2) (ls' := [some (.ref 81), some (.int x1), none]) (st' := [.int x1, .ref 81]) rfl ?_
  obtain ⟨r3, hc2, h⟩ := bu_so h
  have hq1 : Q 1 sio tt cc d 40 0 [some (.ref 81), some (.int x1)] [] s (.inl (some (.int r3)), s) := dt40 (by omega) hl  hc2
  refine Q.callI (gC_vi zm53 (show zM53.2.2.2.2.2[2]? = some (2, 3, .invokevirtual 28, [0, 40, 1, 2]) from rfl) zm40 (hl.lt (a := 81) (by decide)) (hl.T (a := 81) (p := (2, 3)) 3 rfl rfl) rfl (show aCr 1 81 [.int x1, .ref 81] 2 = some ([some (.ref 81), some (.int x1)], []) from rfl)) hq1 ?_
  by_cases hc4 : r3 = 0
  · rw [if_pos hc4] at h
    refine Q.map (A.zT (gI_of zm53 (e := (5, 3, .ifCond .eq 44, [29])) rfl) (decide_eq_true hc4)) ?_
    cases h
    exact Q.ret (A.rv zm53 (show zM53.2.2.2.2.2[29]? = some (49, 1, .return_, []) from rfl) rfl) hl
  · rw [if_neg hc4] at h
    refine Q.map (A.zF (gI_of zm53 (e := (5, 3, .ifCond .eq 44, [29])) rfl) (fun q => hc4 (of_decide_eq_true q))) ?_
    refine Q.run zm53 4 (i' := 8) (ls' := [some (.ref 81), some (.int x1), some (.int (x1 + 1))]) (st' := []) rfl ?_
    exact dt53_8 hd _ hl  h
/-! 55 FormulaTrees.isPlace(I)Z -/
set_option maxRecDepth 100000 in
theorem zm55 : zP[55]? = some zM55 := rfl
def dm55 (x0 : Int32) : Option (Int32) :=
  if x0 < 0 then
    some 0
  else
    if 8 ≤ x0 then
      some 0
    else
      some 1
set_option maxRecDepth 100000 in
theorem dt55 {sio : Bool} {tt : Nat} {cc : Nat → Nat → Int32} {d : Nat} (hd : 0 ≤ d) {x0 : Int32} {s : aS} (hl : Ly tt cc s) {o : Int32} (h : dm55  x0 = some o) : Q 1 sio tt cc d 55 0 [some (.int x0)] [] s (.inl (some (.int o)), s) := by
  unfold dm55 at h
  refine Q.run zm55 1 (i' := 1) (ls' := [some (.int x0)]) (st' := [.int x0]) rfl ?_
  by_cases hc1 : x0 < 0
  · rw [if_pos hc1] at h
    refine Q.map (A.zT (gI_of zm55 (e := (1, 3, .ifCond .lt 13, [7])) rfl) (decide_eq_true hc1)) ?_
    refine Q.run zm55 1 (i' := 8) (ls' := [some (.int x0)]) (st' := [.int 0]) rfl ?_
    cases h
    exact Q.ret (A.ri zm55 (show zM55.2.2.2.2.2[8]? = some (15, 1, .ireturn, []) from rfl) rfl rfl) hl
  · rw [if_neg hc1] at h
    refine Q.map (A.zF (gI_of zm55 (e := (1, 3, .ifCond .lt 13, [7])) rfl) (fun q => hc1 (of_decide_eq_true q))) ?_
    refine Q.run zm55 2 (i' := 4) (ls' := [some (.int x0)]) (st' := [.int 8, .int x0]) rfl ?_
    by_cases hc2 : 8 ≤ x0
    · rw [if_pos hc2] at h
      refine Q.map (A.bT (gI_of zm55 (e := (7, 3, .if_icmp .ge 7, [7])) rfl) (decide_eq_true hc2)) ?_
      refine Q.run zm55 1 (i' := 8) (ls' := [some (.int x0)]) (st' := [.int 0]) rfl ?_
      cases h
      exact Q.ret (A.ri zm55 (show zM55.2.2.2.2.2[8]? = some (15, 1, .ireturn, []) from rfl) rfl rfl) hl
    · rw [if_neg hc2] at h
      refine Q.map (A.bF (gI_of zm55 (e := (7, 3, .if_icmp .ge 7, [7])) rfl) (fun q => hc2 (of_decide_eq_true q))) ?_
      refine Q.run zm55 2 (i' := 8) (ls' := [some (.int x0)]) (st' := [.int 1]) rfl ?_
      cases h
      exact Q.ret (A.ri zm55 (show zM55.2.2.2.2.2[8]? = some (15, 1, .ireturn, []) from rfl) rfl rfl) hl
/-! 54 FormulaTrees.treeOf(I)LFormulaTrees$Tree; -/
set_option maxRecDepth 100000 in
theorem zm54 : zP[54]? = some zM54 := rfl
def dm54 (x1 : Int32) (s : aS) : Option (Value) :=
  bu (dm55 x1) fun r3 =>
  if r3 = 0 then
    some (.null)
  else
    if aB x1 8 then
      if (sI s 101 (jN x1)) = (-1) then
        some (.null)
      else
        if aB x1 8 then
          vN (sR s 100 (jN x1)) (
            some (.null)
          ) fun b9 =>
            if aK s b9 3 then
              some (.ref b9)
            else none
        else none
    else none
set_option maxRecDepth 100000 in
theorem dt54 {sio : Bool} {tt : Nat} {cc : Nat → Nat → Int32} {d : Nat} (hd : 1 ≤ d) {x1 : Int32} {s : aS} (hl : Ly tt cc s) {o : Value} (h : dm54  x1 s = some o) : Q 1 sio tt cc d 54 0 [some (.ref 78), some (.int x1)] [] s (.inl (some o), s) := by
  unfold dm54 at h
  obtain ⟨d, rfl⟩ : ∃ e, d = e + 1 := ⟨d - 1, by omega⟩
  refine Q.run zm54 1 (i' := 1) (ls' := [some (.ref 78), some (.int x1)]) (st' := [.int x1]) rfl ?_
  obtain ⟨r3, hc2, h⟩ := bu_so h
  have hq1 : Q 1 sio tt cc d 55 0 [some (.int x1)] [] s (.inl (some (.int r3)), s) := dt55 (by omega) hl  hc2
  refine Q.callI (gC_st zm54 (show zM54.2.2.2.2.2[1]? = some (1, 3, .invokestatic 125, [0, 55, 1]) from rfl) zm55 (show aC 1 [.int x1] 1 = some ([some (.int x1)], []) from rfl)) hq1 ?_
  by_cases hc4 : r3 = 0
  · rw [if_pos hc4] at h
    refine Q.map (A.zT (gI_of zm54 (e := (4, 3, .ifCond .eq 22, [14])) rfl) (decide_eq_true hc4)) ?_
    refine Q.run zm54 1 (i' := 15) (ls' := [some (.ref 78), some (.int x1)]) (st' := [.null]) rfl ?_
    cases h
    exact Q.ret (A.ra zm54 (show zM54.2.2.2.2.2[15]? = some (27, 1, .areturn, []) from rfl) rfl rfl rfl) hl
  · rw [if_neg hc4] at h
    refine Q.map (A.zF (gI_of zm54 (e := (4, 3, .ifCond .eq 22, [14])) rfl) (fun q => hc4 (of_decide_eq_true q))) ?_
    refine Q.run zm54 1 (i' := 4) (ls' := [some (.ref 78), some (.int x1)]) (st' := [.ref 78]) rfl ?_
    refine Q.map (A.gf (gI_of zm54 (e := (8, 3, .getfield 31, [0, 3])) rfl) (hl.lt (a := 78) (by decide)) (hl.T (a := 78) (p := (0, 7)) 0 rfl rfl) (by decide) (hl.R 3 rfl)) ?_
    refine Q.run zm54 1 (i' := 6) (ls' := [some (.ref 78), some (.int x1)]) (st' := [.int x1, .ref 101]) rfl ?_
    obtain ⟨hc5, h⟩ := ite_so h
    refine Q.map (A.ia (gI_of zm54 (e := (12, 1, .iaload, [])) rfl) (hl.lt (a := 101) (by decide)) (hl.T (a := 101) (p := (100, 8)) 23 rfl rfl) hc5) ?_
    refine Q.run zm54 1 (i' := 8) (ls' := [some (.ref 78), some (.int x1)]) (st' := [.int (-1), .int (sI s 101 (jN x1))]) rfl ?_
    by_cases hc6 : (sI s 101 (jN x1)) = (-1)
    · rw [if_pos hc6] at h
      refine Q.map (A.bT (gI_of zm54 (e := (14, 3, .if_icmp .eq 12, [14])) rfl) (decide_eq_true hc6)) ?_
      refine Q.run zm54 1 (i' := 15) (ls' := [some (.ref 78), some (.int x1)]) (st' := [.null]) rfl ?_
      cases h
      exact Q.ret (A.ra zm54 (show zM54.2.2.2.2.2[15]? = some (27, 1, .areturn, []) from rfl) rfl rfl rfl) hl
    · rw [if_neg hc6] at h
      refine Q.map (A.bF (gI_of zm54 (e := (14, 3, .if_icmp .eq 12, [14])) rfl) (fun q => hc6 (of_decide_eq_true q))) ?_
      refine Q.run zm54 1 (i' := 10) (ls' := [some (.ref 78), some (.int x1)]) (st' := [.ref 78]) rfl ?_
      refine Q.map (A.gf (gI_of zm54 (e := (18, 3, .getfield 27, [0, 2])) rfl) (hl.lt (a := 78) (by decide)) (hl.T (a := 78) (p := (0, 7)) 0 rfl rfl) (by decide) (hl.R 2 rfl)) ?_
      refine Q.run zm54 1 (i' := 12) (ls' := [some (.ref 78), some (.int x1)]) (st' := [.int x1, .ref 100]) rfl ?_
      obtain ⟨hc7, h⟩ := ite_so h
      rcases vN_so h with ⟨hv8, h⟩ | ⟨b9, hv8, h⟩
      · refine Q.map (A.aa (gI_of zm54 (e := (22, 1, .aaload, [])) rfl) (hl.lt (a := 100) (by decide)) (hl.T (a := 100) (p := (113, 8)) 22 rfl rfl) (by decide) hc7 hv8) ?_
        refine Q.run zm54 1 (i' := 15) (ls' := [some (.ref 78), some (.int x1)]) (st' := [.null]) rfl ?_
        cases h
        exact Q.ret (A.ra zm54 (show zM54.2.2.2.2.2[15]? = some (27, 1, .areturn, []) from rfl) rfl rfl rfl) hl
      · obtain ⟨hr10, h⟩ := ite_so h
        refine Q.map (A.aa (gI_of zm54 (e := (22, 1, .aaload, [])) rfl) (hl.lt (a := 100) (by decide)) (hl.T (a := 100) (p := (113, 8)) 22 rfl rfl) (by decide) hc7 hv8) ?_
        refine Q.run zm54 1 (i' := 15) (ls' := [some (.ref 78), some (.int x1)]) (st' := [.ref b9]) rfl ?_
        cases h
        exact Q.ret (A.ra zm54 (show zM54.2.2.2.2.2[15]? = some (27, 1, .areturn, []) from rfl) rfl rfl rfl) hl
/-! 57 FormulaTrees$Tree.fact(II)I -/
set_option maxRecDepth 100000 in
theorem zm57 : zP[57]? = some zM57 := rfl
def dm57_14 (b0 : Nat) (x1 : Int32) (x2 : Int32) (y0 : Int32) (s : aS) : Option (Int32) :=
  if y0 = 0 then
    some (-1)
  else
    if aB ((x1 * 11) + x2) 1408 then
      some (sI s (b0 + 1) (jN ((x1 * 11) + x2)))
    else none
set_option maxRecDepth 100000 in
theorem dt57_14 {sio : Bool} {tt : Nat} {cc : Nat → Nat → Int32} {d : Nat} (hd : 0 ≤ d) {b0 : Nat} {x1 : Int32} {x2 : Int32} {y0 : Int32} {s : aS} (hl : Ly tt cc s) (hk_b0 : aK s b0 3) {o : Int32} (h : dm57_14  b0 x1 x2 y0 s = some o) : Q 1 sio tt cc d 57 14 [some (.ref b0), some (.int x1), some (.int x2), none] [.int y0] s (.inl (some (.int o)), s) := by
  unfold dm57_14 at h
  refine Q.run zm57 2 (i' := 16) (ls' := [some (.ref b0), some (.int x1), some (.int x2), some (.int y0)]) (st' := [.int y0]) rfl ?_
  by_cases hc1 : y0 = 0
  · rw [if_pos hc1] at h
    refine Q.map (A.zT (gI_of zm57 (e := (29, 3, .ifCond .eq 17, [26])) rfl) (decide_eq_true hc1)) ?_
    refine Q.run zm57 1 (i' := 27) (ls' := [some (.ref b0), some (.int x1), some (.int x2), some (.int y0)]) (st' := [.int (-1)]) rfl ?_
    cases h
    exact Q.ret (A.ri zm57 (show zM57.2.2.2.2.2[27]? = some (47, 1, .ireturn, []) from rfl) rfl rfl) hl
  · rw [if_neg hc1] at h
    refine Q.map (A.zF (gI_of zm57 (e := (29, 3, .ifCond .eq 17, [26])) rfl) (fun q => hc1 (of_decide_eq_true q))) ?_
    refine Q.run zm57 1 (i' := 18) (ls' := [some (.ref b0), some (.int x1), some (.int x2), some (.int y0)]) (st' := [.ref b0]) rfl ?_
    refine Q.map (A.gf (gI_of zm57 (e := (33, 3, .getfield 9, [3, 0])) rfl) hk_b0.1 (hl.tr hk_b0).1 (by decide) (hl.tr hk_b0).2.1) ?_
    refine Q.run zm57 5 (i' := 24) (ls' := [some (.ref b0), some (.int x1), some (.int x2), some (.int y0)]) (st' := [.int ((x1 * 11) + x2), .ref (b0 + 1)]) rfl ?_
    obtain ⟨hc2, h⟩ := ite_so h
    refine Q.map (A.ia (gI_of zm57 (e := (42, 1, .iaload, [])) rfl) (by have := (hl.tr hk_b0).2.2.2.1; omega) (hl.tr hk_b0).2.2.2.2.1 hc2) ?_
    refine Q.run zm57 1 (i' := 27) (ls' := [some (.ref b0), some (.int x1), some (.int x2), some (.int y0)]) (st' := [.int (sI s (b0 + 1) (jN ((x1 * 11) + x2)))]) rfl ?_
    cases h
    exact Q.ret (A.ri zm57 (show zM57.2.2.2.2.2[27]? = some (47, 1, .ireturn, []) from rfl) rfl rfl) hl
def dm57_13 (b0 : Nat) (x1 : Int32) (x2 : Int32) (s : aS) : Option (Int32) :=
  dm57_14 b0 x1 x2 0 s
set_option maxRecDepth 100000 in
theorem dt57_13 {sio : Bool} {tt : Nat} {cc : Nat → Nat → Int32} {d : Nat} (hd : 0 ≤ d) {b0 : Nat} {x1 : Int32} {x2 : Int32} {s : aS} (hl : Ly tt cc s) (hk_b0 : aK s b0 3) {o : Int32} (h : dm57_13  b0 x1 x2 s = some o) : Q 1 sio tt cc d 57 13 [some (.ref b0), some (.int x1), some (.int x2), none] [] s (.inl (some (.int o)), s) := by
  unfold dm57_13 at h
  refine Q.run zm57 1 (i' := 14) (ls' := [some (.ref b0), some (.int x1), some (.int x2), none]) (st' := [.int 0]) rfl ?_
  exact dt57_14 hd hl hk_b0 h
def dm57 (b0 : Nat) (x1 : Int32) (x2 : Int32) (s : aS) : Option (Int32) :=
  if x1 < 0 then
    dm57_13 b0 x1 x2 s
  else
    if (sI s b0 2) ≤ x1 then
      dm57_13 b0 x1 x2 s
    else
      if x2 < 0 then
        dm57_13 b0 x1 x2 s
      else
        if 11 ≤ x2 then
          dm57_13 b0 x1 x2 s
        else
          dm57_14 b0 x1 x2 1 s
set_option maxRecDepth 100000 in
theorem dt57 {sio : Bool} {tt : Nat} {cc : Nat → Nat → Int32} {d : Nat} (hd : 0 ≤ d) {b0 : Nat} {x1 : Int32} {x2 : Int32} {s : aS} (hl : Ly tt cc s) (hk_b0 : aK s b0 3) {o : Int32} (h : dm57  b0 x1 x2 s = some o) : Q 1 sio tt cc d 57 0 [some (.ref b0), some (.int x1), some (.int x2), none] [] s (.inl (some (.int o)), s) := by
  unfold dm57 at h
  refine Q.run zm57 1 (i' := 1) (ls' := [some (.ref b0), some (.int x1), some (.int x2), none]) (st' := [.int x1]) rfl ?_
  by_cases hc1 : x1 < 0
  · rw [if_pos hc1] at h
    refine Q.map (A.zT (gI_of zm57 (e := (1, 3, .ifCond .lt 25, [13])) rfl) (decide_eq_true hc1)) ?_
    exact dt57_13 hd hl hk_b0 h
  · rw [if_neg hc1] at h
    refine Q.map (A.zF (gI_of zm57 (e := (1, 3, .ifCond .lt 25, [13])) rfl) (fun q => hc1 (of_decide_eq_true q))) ?_
    refine Q.run zm57 2 (i' := 4) (ls' := [some (.ref b0), some (.int x1), some (.int x2), none]) (st' := [.ref b0, .int x1]) rfl ?_
    refine Q.map (A.gf (gI_of zm57 (e := (6, 3, .getfield 24, [3, 2])) rfl) hk_b0.1 (hl.tr hk_b0).1 (by decide) rfl) ?_
    by_cases hc2 : (sI s b0 2) ≤ x1
    · rw [if_pos hc2] at h
      refine Q.map (A.bT (gI_of zm57 (e := (9, 3, .if_icmp .ge 17, [13])) rfl) (decide_eq_true hc2)) ?_
      exact dt57_13 hd hl hk_b0 h
    · rw [if_neg hc2] at h
      refine Q.map (A.bF (gI_of zm57 (e := (9, 3, .if_icmp .ge 17, [13])) rfl) (fun q => hc2 (of_decide_eq_true q))) ?_
      refine Q.run zm57 1 (i' := 7) (ls' := [some (.ref b0), some (.int x1), some (.int x2), none]) (st' := [.int x2]) rfl ?_
      by_cases hc3 : x2 < 0
      · rw [if_pos hc3] at h
        refine Q.map (A.zT (gI_of zm57 (e := (13, 3, .ifCond .lt 13, [13])) rfl) (decide_eq_true hc3)) ?_
        exact dt57_13 hd hl hk_b0 h
      · rw [if_neg hc3] at h
        refine Q.map (A.zF (gI_of zm57 (e := (13, 3, .ifCond .lt 13, [13])) rfl) (fun q => hc3 (of_decide_eq_true q))) ?_
        refine Q.run zm57 2 (i' := 10) (ls' := [some (.ref b0), some (.int x1), some (.int x2), none]) (st' := [.int 11, .int x2]) rfl ?_
        by_cases hc4 : 11 ≤ x2
        · rw [if_pos hc4] at h
          refine Q.map (A.bT (gI_of zm57 (e := (19, 3, .if_icmp .ge 7, [13])) rfl) (decide_eq_true hc4)) ?_
          exact dt57_13 hd hl hk_b0 h
        · rw [if_neg hc4] at h
          refine Q.map (A.bF (gI_of zm57 (e := (19, 3, .if_icmp .ge 7, [13])) rfl) (fun q => hc4 (of_decide_eq_true q))) ?_
          refine Q.run zm57 2 (i' := 14) (ls' := [some (.ref b0), some (.int x1), some (.int x2), none]) (st' := [.int 1]) rfl ?_
          exact dt57_14 hd hl hk_b0 h
/-! 59 FormulaTrees$Tree.makePlain(III)V -/
set_option maxRecDepth 100000 in
theorem zm59 : zP[59]? = some zM59 := rfl
def dm59_13 : Nat → Nat → Int32 → Int32 → Int32 → Int32 → aS → Option (aS)
  | 0, _, _, _, _, _, _ => none
  | n + 1, b0, x2, x3, x4, x5, s =>
    if 11 ≤ x5 then
      if aB (x4 + 0) 1408 then
        nx (wI s (b0 + 1) (jN (x4 + 0)) x2) fun s3 =>
        if aB (x4 + 1) 1408 then
          nx (wI s3 (b0 + 1) (jN (x4 + 1)) x3) fun s8 =>
          if aB (x4 + 2) 1408 then
            nx (wI s8 (b0 + 1) (jN (x4 + 2)) (-1)) fun s13 =>
            some s13
          else none
        else none
      else none
    else
      if aB (x4 + x5) 1408 then
        nx (wI s (b0 + 1) (jN (x4 + x5)) 0) fun s18 =>
        dm59_13 n b0 x2 x3 x4 (x5 + 1) s18
      else none
set_option maxRecDepth 100000 in
theorem dt59_13 {sio : Bool} {tt : Nat} {cc : Nat → Nat → Int32} {d : Nat} (hd : 0 ≤ d) : ∀ (n : Nat) {b0 : Nat} {x2 : Int32} {x3 : Int32} {x4 : Int32} {x5 : Int32} {x1 : Int32} {s : aS} (_ : Ly tt cc s) (_ : aK s b0 3) {o : aS} (_ : dm59_13  n b0 x2 x3 x4 x5 s = some o), Q 1 sio tt cc d 59 13 [some (.ref b0), some (.int x1), some (.int x2), some (.int x3), some (.int x4), some (.int x5)] [] s (.inl none, o) := by
  intro n
  induction n with
  | zero => intro b0 x2 x3 x4 x5 x1 s hl hk_b0 o h; rw [dm59_13] at h; cases h
  | succ n ih =>
    intro b0 x2 x3 x4 x5 x1 s hl hk_b0 o h
    rw [dm59_13] at h
    refine Q.run zm59 2 (i' := 15) (ls' := [some (.ref b0), some (.int x1), some (.int x2), some (.int x3), some (.int x4), some (.int x5)]) (st' := [.int 11, .int x5]) rfl ?_
    by_cases hc1 : 11 ≤ x5
    · rw [if_pos hc1] at h
      refine Q.map (A.bT (gI_of zm59 (e := (26, 3, .if_icmp .ge 20, [25])) rfl) (decide_eq_true hc1)) ?_
      refine Q.run zm59 1 (i' := 26) (ls' := [some (.ref b0), some (.int x1), some (.int x2), some (.int x3), some (.int x4), some (.int x5)]) (st' := [.ref b0]) rfl ?_
      refine Q.map (A.gf (gI_of zm59 (e := (47, 3, .getfield 9, [3, 0])) rfl) hk_b0.1 (hl.tr hk_b0).1 (by decide) (hl.tr hk_b0).2.1) ?_
      refine Q.run zm59 4 (i' := 31) (ls' := [some (.ref b0), some (.int x1), some (.int x2), some (.int x3), some (.int x4), some (.int x5)]) (st' := [.int x2, .int (x4 + 0), .ref (b0 + 1)]) rfl ?_
      obtain ⟨hc2, h⟩ := ite_so h
      obtain ⟨s3, hs4, h⟩ := nx_so h
      refine Q.is hs4 (hl.g3a hk_b0) (gI_of zm59 (e := (55, 1, .iastore, [])) rfl) (by have := (hl.tr hk_b0).2.2.2.1; omega) (by have := (hl.tr hk_b0).2.2.2.2.2.2.2; omega) (hl.tr hk_b0).2.2.2.2.1 hc2 ?_
      have hl5 : Ly tt cc s3 := by rw [hs4]; exact hl.wId (by have := (hl.tr hk_b0).2.2.2.2.2.2.2; omega)
      have hr6 : aK s3 b0 3 := by rw [hs4]; exact hk_b0
      refine Q.run zm59 1 (i' := 33) (ls' := [some (.ref b0), some (.int x1), some (.int x2), some (.int x3), some (.int x4), some (.int x5)]) (st' := [.ref b0]) rfl ?_
      refine Q.map (A.gf (gI_of zm59 (e := (57, 3, .getfield 9, [3, 0])) rfl) hr6.1 (hl5.tr hr6).1 (by decide) (hl5.tr hr6).2.1) ?_
      refine Q.run zm59 4 (i' := 38) (ls' := [some (.ref b0), some (.int x1), some (.int x2), some (.int x3), some (.int x4), some (.int x5)]) (st' := [.int x3, .int (x4 + 1), .ref (b0 + 1)]) rfl ?_
      obtain ⟨hc7, h⟩ := ite_so h
      obtain ⟨s8, hs9, h⟩ := nx_so h
      refine Q.is hs9 (hl5.g3a hr6) (gI_of zm59 (e := (65, 1, .iastore, [])) rfl) (by have := (hl5.tr hr6).2.2.2.1; omega) (by have := (hl5.tr hr6).2.2.2.2.2.2.2; omega) (hl5.tr hr6).2.2.2.2.1 hc7 ?_
      have hl10 : Ly tt cc s8 := by rw [hs9]; exact hl5.wId (by have := (hl5.tr hr6).2.2.2.2.2.2.2; omega)
      have hr11 : aK s8 b0 3 := by rw [hs9]; exact hr6
      refine Q.run zm59 1 (i' := 40) (ls' := [some (.ref b0), some (.int x1), some (.int x2), some (.int x3), some (.int x4), some (.int x5)]) (st' := [.ref b0]) rfl ?_
      refine Q.map (A.gf (gI_of zm59 (e := (67, 3, .getfield 9, [3, 0])) rfl) hr11.1 (hl10.tr hr11).1 (by decide) (hl10.tr hr11).2.1) ?_
      refine Q.run zm59 4 (i' := 45) (ls' := [some (.ref b0), some (.int x1), some (.int x2), some (.int x3), some (.int x4), some (.int x5)]) (st' := [.int (-1), .int (x4 + 2), .ref (b0 + 1)]) rfl ?_
      obtain ⟨hc12, h⟩ := ite_so h
      obtain ⟨s13, hs14, h⟩ := nx_so h
      refine Q.is hs14 (hl10.g3a hr11) (gI_of zm59 (e := (75, 1, .iastore, [])) rfl) (by have := (hl10.tr hr11).2.2.2.1; omega) (by have := (hl10.tr hr11).2.2.2.2.2.2.2; omega) (hl10.tr hr11).2.2.2.2.1 hc12 ?_
      have hl15 : Ly tt cc s13 := by rw [hs14]; exact hl10.wId (by have := (hl10.tr hr11).2.2.2.2.2.2.2; omega)
      have hr16 : aK s13 b0 3 := by rw [hs14]; exact hr11
      cases h
      exact Q.ret (A.rv zm59 (show zM59.2.2.2.2.2[46]? = some (76, 1, .return_, []) from rfl) rfl) hl15
    · rw [if_neg hc1] at h
      refine Q.map (A.bF (gI_of zm59 (e := (26, 3, .if_icmp .ge 20, [25])) rfl) (fun q => hc1 (of_decide_eq_true q))) ?_
      refine Q.run zm59 1 (i' := 17) (ls' := [some (.ref b0), some (.int x1), some (.int x2), some (.int x3), some (.int x4), some (.int x5)]) (st' := [.ref b0]) rfl ?_
      refine Q.map (A.gf (gI_of zm59 (e := (30, 3, .getfield 9, [3, 0])) rfl) hk_b0.1 (hl.tr hk_b0).1 (by decide) (hl.tr hk_b0).2.1) ?_
      refine Q.run zm59 4 (i' := 22) (ls' := [some (.ref b0), some (.int x1), some (.int x2), some (.int x3), some (.int x4), some (.int x5)]) (st' := [.int 0, .int (x4 + x5), .ref (b0 + 1)]) rfl ?_
      obtain ⟨hc17, h⟩ := ite_so h
      obtain ⟨s18, hs19, h⟩ := nx_so h
      refine Q.is hs19 (hl.g3a hk_b0) (gI_of zm59 (e := (39, 1, .iastore, [])) rfl) (by have := (hl.tr hk_b0).2.2.2.1; omega) (by have := (hl.tr hk_b0).2.2.2.2.2.2.2; omega) (hl.tr hk_b0).2.2.2.2.1 hc17 ?_
      have hl20 : Ly tt cc s18 := by rw [hs19]; exact hl.wId (by have := (hl.tr hk_b0).2.2.2.2.2.2.2; omega)
      have hr21 : aK s18 b0 3 := by rw [hs19]; exact hk_b0
      refine Q.run zm59 2 (i' := 13) (ls' := [some (.ref b0), some (.int x1), some (.int x2), some (.int x3), some (.int x4), some (.int (x5 + 1))]) (st' := []) rfl ?_
      exact ih hl20 hr21 h
def dm59 (b0 : Nat) (x1 : Int32) (x2 : Int32) (x3 : Int32) (s : aS) : Option (aS) :=
  if x1 < 0 then
    some s
  else
    if x1 < (sI s b0 2) then
      dm59_13 5000 b0 x2 x3 (x1 * 11) 0 s
    else
      some s
set_option maxRecDepth 100000 in
theorem dt59 {sio : Bool} {tt : Nat} {cc : Nat → Nat → Int32} {d : Nat} (hd : 0 ≤ d) {b0 : Nat} {x1 : Int32} {x2 : Int32} {x3 : Int32} {s : aS} (hl : Ly tt cc s) (hk_b0 : aK s b0 3) {o : aS} (h : dm59  b0 x1 x2 x3 s = some o) : Q 1 sio tt cc d 59 0 [some (.ref b0), some (.int x1), some (.int x2), some (.int x3), none, none] [] s (.inl none, o) := by
  unfold dm59 at h
  refine Q.run zm59 1 (i' := 1) (ls' := [some (.ref b0), some (.int x1), some (.int x2), some (.int x3), none, none]) (st' := [.int x1]) rfl ?_
  by_cases hc1 : x1 < 0
  · rw [if_pos hc1] at h
    refine Q.map (A.zT (gI_of zm59 (e := (1, 3, .ifCond .lt 11, [6])) rfl) (decide_eq_true hc1)) ?_
    cases h
    exact Q.ret (A.rv zm59 (show zM59.2.2.2.2.2[6]? = some (12, 1, .return_, []) from rfl) rfl) hl
  · rw [if_neg hc1] at h
    refine Q.map (A.zF (gI_of zm59 (e := (1, 3, .ifCond .lt 11, [6])) rfl) (fun q => hc1 (of_decide_eq_true q))) ?_
    refine Q.run zm59 2 (i' := 4) (ls' := [some (.ref b0), some (.int x1), some (.int x2), some (.int x3), none, none]) (st' := [.ref b0, .int x1]) rfl ?_
    refine Q.map (A.gf (gI_of zm59 (e := (6, 3, .getfield 24, [3, 2])) rfl) hk_b0.1 (hl.tr hk_b0).1 (by decide) rfl) ?_
    by_cases hc2 : x1 < (sI s b0 2)
    · rw [if_pos hc2] at h
      refine Q.map (A.bT (gI_of zm59 (e := (9, 3, .if_icmp .lt 4, [7])) rfl) (decide_eq_true hc2)) ?_
      refine Q.run zm59 6 (i' := 13) (ls' := [some (.ref b0), some (.int x1), some (.int x2), some (.int x3), some (.int (x1 * 11)), some (.int 0)]) (st' := []) rfl ?_
      exact dt59_13 hd _ hl hk_b0 h
    · rw [if_neg hc2] at h
      refine Q.map (A.bF (gI_of zm59 (e := (9, 3, .if_icmp .lt 4, [7])) rfl) (fun q => hc2 (of_decide_eq_true q))) ?_
      cases h
      exact Q.ret (A.rv zm59 (show zM59.2.2.2.2.2[6]? = some (12, 1, .return_, []) from rfl) rfl) hl
/-! 60 FormulaTrees$Tree.put(III)V -/
set_option maxRecDepth 100000 in
theorem zm60 : zP[60]? = some zM60 := rfl
def dm60 (b0 : Nat) (x1 : Int32) (x2 : Int32) (x3 : Int32) (s : aS) : Option (aS) :=
  if x1 < 0 then
    some s
  else
    if (sI s b0 2) ≤ x1 then
      some s
    else
      if x2 < 0 then
        some s
      else
        if 11 ≤ x2 then
          some s
        else
          if aB ((x1 * 11) + x2) 1408 then
            nx (wI s (b0 + 1) (jN ((x1 * 11) + x2)) x3) fun s6 =>
            some s6
          else none
set_option maxRecDepth 100000 in
theorem dt60 {sio : Bool} {tt : Nat} {cc : Nat → Nat → Int32} {d : Nat} (hd : 0 ≤ d) {b0 : Nat} {x1 : Int32} {x2 : Int32} {x3 : Int32} {s : aS} (hl : Ly tt cc s) (hk_b0 : aK s b0 3) {o : aS} (h : dm60  b0 x1 x2 x3 s = some o) : Q 1 sio tt cc d 60 0 [some (.ref b0), some (.int x1), some (.int x2), some (.int x3)] [] s (.inl none, o) := by
  unfold dm60 at h
  refine Q.run zm60 1 (i' := 1) (ls' := [some (.ref b0), some (.int x1), some (.int x2), some (.int x3)]) (st' := [.int x1]) rfl ?_
  by_cases hc1 : x1 < 0
  · rw [if_pos hc1] at h
    refine Q.map (A.zT (gI_of zm60 (e := (1, 3, .ifCond .lt 33, [20])) rfl) (decide_eq_true hc1)) ?_
    cases h
    exact Q.ret (A.rv zm60 (show zM60.2.2.2.2.2[20]? = some (34, 1, .return_, []) from rfl) rfl) hl
  · rw [if_neg hc1] at h
    refine Q.map (A.zF (gI_of zm60 (e := (1, 3, .ifCond .lt 33, [20])) rfl) (fun q => hc1 (of_decide_eq_true q))) ?_
    refine Q.run zm60 2 (i' := 4) (ls' := [some (.ref b0), some (.int x1), some (.int x2), some (.int x3)]) (st' := [.ref b0, .int x1]) rfl ?_
    refine Q.map (A.gf (gI_of zm60 (e := (6, 3, .getfield 24, [3, 2])) rfl) hk_b0.1 (hl.tr hk_b0).1 (by decide) rfl) ?_
    by_cases hc2 : (sI s b0 2) ≤ x1
    · rw [if_pos hc2] at h
      refine Q.map (A.bT (gI_of zm60 (e := (9, 3, .if_icmp .ge 25, [20])) rfl) (decide_eq_true hc2)) ?_
      cases h
      exact Q.ret (A.rv zm60 (show zM60.2.2.2.2.2[20]? = some (34, 1, .return_, []) from rfl) rfl) hl
    · rw [if_neg hc2] at h
      refine Q.map (A.bF (gI_of zm60 (e := (9, 3, .if_icmp .ge 25, [20])) rfl) (fun q => hc2 (of_decide_eq_true q))) ?_
      refine Q.run zm60 1 (i' := 7) (ls' := [some (.ref b0), some (.int x1), some (.int x2), some (.int x3)]) (st' := [.int x2]) rfl ?_
      by_cases hc3 : x2 < 0
      · rw [if_pos hc3] at h
        refine Q.map (A.zT (gI_of zm60 (e := (13, 3, .ifCond .lt 21, [20])) rfl) (decide_eq_true hc3)) ?_
        cases h
        exact Q.ret (A.rv zm60 (show zM60.2.2.2.2.2[20]? = some (34, 1, .return_, []) from rfl) rfl) hl
      · rw [if_neg hc3] at h
        refine Q.map (A.zF (gI_of zm60 (e := (13, 3, .ifCond .lt 21, [20])) rfl) (fun q => hc3 (of_decide_eq_true q))) ?_
        refine Q.run zm60 2 (i' := 10) (ls' := [some (.ref b0), some (.int x1), some (.int x2), some (.int x3)]) (st' := [.int 11, .int x2]) rfl ?_
        by_cases hc4 : 11 ≤ x2
        · rw [if_pos hc4] at h
          refine Q.map (A.bT (gI_of zm60 (e := (19, 3, .if_icmp .ge 15, [20])) rfl) (decide_eq_true hc4)) ?_
          cases h
          exact Q.ret (A.rv zm60 (show zM60.2.2.2.2.2[20]? = some (34, 1, .return_, []) from rfl) rfl) hl
        · rw [if_neg hc4] at h
          refine Q.map (A.bF (gI_of zm60 (e := (19, 3, .if_icmp .ge 15, [20])) rfl) (fun q => hc4 (of_decide_eq_true q))) ?_
          refine Q.run zm60 1 (i' := 12) (ls' := [some (.ref b0), some (.int x1), some (.int x2), some (.int x3)]) (st' := [.ref b0]) rfl ?_
          refine Q.map (A.gf (gI_of zm60 (e := (23, 3, .getfield 9, [3, 0])) rfl) hk_b0.1 (hl.tr hk_b0).1 (by decide) (hl.tr hk_b0).2.1) ?_
          refine Q.run zm60 6 (i' := 19) (ls' := [some (.ref b0), some (.int x1), some (.int x2), some (.int x3)]) (st' := [.int x3, .int ((x1 * 11) + x2), .ref (b0 + 1)]) rfl ?_
          obtain ⟨hc5, h⟩ := ite_so h
          obtain ⟨s6, hs7, h⟩ := nx_so h
          refine Q.is hs7 (hl.g3a hk_b0) (gI_of zm60 (e := (33, 1, .iastore, [])) rfl) (by have := (hl.tr hk_b0).2.2.2.1; omega) (by have := (hl.tr hk_b0).2.2.2.2.2.2.2; omega) (hl.tr hk_b0).2.2.2.2.1 hc5 ?_
          have hl8 : Ly tt cc s6 := by rw [hs7]; exact hl.wId (by have := (hl.tr hk_b0).2.2.2.2.2.2.2; omega)
          have hr9 : aK s6 b0 3 := by rw [hs7]; exact hk_b0
          cases h
          exact Q.ret (A.rv zm60 (show zM60.2.2.2.2.2[20]? = some (34, 1, .return_, []) from rfl) rfl) hl8
/-! 58 FormulaTrees$Tree.lose(I)V -/
set_option maxRecDepth 100000 in
theorem zm58 : zP[58]? = some zM58 := rfl
def dm58 (b0 : Nat) (x1 : Int32) (s : aS) : Option (aS) :=
  bu (dm59 b0 x1 2 0 s) fun s3 =>
  bu (dm60 b0 x1 8 4 s3) fun s7 =>
  some s7
set_option maxRecDepth 100000 in
theorem dt58 {sio : Bool} {tt : Nat} {cc : Nat → Nat → Int32} {d : Nat} (hd : 1 ≤ d) {b0 : Nat} {x1 : Int32} {s : aS} (hl : Ly tt cc s) (hk_b0 : aK s b0 3) {o : aS} (h : dm58  b0 x1 s = some o) : Q 1 sio tt cc d 58 0 [some (.ref b0), some (.int x1)] [] s (.inl none, o) := by
  unfold dm58 at h
  obtain ⟨d, rfl⟩ : ∃ e, d = e + 1 := ⟨d - 1, by omega⟩
  refine Q.run zm58 4 (i' := 4) (ls' := [some (.ref b0), some (.int x1)]) (st' := [.int 0, .int 2, .int x1, .ref b0]) rfl ?_
  obtain ⟨s3, hc2, h⟩ := bu_so h
  have hq1 : Q 1 sio tt cc d 59 0 [some (.ref b0), some (.int x1), some (.int 2), some (.int 0), none, none] [] s (.inl none, s3) := dt59 (by omega) hl hk_b0 hc2
  refine Q.callV (gC_vi zm58 (show zM58.2.2.2.2.2[4]? = some (4, 3, .invokevirtual 43, [0, 59, 3, 3]) from rfl) zm59 hk_b0.1 (hl.tr hk_b0).1 rfl (show aCr 3 b0 [.int 0, .int 2, .int x1, .ref b0] 6 = some ([some (.ref b0), some (.int x1), some (.int 2), some (.int 0), none, none], []) from rfl)) hq1 ?_
  have hr4 : aK s3 b0 3 := hq1.2.1.k hk_b0
  refine Q.run zm58 4 (i' := 9) (ls' := [some (.ref b0), some (.int x1)]) (st' := [.int 4, .int 8, .int x1, .ref b0]) rfl ?_
  obtain ⟨s7, hc6, h⟩ := bu_so h
  have hq5 : Q 1 sio tt cc d 60 0 [some (.ref b0), some (.int x1), some (.int 8), some (.int 4)] [] s3 (.inl none, s7) := dt60 (by omega) hq1.1 hr4 hc6
  refine Q.callV (gC_vi zm58 (show zM58.2.2.2.2.2[9]? = some (12, 3, .invokevirtual 51, [0, 60, 3, 3]) from rfl) zm60 hr4.1 (hq1.1.tr hr4).1 rfl (show aCr 3 b0 [.int 4, .int 8, .int x1, .ref b0] 4 = some ([some (.ref b0), some (.int x1), some (.int 8), some (.int 4)], []) from rfl)) hq5 ?_
  have hr8 : aK s7 b0 3 := hq5.2.1.k hr4
  cases h
  exact Q.ret (A.rv zm58 (show zM58.2.2.2.2.2[10]? = some (15, 1, .return_, []) from rfl) rfl) hq5.1
/-! 56 FormulaTrees$Tree.loseSheet(I)V -/
set_option maxRecDepth 100000 in
theorem zm56 : zP[56]? = some zM56 := rfl
def dm56_28 (k2 : Nat → Int32 → Int32 → aS → Option (aS)) (b0 : Nat) (x1 : Int32) (x2 : Int32) (s : aS) : Option (aS) :=
  k2 b0 x1 (x2 + 1) s
set_option maxRecDepth 100000 in
theorem dt56_28 {sio : Bool} {tt : Nat} {cc : Nat → Nat → Int32} {d : Nat} (hd : 2 ≤ d) {k2 : Nat → Int32 → Int32 → aS → Option (aS)} (hk2 : ∀ {b0 : Nat} {x1 : Int32} {x2 : Int32} {g3 : Option Value} {s : aS}, Ly tt cc s → aK s b0 3 → ∀ {o : aS}, k2 b0 x1 x2 s = some o → Q 1 sio tt cc d 56 2 [some (.ref b0), some (.int x1), some (.int x2), g3] [] s (.inl none, o)) {b0 : Nat} {x1 : Int32} {x2 : Int32} {x3 : Int32} {s : aS} (hl : Ly tt cc s) (hk_b0 : aK s b0 3) {o : aS} (h : dm56_28 k2 b0 x1 x2 s = some o) : Q 1 sio tt cc d 56 28 [some (.ref b0), some (.int x1), some (.int x2), some (.int x3)] [] s (.inl none, o) := by
  unfold dm56_28 at h
  obtain ⟨d, rfl⟩ : ∃ e, d = e + 1 := ⟨d - 1, by omega⟩
  refine Q.run zm56 2 (i' := 2) (ls' := [some (.ref b0), some (.int x1), some (.int (x2 + 1)), some (.int x3)]) (st' := []) rfl ?_
  exact hk2 hl hk_b0 h
def dm56_2 : Nat → Nat → Int32 → Int32 → aS → Option (aS)
  | 0, _, _, _, _ => none
  | n + 1, b0, x1, x2, s =>
    if (sI s b0 2) ≤ x2 then
      some s
    else
      bu (dm57 b0 x2 2 s) fun r4 =>
      if r4 = x1 then
        bu (dm58 b0 x2 s) fun s8 =>
        dm56_28 (dm56_2 n) b0 x1 x2 s8
      else
        if r4 ≤ x1 then
          dm56_28 (dm56_2 n) b0 x1 x2 s
        else
          bu (dm60 b0 x2 2 (r4 - 1) s) fun s13 =>
          dm56_28 (dm56_2 n) b0 x1 x2 s13
set_option maxRecDepth 100000 in
theorem dt56_2 {sio : Bool} {tt : Nat} {cc : Nat → Nat → Int32} {d : Nat} (hd : 2 ≤ d) : ∀ (n : Nat) {b0 : Nat} {x1 : Int32} {x2 : Int32} {g3 : Option Value} {s : aS} (_ : Ly tt cc s) (_ : aK s b0 3) {o : aS} (_ : dm56_2  n b0 x1 x2 s = some o), Q 1 sio tt cc d 56 2 [some (.ref b0), some (.int x1), some (.int x2), g3] [] s (.inl none, o) := by
  obtain ⟨d, rfl⟩ : ∃ e, d = e + 1 := ⟨d - 1, by omega⟩
  intro n
  induction n with
  | zero => intro b0 x1 x2 g3 s hl hk_b0 o h; rw [dm56_2] at h; cases h
  | succ n ih =>
    intro b0 x1 x2 g3 s hl hk_b0 o h
    rw [dm56_2] at h
    refine Q.run zm56 2 (i' := 4) (ls' := [some (.ref b0), some (.int x1), some (.int x2), g3]) (st' := [.ref b0, .int x2]) rfl ?_
    refine Q.map (A.gf (gI_of zm56 (e := (4, 3, .getfield 24, [3, 2])) rfl) hk_b0.1 (hl.tr hk_b0).1 (by decide) rfl) ?_
    by_cases hc1 : (sI s b0 2) ≤ x2
    · rw [if_pos hc1] at h
      refine Q.map (A.bT (gI_of zm56 (e := (7, 3, .if_icmp .ge 43, [30])) rfl) (decide_eq_true hc1)) ?_
      cases h
      exact Q.ret (A.rv zm56 (show zM56.2.2.2.2.2[30]? = some (50, 1, .return_, []) from rfl) rfl) hl
    · rw [if_neg hc1] at h
      refine Q.map (A.bF (gI_of zm56 (e := (7, 3, .if_icmp .ge 43, [30])) rfl) (fun q => hc1 (of_decide_eq_true q))) ?_
      refine Q.run zm56 3 (i' := 9) (ls' := [some (.ref b0), some (.int x1), some (.int x2), g3]) (st' := [.int 2, .int x2, .ref b0]) rfl ?_
      obtain ⟨r4, hc3, h⟩ := bu_so h
      have hq2 : Q 1 sio tt cc d 57 0 [some (.ref b0), some (.int x2), some (.int 2), none] [] s (.inl (some (.int r4)), s) := dt57 (by omega) hl hk_b0 hc3
      refine Q.callI (gC_vi zm56 (show zM56.2.2.2.2.2[9]? = some (13, 3, .invokevirtual 28, [0, 57, 2, 3]) from rfl) zm57 hk_b0.1 (hl.tr hk_b0).1 rfl (show aCr 2 b0 [.int 2, .int x2, .ref b0] 4 = some ([some (.ref b0), some (.int x2), some (.int 2), none], []) from rfl)) hq2 ?_
      refine Q.run zm56 3 (i' := 13) (ls' := [some (.ref b0), some (.int x1), some (.int x2), some (.int r4)]) (st' := [.int x1, .int r4]) rfl ?_
      by_cases hc5 : r4 = x1
      · rw [if_pos hc5] at h
        refine Q.map (A.bF (gI_of zm56 (e := (19, 3, .if_icmp .ne 11, [18])) rfl) (fun q => of_decide_eq_true q hc5)) ?_
        refine Q.run zm56 2 (i' := 16) (ls' := [some (.ref b0), some (.int x1), some (.int x2), some (.int r4)]) (st' := [.int x2, .ref b0]) rfl ?_
        obtain ⟨s8, hc7, h⟩ := bu_so h
        have hq6 : Q 1 sio tt cc d 58 0 [some (.ref b0), some (.int x2)] [] s (.inl none, s8) := dt58 (by omega) hl hk_b0 hc7
        refine Q.callV (gC_vi zm56 (show zM56.2.2.2.2.2[16]? = some (24, 3, .invokevirtual 92, [0, 58, 1, 3]) from rfl) zm58 hk_b0.1 (hl.tr hk_b0).1 rfl (show aCr 1 b0 [.int x2, .ref b0] 2 = some ([some (.ref b0), some (.int x2)], []) from rfl)) hq6 ?_
        have hr9 : aK s8 b0 3 := hq6.2.1.k hk_b0
        refine Q.run zm56 1 (i' := 28) (ls' := [some (.ref b0), some (.int x1), some (.int x2), some (.int r4)]) (st' := []) rfl ?_
        exact dt56_28 hd ih hq6.1 hr9 h
      · rw [if_neg hc5] at h
        refine Q.map (A.bT (gI_of zm56 (e := (19, 3, .if_icmp .ne 11, [18])) rfl) (decide_eq_true hc5)) ?_
        refine Q.run zm56 2 (i' := 20) (ls' := [some (.ref b0), some (.int x1), some (.int x2), some (.int r4)]) (st' := [.int x1, .int r4]) rfl ?_
        by_cases hc10 : r4 ≤ x1
        · rw [if_pos hc10] at h
          refine Q.map (A.bT (gI_of zm56 (e := (32, 3, .if_icmp .le 12, [28])) rfl) (decide_eq_true hc10)) ?_
          exact dt56_28 hd ih hl hk_b0 h
        · rw [if_neg hc10] at h
          refine Q.map (A.bF (gI_of zm56 (e := (32, 3, .if_icmp .le 12, [28])) rfl) (fun q => hc10 (of_decide_eq_true q))) ?_
          refine Q.run zm56 6 (i' := 27) (ls' := [some (.ref b0), some (.int x1), some (.int x2), some (.int r4)]) (st' := [.int (r4 - 1), .int 2, .int x2, .ref b0]) rfl ?_
          obtain ⟨s13, hc12, h⟩ := bu_so h
          have hq11 : Q 1 sio tt cc d 60 0 [some (.ref b0), some (.int x2), some (.int 2), some (.int (r4 - 1))] [] s (.inl none, s13) := dt60 (by omega) hl hk_b0 hc12
          refine Q.callV (gC_vi zm56 (show zM56.2.2.2.2.2[27]? = some (41, 3, .invokevirtual 51, [0, 60, 3, 3]) from rfl) zm60 hk_b0.1 (hl.tr hk_b0).1 rfl (show aCr 3 b0 [.int (r4 - 1), .int 2, .int x2, .ref b0] 4 = some ([some (.ref b0), some (.int x2), some (.int 2), some (.int (r4 - 1))], []) from rfl)) hq11 ?_
          have hr14 : aK s13 b0 3 := hq11.2.1.k hk_b0
          exact dt56_28 hd ih hq11.1 hr14 h
def dm56 (b0 : Nat) (x1 : Int32) (s : aS) : Option (aS) :=
  dm56_2 5000 b0 x1 0 s
set_option maxRecDepth 100000 in
theorem dt56 {sio : Bool} {tt : Nat} {cc : Nat → Nat → Int32} {d : Nat} (hd : 2 ≤ d) {b0 : Nat} {x1 : Int32} {s : aS} (hl : Ly tt cc s) (hk_b0 : aK s b0 3) {o : aS} (h : dm56  b0 x1 s = some o) : Q 1 sio tt cc d 56 0 [some (.ref b0), some (.int x1), none, none] [] s (.inl none, o) := by
  unfold dm56 at h
  obtain ⟨d, rfl⟩ : ∃ e, d = e + 1 := ⟨d - 1, by omega⟩
  refine Q.run zm56 2 (i' := 2) (ls' := [some (.ref b0), some (.int x1), some (.int 0), none]) (st' := []) rfl ?_
  exact dt56_2 hd _ hl hk_b0 h
/-! 61 FormulaTrees.homeWithout(II)I -/
set_option maxRecDepth 100000 in
theorem zm61 : zP[61]? = some zM61 := rfl
def dm61 (x0 : Int32) (x1 : Int32) : Option (Int32) :=
  if x0 = x1 then
    some (-1)
  else
    if x0 ≤ x1 then
      some x0
    else
      some (x0 - 1)
set_option maxRecDepth 100000 in
theorem dt61 {sio : Bool} {tt : Nat} {cc : Nat → Nat → Int32} {d : Nat} (hd : 0 ≤ d) {x0 : Int32} {x1 : Int32} {s : aS} (hl : Ly tt cc s) {o : Int32} (h : dm61  x0 x1 = some o) : Q 1 sio tt cc d 61 0 [some (.int x0), some (.int x1)] [] s (.inl (some (.int o)), s) := by
  unfold dm61 at h
  refine Q.run zm61 2 (i' := 2) (ls' := [some (.int x0), some (.int x1)]) (st' := [.int x1, .int x0]) rfl ?_
  by_cases hc1 : x0 = x1
  · rw [if_pos hc1] at h
    refine Q.map (A.bF (gI_of zm61 (e := (2, 3, .if_icmp .ne 5, [5])) rfl) (fun q => of_decide_eq_true q hc1)) ?_
    refine Q.run zm61 1 (i' := 4) (ls' := [some (.int x0), some (.int x1)]) (st' := [.int (-1)]) rfl ?_
    cases h
    exact Q.ret (A.ri zm61 (show zM61.2.2.2.2.2[4]? = some (6, 1, .ireturn, []) from rfl) rfl rfl) hl
  · rw [if_neg hc1] at h
    refine Q.map (A.bT (gI_of zm61 (e := (2, 3, .if_icmp .ne 5, [5])) rfl) (decide_eq_true hc1)) ?_
    refine Q.run zm61 2 (i' := 7) (ls' := [some (.int x0), some (.int x1)]) (st' := [.int x1, .int x0]) rfl ?_
    by_cases hc2 : x0 ≤ x1
    · rw [if_pos hc2] at h
      refine Q.map (A.bT (gI_of zm61 (e := (9, 3, .if_icmp .le 9, [12])) rfl) (decide_eq_true hc2)) ?_
      refine Q.run zm61 1 (i' := 13) (ls' := [some (.int x0), some (.int x1)]) (st' := [.int x0]) rfl ?_
      cases h
      exact Q.ret (A.ri zm61 (show zM61.2.2.2.2.2[13]? = some (19, 1, .ireturn, []) from rfl) rfl rfl) hl
    · rw [if_neg hc2] at h
      refine Q.map (A.bF (gI_of zm61 (e := (9, 3, .if_icmp .le 9, [12])) rfl) (fun q => hc2 (of_decide_eq_true q))) ?_
      refine Q.run zm61 4 (i' := 13) (ls' := [some (.int x0), some (.int x1)]) (st' := [.int (x0 - 1)]) rfl ?_
      cases h
      exact Q.ret (A.ri zm61 (show zM61.2.2.2.2.2[13]? = some (19, 1, .ireturn, []) from rfl) rfl rfl) hl
