/-! 52 FormulaTrees.drop(I)V -/
set_option maxRecDepth 100000 in
theorem zm52 : zP[52]? = some zM52 := rfl
def dm52_38 (k16 : Int32 → Int32 → aS → Option (xZ × aS)) (x1 : Int32) (x2 : Int32) (s : aS) : Option (xZ × aS) :=
  k16 x1 (x2 + 1) s
set_option maxRecDepth 100000 in
theorem dt52_38 {sio : Bool} {tt : Nat} {cc : Nat → Nat → Int32} {d : Nat} (hd : 9 ≤ d) {k16 : Int32 → Int32 → aS → Option (xZ × aS)} (hk16 : ∀ {x1 : Int32} {x2 : Int32} {g3 : Option Value} {s : aS}, Ly tt cc s → ∀ {o : xZ × aS}, k16 x1 x2 s = some o → Q 1 sio tt cc d 52 16 [some (.ref 78), some (.int x1), some (.int x2), g3] [] s o) {x1 : Int32} {x2 : Int32} {g3 : Option Value} {s : aS} (hl : Ly tt cc s) {o : xZ × aS} (h : dm52_38 k16 x1 x2 s = some o) : Q 1 sio tt cc d 52 38 [some (.ref 78), some (.int x1), some (.int x2), g3] [] s o := by
  unfold dm52_38 at h
  obtain ⟨d, rfl⟩ : ∃ e, d = e + 1 := ⟨d - 1, by omega⟩
  refine Q.run zm52 2 (i' := 16) (ls' := [some (.ref 78), some (.int x1), some (.int (x2 + 1)), g3]) (st' := []) rfl ?_
  exact hk16 hl  h
def dm52_16 : Nat → Int32 → Int32 → aS → Option (xZ × aS)
  | 0, _, _, _ => none
  | n + 1, x1, x2, s =>
    if 8 ≤ x2 then
      some (.inl none, s)
    else
      bu (dm54 x2 s) fun r4 =>
      vN r4 (
        dm52_38 (dm52_16 n) x1 x2 s
      ) fun b6 =>
        if aK s b6 3 then
          bu (dm56 b6 x1 s) fun s10 =>
          if aB x2 8 then
            bu (dm61 (sI s10 101 (jN x2)) x1) fun r15 =>
            if aB x2 8 then
              nx (wI s10 101 (jN x2) r15) fun s17 =>
              dm52_38 (dm52_16 n) x1 x2 s17
            else none
          else none
        else none
set_option maxRecDepth 100000 in
theorem dt52_16 {sio : Bool} {tt : Nat} {cc : Nat → Nat → Int32} {d : Nat} (hd : 9 ≤ d) : ∀ (n : Nat) {x1 : Int32} {x2 : Int32} {g3 : Option Value} {s : aS} (_ : Ly tt cc s) {o : xZ × aS} (_ : dm52_16  n x1 x2 s = some o), Q 1 sio tt cc d 52 16 [some (.ref 78), some (.int x1), some (.int x2), g3] [] s o := by
  obtain ⟨d, rfl⟩ : ∃ e, d = e + 1 := ⟨d - 1, by omega⟩
  intro n
  induction n with
  | zero => intro x1 x2 g3 s hl o h; rw [dm52_16] at h; cases h
  | succ n ih =>
    intro x1 x2 g3 s hl o h
    rw [dm52_16] at h
    refine Q.run zm52 2 (i' := 18) (ls' := [some (.ref 78), some (.int x1), some (.int x2), g3]) (st' := [.int 8, .int x2]) rfl ?_
    by_cases hc1 : 8 ≤ x2
    · rw [if_pos hc1] at h
      refine Q.map (A.bT (gI_of zm52 (e := (34, 3, .if_icmp .ge 40, [40])) rfl) (decide_eq_true hc1)) ?_
      cases h
      exact Q.ret (A.rv zm52 (show zM52.2.2.2.2.2[40]? = some (74, 1, .return_, []) from rfl) rfl) hl
    · rw [if_neg hc1] at h
      refine Q.map (A.bF (gI_of zm52 (e := (34, 3, .if_icmp .ge 40, [40])) rfl) (fun q => hc1 (of_decide_eq_true q))) ?_
      refine Q.run zm52 2 (i' := 21) (ls' := [some (.ref 78), some (.int x1), some (.int x2), g3]) (st' := [.int x2, .ref 78]) rfl ?_
      obtain ⟨r4, hc3, h⟩ := bu_so h
      have hq2 : Q 1 sio tt cc d 54 0 [some (.ref 78), some (.int x2)] [] s (.inl (some r4), s) := dt54 (by omega) hl  hc3
      rcases vN_so h with ⟨hv5, h9⟩ | ⟨b6, hv5, h9⟩
      · clear h
        subst hv5
        have h := h9
        refine Q.callR (gC_vi zm52 (show zM52.2.2.2.2.2[21]? = some (39, 3, .invokevirtual 114, [0, 54, 1, 0]) from rfl) zm54 (hl.lt (a := 78) (by decide)) (hl.T (a := 78) (p := (0, 7)) 0 rfl rfl) rfl (show aCr 1 78 [.int x2, .ref 78] 2 = some ([some (.ref 78), some (.int x2)], []) from rfl)) hq2 ?_
        refine Q.run zm52 3 (i' := 38) (ls' := [some (.ref 78), some (.int x1), some (.int x2), some (.null)]) (st' := []) rfl ?_
        exact dt52_38 hd ih hl  h
      · clear h
        subst hv5
        have h := h9
        obtain ⟨hr7, h⟩ := ite_so h
        refine Q.callR (gC_vi zm52 (show zM52.2.2.2.2.2[21]? = some (39, 3, .invokevirtual 114, [0, 54, 1, 0]) from rfl) zm54 (hl.lt (a := 78) (by decide)) (hl.T (a := 78) (p := (0, 7)) 0 rfl rfl) rfl (show aCr 1 78 [.int x2, .ref 78] 2 = some ([some (.ref 78), some (.int x2)], []) from rfl)) hq2 ?_
        refine Q.run zm52 5 (i' := 27) (ls' := [some (.ref 78), some (.int x1), some (.int x2), some (.ref b6)]) (st' := [.int x1, .ref b6]) rfl ?_
        obtain ⟨s10, hc9, h⟩ := bu_so h
        have hq8 : Q 1 sio tt cc d 56 0 [some (.ref b6), some (.int x1), none, none] [] s (.inl none, s10) := dt56 (by omega) hl hr7 hc9
        refine Q.callV (gC_vi zm52 (show zM52.2.2.2.2.2[27]? = some (49, 3, .invokevirtual 118, [0, 56, 1, 3]) from rfl) zm56 hr7.1 (hl.tr hr7).1 rfl (show aCr 1 b6 [.int x1, .ref b6] 4 = some ([some (.ref b6), some (.int x1), none, none], []) from rfl)) hq8 ?_
        have hr11 : aK s10 b6 3 := hq8.2.1.k hr7
        refine Q.run zm52 1 (i' := 29) (ls' := [some (.ref 78), some (.int x1), some (.int x2), some (.ref b6)]) (st' := [.ref 78]) rfl ?_
        refine Q.map (A.gf (gI_of zm52 (e := (53, 3, .getfield 31, [0, 3])) rfl) (hq8.1.lt (a := 78) (by decide)) (hq8.1.T (a := 78) (p := (0, 7)) 0 rfl rfl) (by decide) (hq8.1.R 3 rfl)) ?_
        refine Q.run zm52 2 (i' := 32) (ls' := [some (.ref 78), some (.int x1), some (.int x2), some (.ref b6)]) (st' := [.ref 78, .int x2, .ref 101]) rfl ?_
        refine Q.map (A.gf (gI_of zm52 (e := (58, 3, .getfield 31, [0, 3])) rfl) (hq8.1.lt (a := 78) (by decide)) (hq8.1.T (a := 78) (p := (0, 7)) 0 rfl rfl) (by decide) (hq8.1.R 3 rfl)) ?_
        refine Q.run zm52 1 (i' := 34) (ls' := [some (.ref 78), some (.int x1), some (.int x2), some (.ref b6)]) (st' := [.int x2, .ref 101, .int x2, .ref 101]) rfl ?_
        obtain ⟨hc12, h⟩ := ite_so h
        refine Q.map (A.ia (gI_of zm52 (e := (62, 1, .iaload, [])) rfl) (hq8.1.lt (a := 101) (by decide)) (hq8.1.T (a := 101) (p := (100, 8)) 23 rfl rfl) hc12) ?_
        refine Q.run zm52 1 (i' := 36) (ls' := [some (.ref 78), some (.int x1), some (.int x2), some (.ref b6)]) (st' := [.int x1, .int (sI s10 101 (jN x2)), .int x2, .ref 101]) rfl ?_
        obtain ⟨r15, hc14, h⟩ := bu_so h
        have hq13 : Q 1 sio tt cc d 61 0 [some (.int (sI s10 101 (jN x2))), some (.int x1)] [] s10 (.inl (some (.int r15)), s10) := dt61 (by omega) hq8.1  hc14
        refine Q.callI (gC_st zm52 (show zM52.2.2.2.2.2[36]? = some (64, 3, .invokestatic 121, [0, 61, 2]) from rfl) zm61 (show aC 2 [.int x1, .int (sI s10 101 (jN x2)), .int x2, .ref 101] 2 = some ([some (.int (sI s10 101 (jN x2))), some (.int x1)], [.int x2, .ref 101]) from rfl)) hq13 ?_
        obtain ⟨hc16, h⟩ := ite_so h
        obtain ⟨s17, hs18, h⟩ := nx_so h
        refine Q.is hs18 rfl (gI_of zm52 (e := (67, 1, .iastore, [])) rfl) (hq8.1.lt (a := 101) (by decide)) (by decide) (hq8.1.T (a := 101) (p := (100, 8)) 23 rfl rfl) hc16 ?_
        have hl19 : Ly tt cc s17 := by rw [hs18]; exact hq8.1.wId (by decide)
        have hr20 : aK s17 b6 3 := by rw [hs18]; exact hr11
        exact dt52_38 hd ih hl19  h
def dm52 (x1 : Int32) (s : aS) : Option (xZ × aS) :=
  bu (dm40 x1 s) fun r3 =>
  if r3 = 0 then
    some (.inr 2, nw s 82 0)
  else
    bu (dm53 x1 s) fun s7 =>
    dm52_16 5000 x1 0 s7
set_option maxRecDepth 100000 in
theorem dt52 {sio : Bool} {tt : Nat} {cc : Nat → Nat → Int32} {d : Nat} (hd : 9 ≤ d) {x1 : Int32} {s : aS} (hl : Ly tt cc s) {o : xZ × aS} (h : dm52  x1 s = some o) : Q 1 sio tt cc d 52 0 [some (.ref 78), some (.int x1), none, none] [] s o := by
  unfold dm52 at h
  obtain ⟨d, rfl⟩ : ∃ e, d = e + 1 := ⟨d - 1, by omega⟩
  refine Q.run zm52 1 (i' := 1) (ls' := [some (.ref 78), some (.int x1), none, none]) (st' := [.ref 78]) rfl ?_
  refine Q.map (A.gf (gI_of zm52 (e := (1, 3, .getfield 21, [0, 1])) rfl) (hl.lt (a := 78) (by decide)) (hl.T (a := 78) (p := (0, 7)) 0 rfl rfl) (by decide) (hl.R 1 rfl)) ?_
  refine Q.run zm52 1 (i' := 3) (ls' := [some (.ref 78), some (.int x1), none, none]) (st' := [.int x1, .ref 81]) rfl ?_
  obtain ⟨r3, hc2, h⟩ := bu_so h
  have hq1 : Q 1 sio tt cc d 40 0 [some (.ref 81), some (.int x1)] [] s (.inl (some (.int r3)), s) := dt40 (by omega) hl  hc2
  refine Q.callI (gC_vi zm52 (show zM52.2.2.2.2.2[3]? = some (5, 3, .invokevirtual 96, [0, 40, 1, 2]) from rfl) zm40 (hl.lt (a := 81) (by decide)) (hl.T (a := 81) (p := (2, 3)) 3 rfl rfl) rfl (show aCr 1 81 [.int x1, .ref 81] 2 = some ([some (.ref 81), some (.int x1)], []) from rfl)) hq1 ?_
  by_cases hc4 : r3 = 0
  · rw [if_pos hc4] at h
    refine Q.map (A.zF (gI_of zm52 (e := (8, 3, .ifCond .ne 13, [10])) rfl) (fun q => of_decide_eq_true q hc4)) ?_
    cases h
    exact Q.t zm52 (show zM52.2.2.2.2.2[5]? = some (11, 3, .new 100, [202]) from rfl) rfl rfl hl.gL (by omega) hl
  · rw [if_neg hc4] at h
    refine Q.map (A.zT (gI_of zm52 (e := (8, 3, .ifCond .ne 13, [10])) rfl) (decide_eq_true hc4)) ?_
    refine Q.run zm52 1 (i' := 11) (ls' := [some (.ref 78), some (.int x1), none, none]) (st' := [.ref 78]) rfl ?_
    refine Q.map (A.gf (gI_of zm52 (e := (22, 3, .getfield 21, [0, 1])) rfl) (hl.lt (a := 78) (by decide)) (hl.T (a := 78) (p := (0, 7)) 0 rfl rfl) (by decide) (hl.R 1 rfl)) ?_
    refine Q.run zm52 1 (i' := 13) (ls' := [some (.ref 78), some (.int x1), none, none]) (st' := [.int x1, .ref 81]) rfl ?_
    obtain ⟨s7, hc6, h⟩ := bu_so h
    have hq5 : Q 1 sio tt cc d 53 0 [some (.ref 81), some (.int x1), none] [] s (.inl none, s7) := dt53 (by omega) hl  hc6
    refine Q.callV (gC_vi zm52 (show zM52.2.2.2.2.2[13]? = some (26, 3, .invokevirtual 111, [0, 53, 1, 2]) from rfl) zm53 (hl.lt (a := 81) (by decide)) (hl.T (a := 81) (p := (2, 3)) 3 rfl rfl) rfl (show aCr 1 81 [.int x1, .ref 81] 3 = some ([some (.ref 81), some (.int x1), none], []) from rfl)) hq5 ?_
    refine Q.run zm52 2 (i' := 16) (ls' := [some (.ref 78), some (.int x1), some (.int 0), none]) (st' := []) rfl ?_
    exact dt52_16 hd _ hq5.1  h
/-! 4 FormulaTreesLaw.drop(LFormulaTrees;I)I -/
set_option maxRecDepth 100000 in
theorem zm4 : zP[4]? = some zM4 := rfl
def dm4 (x1 : Int32) (s : aS) : Option (Int32 × aS) :=
  bv (dm52 x1 s) fun z4 s3 =>
  zN z4 (fun v5 =>
    vV v5 <|
    some (0, s3)
  ) fun e6 =>
    if e6 = 2 then
      some (1, s3)
    else
      none
set_option maxRecDepth 100000 in
theorem dt4 {sio : Bool} {tt : Nat} {cc : Nat → Nat → Int32} {d : Nat} (hd : 10 ≤ d) {x1 : Int32} {s : aS} (hl : Ly tt cc s) {o : Int32 × aS} (h : dm4  x1 s = some o) : Q 1 sio tt cc d 4 0 [some (.ref 78), some (.int x1), none] [] s (.inl (some (.int o.1)), o.2) := by
  unfold dm4 at h
  obtain ⟨d, rfl⟩ : ∃ e, d = e + 1 := ⟨d - 1, by omega⟩
  refine Q.run zm4 2 (i' := 2) (ls' := [some (.ref 78), some (.int x1), none]) (st' := [.int x1, .ref 78]) rfl ?_
  obtain ⟨z4, s3, hc2, h⟩ := bv_so h
  have hq1 : Q 1 sio tt cc d 52 0 [some (.ref 78), some (.int x1), none, none] [] s (z4, s3) := dt52 (by omega) hl  hc2
  rcases zN_so h with ⟨v5, hz8, h8⟩ | ⟨e6, hz8, h8⟩
  · clear h
    subst hz8
    have h := h8
    obtain ⟨hv7, h9⟩ := vV_so h
    clear h
    subst hv7
    have h := h9
    refine Q.callV (gC_vi zm4 (show zM4.2.2.2.2.2[2]? = some (2, 3, .invokevirtual 27, [0, 52, 1, 0]) from rfl) zm52 (hl.lt (a := 78) (by decide)) (hl.T (a := 78) (p := (0, 7)) 0 rfl rfl) rfl (show aCr 1 78 [.int x1, .ref 78] 4 = some ([some (.ref 78), some (.int x1), none, none], []) from rfl)) hq1 ?_
    refine Q.run zm4 2 (i' := 8) (ls' := [some (.ref 78), some (.int x1), none]) (st' := [.int 0]) rfl ?_
    cases h
    exact Q.ret (A.ri zm4 (show zM4.2.2.2.2.2[8]? = some (12, 1, .ireturn, []) from rfl) rfl rfl) hq1.1
  · clear h
    subst hz8
    have h := h8
    by_cases hc9 : e6 = 2
    · rw [if_pos hc9] at h
      subst hc9
      refine Q.hc (gC_vi zm4 (show zM4.2.2.2.2.2[2]? = some (2, 3, .invokevirtual 27, [0, 52, 1, 0]) from rfl) zm52 (hl.lt (a := 78) (by decide)) (hl.T (a := 78) (p := (0, 7)) 0 rfl rfl) rfl (show aCr 1 78 [.int x1, .ref 78] 4 = some ([some (.ref 78), some (.int x1), none, none], []) from rfl)) hq1 (t := 4) rfl ?_
      refine Q.run zm4 2 (i' := 6) (ls' := [some (.ref 78), some (.int x1), some (.ref (sL s3 - 1))]) (st' := [.int 1]) rfl ?_
      cases h
      exact Q.ret (A.ri zm4 (show zM4.2.2.2.2.2[6]? = some (10, 1, .ireturn, []) from rfl) rfl rfl) hq1.1
    · rw [if_neg hc9] at h
      cases h
/-! 183 FormulaTreesModel.lose(I)V -/
set_option maxRecDepth 100000 in
theorem zm183 : zP[183]? = some zM183 := rfl
def dm183 (x1 : Int32) (s : aS) : Option (aS) :=
  if aB x1 1152 then
    nx (wI s 128 (jN x1) 2) fun s2 =>
    if aB x1 1152 then
      nx (wI s2 130 (jN x1) (-1)) fun s6 =>
      if aB x1 1152 then
        nx (wI s6 131 (jN x1) 0) fun s10 =>
        if aB x1 1152 then
          nx (wI s10 132 (jN x1) 0) fun s14 =>
          if aB x1 1152 then
            nx (wI s14 133 (jN x1) 0) fun s18 =>
            if aB x1 1152 then
              nx (wI s18 134 (jN x1) 0) fun s22 =>
              if aB x1 1152 then
                nx (wI s22 135 (jN x1) 0) fun s26 =>
                if aB x1 1152 then
                  nx (wI s26 136 (jN x1) 4) fun s30 =>
                  some s30
                else none
              else none
            else none
          else none
        else none
      else none
    else none
  else none
set_option maxRecDepth 100000 in
theorem dt183 {sio : Bool} {tt : Nat} {cc : Nat → Nat → Int32} {d : Nat} (hd : 0 ≤ d) {x1 : Int32} {s : aS} (hl : Ly tt cc s) {o : aS} (h : dm183  x1 s = some o) : Q 2 sio tt cc d 183 0 [some (.ref 121), some (.int x1)] [] s (.inl none, o) := by
  unfold dm183 at h
  refine Q.run zm183 1 (i' := 1) (ls' := [some (.ref 121), some (.int x1)]) (st' := [.ref 121]) rfl ?_
  refine Q.map (A.gf (gI_of zm183 (e := (1, 3, .getfield 29, [9, 9])) rfl) (hl.lt (a := 121) (by decide)) (hl.T (a := 121) (p := (9, 45)) 43 rfl rfl) (by decide) (hl.R 29 rfl)) ?_
  refine Q.run zm183 2 (i' := 4) (ls' := [some (.ref 121), some (.int x1)]) (st' := [.int 2, .int x1, .ref 128]) rfl ?_
  obtain ⟨hc1, h⟩ := ite_so h
  obtain ⟨s2, hs3, h⟩ := nx_so h
  refine Q.is hs3 rfl (gI_of zm183 (e := (6, 1, .iastore, [])) rfl) (hl.lt (a := 128) (by decide)) (by decide) (hl.T (a := 128) (p := (100, 1152)) 50 rfl rfl) hc1 ?_
  have hl4 : Ly tt cc s2 := by rw [hs3]; exact hl.wId (by decide)
  refine Q.run zm183 1 (i' := 6) (ls' := [some (.ref 121), some (.int x1)]) (st' := [.ref 121]) rfl ?_
  refine Q.map (A.gf (gI_of zm183 (e := (8, 3, .getfield 35, [9, 11])) rfl) (hl4.lt (a := 121) (by decide)) (hl4.T (a := 121) (p := (9, 45)) 43 rfl rfl) (by decide) (hl4.R 31 rfl)) ?_
  refine Q.run zm183 2 (i' := 9) (ls' := [some (.ref 121), some (.int x1)]) (st' := [.int (-1), .int x1, .ref 130]) rfl ?_
  obtain ⟨hc5, h⟩ := ite_so h
  obtain ⟨s6, hs7, h⟩ := nx_so h
  refine Q.is hs7 rfl (gI_of zm183 (e := (13, 1, .iastore, [])) rfl) (hl4.lt (a := 130) (by decide)) (by decide) (hl4.T (a := 130) (p := (100, 1152)) 52 rfl rfl) hc5 ?_
  have hl8 : Ly tt cc s6 := by rw [hs7]; exact hl4.wId (by decide)
  refine Q.run zm183 1 (i' := 11) (ls' := [some (.ref 121), some (.int x1)]) (st' := [.ref 121]) rfl ?_
  refine Q.map (A.gf (gI_of zm183 (e := (15, 3, .getfield 38, [9, 12])) rfl) (hl8.lt (a := 121) (by decide)) (hl8.T (a := 121) (p := (9, 45)) 43 rfl rfl) (by decide) (hl8.R 32 rfl)) ?_
  refine Q.run zm183 2 (i' := 14) (ls' := [some (.ref 121), some (.int x1)]) (st' := [.int 0, .int x1, .ref 131]) rfl ?_
  obtain ⟨hc9, h⟩ := ite_so h
  obtain ⟨s10, hs11, h⟩ := nx_so h
  refine Q.is hs11 rfl (gI_of zm183 (e := (20, 1, .iastore, [])) rfl) (hl8.lt (a := 131) (by decide)) (by decide) (hl8.T (a := 131) (p := (100, 1152)) 53 rfl rfl) hc9 ?_
  have hl12 : Ly tt cc s10 := by rw [hs11]; exact hl8.wId (by decide)
  refine Q.run zm183 1 (i' := 16) (ls' := [some (.ref 121), some (.int x1)]) (st' := [.ref 121]) rfl ?_
  refine Q.map (A.gf (gI_of zm183 (e := (22, 3, .getfield 41, [9, 13])) rfl) (hl12.lt (a := 121) (by decide)) (hl12.T (a := 121) (p := (9, 45)) 43 rfl rfl) (by decide) (hl12.R 33 rfl)) ?_
  refine Q.run zm183 2 (i' := 19) (ls' := [some (.ref 121), some (.int x1)]) (st' := [.int 0, .int x1, .ref 132]) rfl ?_
  obtain ⟨hc13, h⟩ := ite_so h
  obtain ⟨s14, hs15, h⟩ := nx_so h
  refine Q.is hs15 rfl (gI_of zm183 (e := (27, 1, .iastore, [])) rfl) (hl12.lt (a := 132) (by decide)) (by decide) (hl12.T (a := 132) (p := (100, 1152)) 54 rfl rfl) hc13 ?_
  have hl16 : Ly tt cc s14 := by rw [hs15]; exact hl12.wId (by decide)
  refine Q.run zm183 1 (i' := 21) (ls' := [some (.ref 121), some (.int x1)]) (st' := [.ref 121]) rfl ?_
  refine Q.map (A.gf (gI_of zm183 (e := (29, 3, .getfield 44, [9, 14])) rfl) (hl16.lt (a := 121) (by decide)) (hl16.T (a := 121) (p := (9, 45)) 43 rfl rfl) (by decide) (hl16.R 34 rfl)) ?_
  refine Q.run zm183 2 (i' := 24) (ls' := [some (.ref 121), some (.int x1)]) (st' := [.int 0, .int x1, .ref 133]) rfl ?_
  obtain ⟨hc17, h⟩ := ite_so h
  obtain ⟨s18, hs19, h⟩ := nx_so h
  refine Q.is hs19 rfl (gI_of zm183 (e := (34, 1, .iastore, [])) rfl) (hl16.lt (a := 133) (by decide)) (by decide) (hl16.T (a := 133) (p := (100, 1152)) 55 rfl rfl) hc17 ?_
  have hl20 : Ly tt cc s18 := by rw [hs19]; exact hl16.wId (by decide)
  refine Q.run zm183 1 (i' := 26) (ls' := [some (.ref 121), some (.int x1)]) (st' := [.ref 121]) rfl ?_
  refine Q.map (A.gf (gI_of zm183 (e := (36, 3, .getfield 47, [9, 15])) rfl) (hl20.lt (a := 121) (by decide)) (hl20.T (a := 121) (p := (9, 45)) 43 rfl rfl) (by decide) (hl20.R 35 rfl)) ?_
  refine Q.run zm183 2 (i' := 29) (ls' := [some (.ref 121), some (.int x1)]) (st' := [.int 0, .int x1, .ref 134]) rfl ?_
  obtain ⟨hc21, h⟩ := ite_so h
  obtain ⟨s22, hs23, h⟩ := nx_so h
  refine Q.is hs23 rfl (gI_of zm183 (e := (41, 1, .iastore, [])) rfl) (hl20.lt (a := 134) (by decide)) (by decide) (hl20.T (a := 134) (p := (100, 1152)) 56 rfl rfl) hc21 ?_
  have hl24 : Ly tt cc s22 := by rw [hs23]; exact hl20.wId (by decide)
  refine Q.run zm183 1 (i' := 31) (ls' := [some (.ref 121), some (.int x1)]) (st' := [.ref 121]) rfl ?_
  refine Q.map (A.gf (gI_of zm183 (e := (43, 3, .getfield 50, [9, 16])) rfl) (hl24.lt (a := 121) (by decide)) (hl24.T (a := 121) (p := (9, 45)) 43 rfl rfl) (by decide) (hl24.R 36 rfl)) ?_
  refine Q.run zm183 2 (i' := 34) (ls' := [some (.ref 121), some (.int x1)]) (st' := [.int 0, .int x1, .ref 135]) rfl ?_
  obtain ⟨hc25, h⟩ := ite_so h
  obtain ⟨s26, hs27, h⟩ := nx_so h
  refine Q.is hs27 rfl (gI_of zm183 (e := (48, 1, .iastore, [])) rfl) (hl24.lt (a := 135) (by decide)) (by decide) (hl24.T (a := 135) (p := (100, 1152)) 57 rfl rfl) hc25 ?_
  have hl28 : Ly tt cc s26 := by rw [hs27]; exact hl24.wId (by decide)
  refine Q.run zm183 1 (i' := 36) (ls' := [some (.ref 121), some (.int x1)]) (st' := [.ref 121]) rfl ?_
  refine Q.map (A.gf (gI_of zm183 (e := (50, 3, .getfield 53, [9, 17])) rfl) (hl28.lt (a := 121) (by decide)) (hl28.T (a := 121) (p := (9, 45)) 43 rfl rfl) (by decide) (hl28.R 37 rfl)) ?_
  refine Q.run zm183 2 (i' := 39) (ls' := [some (.ref 121), some (.int x1)]) (st' := [.int 4, .int x1, .ref 136]) rfl ?_
  obtain ⟨hc29, h⟩ := ite_so h
  obtain ⟨s30, hs31, h⟩ := nx_so h
  refine Q.is hs31 rfl (gI_of zm183 (e := (55, 1, .iastore, [])) rfl) (hl28.lt (a := 136) (by decide)) (by decide) (hl28.T (a := 136) (p := (100, 1152)) 58 rfl rfl) hc29 ?_
  have hl32 : Ly tt cc s30 := by rw [hs31]; exact hl28.wId (by decide)
  cases h
  exact Q.ret (A.rv zm183 (show zM183.2.2.2.2.2[40]? = some (56, 1, .return_, []) from rfl) rfl) hl32
/-! 182 FormulaTreesModel.drop(I)V -/
set_option maxRecDepth 100000 in
theorem zm182 : zP[182]? = some zM182 := rfl
def dm182_130 (k112 : Int32 → aS → Option (aS)) : Nat → Int32 → Int32 → aS → Option (aS)
  | 0, _, _, _ => none
  | n + 1, x2, x3, s =>
    if 32 ≤ x3 then
      k112 (x2 + 1) s
    else
      if aB (((32 * x2) + 32) + x3) 256 then
        if aB ((32 * x2) + x3) 256 then
          nx (wI s 124 (jN ((32 * x2) + x3)) (sI s 124 (jN (((32 * x2) + 32) + x3)))) fun s4 =>
          dm182_130 k112 n x2 (x3 + 1) s4
        else none
      else none
set_option maxRecDepth 100000 in
theorem dt182_130 {sio : Bool} {tt : Nat} {cc : Nat → Nat → Int32} {d : Nat} (hd : 1 ≤ d) {k112 : Int32 → aS → Option (aS)} (hk112 : ∀ {x2 : Int32} {x1 : Int32} {g3 : Option Value} {s : aS}, Ly tt cc s → ∀ {o : aS}, k112 x2 s = some o → Q 2 sio tt cc d 182 112 [some (.ref 121), some (.int x1), some (.int x2), g3] [] s (.inl none, o)) : ∀ (n : Nat) {x2 : Int32} {x3 : Int32} {x1 : Int32} {s : aS} (_ : Ly tt cc s) {o : aS} (_ : dm182_130 k112 n x2 x3 s = some o), Q 2 sio tt cc d 182 130 [some (.ref 121), some (.int x1), some (.int x2), some (.int x3)] [] s (.inl none, o) := by
  obtain ⟨d, rfl⟩ : ∃ e, d = e + 1 := ⟨d - 1, by omega⟩
  intro n
  induction n with
  | zero => intro x2 x3 x1 s hl o h; rw [dm182_130] at h; cases h
  | succ n ih =>
    intro x2 x3 x1 s hl o h
    rw [dm182_130] at h
    refine Q.run zm182 2 (i' := 132) (ls' := [some (.ref 121), some (.int x1), some (.int x2), some (.int x3)]) (st' := [.int 32, .int x3]) rfl ?_
    by_cases hc1 : 32 ≤ x3
    · rw [if_pos hc1] at h
      refine Q.map (A.bT (gI_of zm182 (e := (218, 3, .if_icmp .ge 34, [153])) rfl) (decide_eq_true hc1)) ?_
      refine Q.run zm182 2 (i' := 112) (ls' := [some (.ref 121), some (.int x1), some (.int (x2 + 1)), some (.int x3)]) (st' := []) rfl ?_
      exact hk112 hl  h
    · rw [if_neg hc1] at h
      refine Q.map (A.bF (gI_of zm182 (e := (218, 3, .if_icmp .ge 34, [153])) rfl) (fun q => hc1 (of_decide_eq_true q))) ?_
      refine Q.run zm182 1 (i' := 134) (ls' := [some (.ref 121), some (.int x1), some (.int x2), some (.int x3)]) (st' := [.ref 121]) rfl ?_
      refine Q.map (A.gf (gI_of zm182 (e := (222, 3, .getfield 16, [9, 5])) rfl) (hl.lt (a := 121) (by decide)) (hl.T (a := 121) (p := (9, 45)) 43 rfl rfl) (by decide) (hl.R 25 rfl)) ?_
      refine Q.run zm182 6 (i' := 141) (ls' := [some (.ref 121), some (.int x1), some (.int x2), some (.int x3)]) (st' := [.ref 121, .int ((32 * x2) + x3), .ref 124]) rfl ?_
      refine Q.map (A.gf (gI_of zm182 (e := (232, 3, .getfield 16, [9, 5])) rfl) (hl.lt (a := 121) (by decide)) (hl.T (a := 121) (p := (9, 45)) 43 rfl rfl) (by decide) (hl.R 25 rfl)) ?_
      refine Q.run zm182 7 (i' := 149) (ls' := [some (.ref 121), some (.int x1), some (.int x2), some (.int x3)]) (st' := [.int (((32 * x2) + 32) + x3), .ref 124, .int ((32 * x2) + x3), .ref 124]) rfl ?_
      obtain ⟨hc2, h⟩ := ite_so h
      refine Q.map (A.ia (gI_of zm182 (e := (244, 1, .iaload, [])) rfl) (hl.lt (a := 124) (by decide)) (hl.T (a := 124) (p := (100, 256)) 46 rfl rfl) hc2) ?_
      obtain ⟨hc3, h⟩ := ite_so h
      obtain ⟨s4, hs5, h⟩ := nx_so h
      refine Q.is hs5 rfl (gI_of zm182 (e := (245, 1, .iastore, [])) rfl) (hl.lt (a := 124) (by decide)) (by decide) (hl.T (a := 124) (p := (100, 256)) 46 rfl rfl) hc3 ?_
      have hl6 : Ly tt cc s4 := by rw [hs5]; exact hl.wId (by decide)
      refine Q.run zm182 2 (i' := 130) (ls' := [some (.ref 121), some (.int x1), some (.int x2), some (.int (x3 + 1))]) (st' := []) rfl ?_
      exact ih hl6  h
def dm182_108 (k15 : Int32 → Int32 → aS → Option (aS)) (x1 : Int32) (x2 : Int32) (s : aS) : Option (aS) :=
  k15 x1 (x2 + 1) s
set_option maxRecDepth 100000 in
theorem dt182_108 {sio : Bool} {tt : Nat} {cc : Nat → Nat → Int32} {d : Nat} (hd : 1 ≤ d) {k15 : Int32 → Int32 → aS → Option (aS)} (hk15 : ∀ {x1 : Int32} {x2 : Int32} {g3 : Option Value} {s : aS}, Ly tt cc s → ∀ {o : aS}, k15 x1 x2 s = some o → Q 2 sio tt cc d 182 15 [some (.ref 121), some (.int x1), some (.int x2), g3] [] s (.inl none, o)) {x1 : Int32} {x2 : Int32} {g3 : Option Value} {s : aS} (hl : Ly tt cc s) {o : aS} (h : dm182_108 k15 x1 x2 s = some o) : Q 2 sio tt cc d 182 108 [some (.ref 121), some (.int x1), some (.int x2), g3] [] s (.inl none, o) := by
  unfold dm182_108 at h
  obtain ⟨d, rfl⟩ : ∃ e, d = e + 1 := ⟨d - 1, by omega⟩
  refine Q.run zm182 2 (i' := 15) (ls' := [some (.ref 121), some (.int x1), some (.int (x2 + 1)), g3]) (st' := []) rfl ?_
  exact hk15 hl  h
def dm182_105 (k15 : Int32 → Int32 → aS → Option (aS)) (k66 : Int32 → Int32 → Int32 → aS → Option (aS)) (x1 : Int32) (x2 : Int32) (x3 : Int32) (y1 : Int32) (y2 : Int32) (s : aS) : Option (aS) :=
  if aB y1 1152 then
    nx (wI s 130 (jN y1) y2) fun s2 =>
    k66 x1 x2 (x3 + 1) s2
  else none
set_option maxRecDepth 100000 in
theorem dt182_105 {sio : Bool} {tt : Nat} {cc : Nat → Nat → Int32} {d : Nat} (hd : 1 ≤ d) {k15 : Int32 → Int32 → aS → Option (aS)} (hk15 : ∀ {x1 : Int32} {x2 : Int32} {g3 : Option Value} {s : aS}, Ly tt cc s → ∀ {o : aS}, k15 x1 x2 s = some o → Q 2 sio tt cc d 182 15 [some (.ref 121), some (.int x1), some (.int x2), g3] [] s (.inl none, o)) {k66 : Int32 → Int32 → Int32 → aS → Option (aS)} (hk66 : ∀ {x1 : Int32} {x2 : Int32} {x3 : Int32} {s : aS}, Ly tt cc s → ∀ {o : aS}, k66 x1 x2 x3 s = some o → Q 2 sio tt cc d 182 66 [some (.ref 121), some (.int x1), some (.int x2), some (.int x3)] [] s (.inl none, o)) {x1 : Int32} {x2 : Int32} {x3 : Int32} {y1 : Int32} {y2 : Int32} {s : aS} (hl : Ly tt cc s) {o : aS} (h : dm182_105 k15 k66 x1 x2 x3 y1 y2 s = some o) : Q 2 sio tt cc d 182 105 [some (.ref 121), some (.int x1), some (.int x2), some (.int x3)] [.int y2, .int y1, .ref 130] s (.inl none, o) := by
  unfold dm182_105 at h
  obtain ⟨d, rfl⟩ : ∃ e, d = e + 1 := ⟨d - 1, by omega⟩
  obtain ⟨hc1, h⟩ := ite_so h
  obtain ⟨s2, hs3, h⟩ := nx_so h
  refine Q.is hs3 rfl (gI_of zm182 (e := (174, 1, .iastore, [])) rfl) (hl.lt (a := 130) (by decide)) (by decide) (hl.T (a := 130) (p := (100, 1152)) 52 rfl rfl) hc1 ?_
  have hl4 : Ly tt cc s2 := by rw [hs3]; exact hl.wId (by decide)
  refine Q.run zm182 2 (i' := 66) (ls' := [some (.ref 121), some (.int x1), some (.int x2), some (.int (x3 + 1))]) (st' := []) rfl ?_
  exact hk66 hl4  h
def dm182_112 : Nat → Int32 → aS → Option (aS)
  | 0, _, _ => none
  | n + 1, x2, s =>
    if (sI s 121 3) ≤ (x2 + 1) then
      nx (wI s 121 3 ((sI s 121 3) - 1)) fun s2 =>
      some s2
    else
      if aB (x2 + 1) 8 then
        if aB x2 8 then
          nx (wI s 123 (jN x2) (sI s 123 (jN (x2 + 1)))) fun s7 =>
          dm182_130 (dm182_112 n) 5000 x2 0 s7
        else none
      else none
set_option maxRecDepth 100000 in
theorem dt182_112 {sio : Bool} {tt : Nat} {cc : Nat → Nat → Int32} {d : Nat} (hd : 1 ≤ d) : ∀ (n : Nat) {x2 : Int32} {x1 : Int32} {g3 : Option Value} {s : aS} (_ : Ly tt cc s) {o : aS} (_ : dm182_112  n x2 s = some o), Q 2 sio tt cc d 182 112 [some (.ref 121), some (.int x1), some (.int x2), g3] [] s (.inl none, o) := by
  obtain ⟨d, rfl⟩ : ∃ e, d = e + 1 := ⟨d - 1, by omega⟩
  intro n
  induction n with
  | zero => intro x2 x1 g3 s hl o h; rw [dm182_112] at h; cases h
  | succ n ih =>
    intro x2 x1 g3 s hl o h
    rw [dm182_112] at h
    refine Q.run zm182 4 (i' := 116) (ls' := [some (.ref 121), some (.int x1), some (.int x2), g3]) (st' := [.ref 121, .int (x2 + 1)]) rfl ?_
    refine Q.map (A.gf (gI_of zm182 (e := (193, 3, .getfield 106, [9, 3])) rfl) (hl.lt (a := 121) (by decide)) (hl.T (a := 121) (p := (9, 45)) 43 rfl rfl) (by decide) rfl) ?_
    by_cases hc1 : (sI s 121 3) ≤ (x2 + 1)
    · rw [if_pos hc1] at h
      refine Q.map (A.bT (gI_of zm182 (e := (196, 3, .if_icmp .ge 62, [155])) rfl) (decide_eq_true hc1)) ?_
      refine Q.run zm182 2 (i' := 157) (ls' := [some (.ref 121), some (.int x1), some (.int x2), g3]) (st' := [.ref 121, .ref 121]) rfl ?_
      refine Q.map (A.gf (gI_of zm182 (e := (260, 3, .getfield 106, [9, 3])) rfl) (hl.lt (a := 121) (by decide)) (hl.T (a := 121) (p := (9, 45)) 43 rfl rfl) (by decide) rfl) ?_
      refine Q.run zm182 2 (i' := 160) (ls' := [some (.ref 121), some (.int x1), some (.int x2), g3]) (st' := [.int ((sI s 121 3) - 1), .ref 121]) rfl ?_
      obtain ⟨s2, hs3, h⟩ := nx_so h
      refine Q.pf hs3 rfl (gI_of zm182 (e := (265, 3, .putfield 106, [9, 3, 0])) rfl) (hl.lt (a := 121) (by decide)) (by decide) (hl.T (a := 121) (p := (9, 45)) 43 rfl rfl) (by decide) rfl rfl ?_
      have hl4 : Ly tt cc s2 := by rw [hs3]; exact hl.wId (by decide)
      cases h
      exact Q.ret (A.rv zm182 (show zM182.2.2.2.2.2[161]? = some (268, 1, .return_, []) from rfl) rfl) hl4
    · rw [if_neg hc1] at h
      refine Q.map (A.bF (gI_of zm182 (e := (196, 3, .if_icmp .ge 62, [155])) rfl) (fun q => hc1 (of_decide_eq_true q))) ?_
      refine Q.run zm182 1 (i' := 119) (ls' := [some (.ref 121), some (.int x1), some (.int x2), g3]) (st' := [.ref 121]) rfl ?_
      refine Q.map (A.gf (gI_of zm182 (e := (200, 3, .getfield 13, [9, 4])) rfl) (hl.lt (a := 121) (by decide)) (hl.T (a := 121) (p := (9, 45)) 43 rfl rfl) (by decide) (hl.R 24 rfl)) ?_
      refine Q.run zm182 2 (i' := 122) (ls' := [some (.ref 121), some (.int x1), some (.int x2), g3]) (st' := [.ref 121, .int x2, .ref 123]) rfl ?_
      refine Q.map (A.gf (gI_of zm182 (e := (205, 3, .getfield 13, [9, 4])) rfl) (hl.lt (a := 121) (by decide)) (hl.T (a := 121) (p := (9, 45)) 43 rfl rfl) (by decide) (hl.R 24 rfl)) ?_
      refine Q.run zm182 3 (i' := 126) (ls' := [some (.ref 121), some (.int x1), some (.int x2), g3]) (st' := [.int (x2 + 1), .ref 123, .int x2, .ref 123]) rfl ?_
      obtain ⟨hc5, h⟩ := ite_so h
      refine Q.map (A.ia (gI_of zm182 (e := (211, 1, .iaload, [])) rfl) (hl.lt (a := 123) (by decide)) (hl.T (a := 123) (p := (100, 8)) 45 rfl rfl) hc5) ?_
      obtain ⟨hc6, h⟩ := ite_so h
      obtain ⟨s7, hs8, h⟩ := nx_so h
      refine Q.is hs8 rfl (gI_of zm182 (e := (212, 1, .iastore, [])) rfl) (hl.lt (a := 123) (by decide)) (by decide) (hl.T (a := 123) (p := (100, 8)) 45 rfl rfl) hc6 ?_
      have hl9 : Ly tt cc s7 := by rw [hs8]; exact hl.wId (by decide)
      refine Q.run zm182 2 (i' := 130) (ls' := [some (.ref 121), some (.int x1), some (.int x2), some (.int 0)]) (st' := []) rfl ?_
      exact dt182_130 hd ih _ hl9  h
def dm182_85 (k15 : Int32 → Int32 → aS → Option (aS)) (k66 : Int32 → Int32 → Int32 → aS → Option (aS)) (x1 : Int32) (x2 : Int32) (x3 : Int32) (s : aS) : Option (aS) :=
  if aB x3 1152 then
    if (sI s 130 (jN x3)) ≤ x1 then
      if aB x3 1152 then
        dm182_105 k15 k66 x1 x2 x3 x3 (sI s 130 (jN x3)) s
      else none
    else
      if aB x3 1152 then
        dm182_105 k15 k66 x1 x2 x3 x3 ((sI s 130 (jN x3)) - 1) s
      else none
  else none
set_option maxRecDepth 100000 in
theorem dt182_85 {sio : Bool} {tt : Nat} {cc : Nat → Nat → Int32} {d : Nat} (hd : 1 ≤ d) {k15 : Int32 → Int32 → aS → Option (aS)} (hk15 : ∀ {x1 : Int32} {x2 : Int32} {g3 : Option Value} {s : aS}, Ly tt cc s → ∀ {o : aS}, k15 x1 x2 s = some o → Q 2 sio tt cc d 182 15 [some (.ref 121), some (.int x1), some (.int x2), g3] [] s (.inl none, o)) {k66 : Int32 → Int32 → Int32 → aS → Option (aS)} (hk66 : ∀ {x1 : Int32} {x2 : Int32} {x3 : Int32} {s : aS}, Ly tt cc s → ∀ {o : aS}, k66 x1 x2 x3 s = some o → Q 2 sio tt cc d 182 66 [some (.ref 121), some (.int x1), some (.int x2), some (.int x3)] [] s (.inl none, o)) {x1 : Int32} {x2 : Int32} {x3 : Int32} {s : aS} (hl : Ly tt cc s) {o : aS} (h : dm182_85 k15 k66 x1 x2 x3 s = some o) : Q 2 sio tt cc d 182 85 [some (.ref 121), some (.int x1), some (.int x2), some (.int x3)] [] s (.inl none, o) := by
  unfold dm182_85 at h
  obtain ⟨d, rfl⟩ : ∃ e, d = e + 1 := ⟨d - 1, by omega⟩
  refine Q.run zm182 1 (i' := 86) (ls' := [some (.ref 121), some (.int x1), some (.int x2), some (.int x3)]) (st' := [.ref 121]) rfl ?_
  refine Q.map (A.gf (gI_of zm182 (e := (143, 3, .getfield 35, [9, 11])) rfl) (hl.lt (a := 121) (by decide)) (hl.T (a := 121) (p := (9, 45)) 43 rfl rfl) (by decide) (hl.R 31 rfl)) ?_
  refine Q.run zm182 2 (i' := 89) (ls' := [some (.ref 121), some (.int x1), some (.int x2), some (.int x3)]) (st' := [.ref 121, .int x3, .ref 130]) rfl ?_
  refine Q.map (A.gf (gI_of zm182 (e := (148, 3, .getfield 35, [9, 11])) rfl) (hl.lt (a := 121) (by decide)) (hl.T (a := 121) (p := (9, 45)) 43 rfl rfl) (by decide) (hl.R 31 rfl)) ?_
  refine Q.run zm182 1 (i' := 91) (ls' := [some (.ref 121), some (.int x1), some (.int x2), some (.int x3)]) (st' := [.int x3, .ref 130, .int x3, .ref 130]) rfl ?_
  obtain ⟨hc1, h⟩ := ite_so h
  refine Q.map (A.ia (gI_of zm182 (e := (152, 1, .iaload, [])) rfl) (hl.lt (a := 130) (by decide)) (hl.T (a := 130) (p := (100, 1152)) 52 rfl rfl) hc1) ?_
  refine Q.run zm182 1 (i' := 93) (ls' := [some (.ref 121), some (.int x1), some (.int x2), some (.int x3)]) (st' := [.int x1, .int (sI s 130 (jN x3)), .int x3, .ref 130]) rfl ?_
  by_cases hc2 : (sI s 130 (jN x3)) ≤ x1
  · rw [if_pos hc2] at h
    refine Q.map (A.bT (gI_of zm182 (e := (154, 3, .if_icmp .le 14, [101])) rfl) (decide_eq_true hc2)) ?_
    refine Q.run zm182 1 (i' := 102) (ls' := [some (.ref 121), some (.int x1), some (.int x2), some (.int x3)]) (st' := [.ref 121, .int x3, .ref 130]) rfl ?_
    refine Q.map (A.gf (gI_of zm182 (e := (169, 3, .getfield 35, [9, 11])) rfl) (hl.lt (a := 121) (by decide)) (hl.T (a := 121) (p := (9, 45)) 43 rfl rfl) (by decide) (hl.R 31 rfl)) ?_
    refine Q.run zm182 1 (i' := 104) (ls' := [some (.ref 121), some (.int x1), some (.int x2), some (.int x3)]) (st' := [.int x3, .ref 130, .int x3, .ref 130]) rfl ?_
    obtain ⟨hc3, h⟩ := ite_so h
    refine Q.map (A.ia (gI_of zm182 (e := (173, 1, .iaload, [])) rfl) (hl.lt (a := 130) (by decide)) (hl.T (a := 130) (p := (100, 1152)) 52 rfl rfl) hc3) ?_
    exact dt182_105 hd hk15 hk66 hl  h
  · rw [if_neg hc2] at h
    refine Q.map (A.bF (gI_of zm182 (e := (154, 3, .if_icmp .le 14, [101])) rfl) (fun q => hc2 (of_decide_eq_true q))) ?_
    refine Q.run zm182 1 (i' := 95) (ls' := [some (.ref 121), some (.int x1), some (.int x2), some (.int x3)]) (st' := [.ref 121, .int x3, .ref 130]) rfl ?_
    refine Q.map (A.gf (gI_of zm182 (e := (158, 3, .getfield 35, [9, 11])) rfl) (hl.lt (a := 121) (by decide)) (hl.T (a := 121) (p := (9, 45)) 43 rfl rfl) (by decide) (hl.R 31 rfl)) ?_
    refine Q.run zm182 1 (i' := 97) (ls' := [some (.ref 121), some (.int x1), some (.int x2), some (.int x3)]) (st' := [.int x3, .ref 130, .int x3, .ref 130]) rfl ?_
    obtain ⟨hc4, h⟩ := ite_so h
    refine Q.map (A.ia (gI_of zm182 (e := (162, 1, .iaload, [])) rfl) (hl.lt (a := 130) (by decide)) (hl.T (a := 130) (p := (100, 1152)) 52 rfl rfl) hc4) ?_
    refine Q.run zm182 3 (i' := 105) (ls' := [some (.ref 121), some (.int x1), some (.int x2), some (.int x3)]) (st' := [.int ((sI s 130 (jN x3)) - 1), .int x3, .ref 130]) rfl ?_
    exact dt182_105 hd hk15 hk66 hl  h
def dm182_66 (k15 : Int32 → Int32 → aS → Option (aS)) : Nat → Int32 → Int32 → Int32 → aS → Option (aS)
  | 0, _, _, _, _ => none
  | n + 1, x1, x2, x3, s =>
    if aB x2 9 then
      if ((128 * x2) + (sI s 127 (jN x2))) ≤ x3 then
        dm182_108 k15 x1 x2 s
      else
        if aB x3 1152 then
          if (sI s 130 (jN x3)) = x1 then
            bu (dm183 x3 s) fun s7 =>
            dm182_85 k15 (dm182_66 k15 n) x1 x2 x3 s7
          else
            dm182_85 k15 (dm182_66 k15 n) x1 x2 x3 s
        else none
    else none
set_option maxRecDepth 100000 in
theorem dt182_66 {sio : Bool} {tt : Nat} {cc : Nat → Nat → Int32} {d : Nat} (hd : 1 ≤ d) {k15 : Int32 → Int32 → aS → Option (aS)} (hk15 : ∀ {x1 : Int32} {x2 : Int32} {g3 : Option Value} {s : aS}, Ly tt cc s → ∀ {o : aS}, k15 x1 x2 s = some o → Q 2 sio tt cc d 182 15 [some (.ref 121), some (.int x1), some (.int x2), g3] [] s (.inl none, o)) : ∀ (n : Nat) {x1 : Int32} {x2 : Int32} {x3 : Int32} {s : aS} (_ : Ly tt cc s) {o : aS} (_ : dm182_66 k15 n x1 x2 x3 s = some o), Q 2 sio tt cc d 182 66 [some (.ref 121), some (.int x1), some (.int x2), some (.int x3)] [] s (.inl none, o) := by
  obtain ⟨d, rfl⟩ : ∃ e, d = e + 1 := ⟨d - 1, by omega⟩
  intro n
  induction n with
  | zero => intro x1 x2 x3 s hl o h; rw [dm182_66] at h; cases h
  | succ n ih =>
    intro x1 x2 x3 s hl o h
    rw [dm182_66] at h
    refine Q.run zm182 5 (i' := 71) (ls' := [some (.ref 121), some (.int x1), some (.int x2), some (.int x3)]) (st' := [.ref 121, .int (128 * x2), .int x3]) rfl ?_
    refine Q.map (A.gf (gI_of zm182 (e := (118, 3, .getfield 26, [9, 8])) rfl) (hl.lt (a := 121) (by decide)) (hl.T (a := 121) (p := (9, 45)) 43 rfl rfl) (by decide) (hl.R 28 rfl)) ?_
    refine Q.run zm182 1 (i' := 73) (ls' := [some (.ref 121), some (.int x1), some (.int x2), some (.int x3)]) (st' := [.int x2, .ref 127, .int (128 * x2), .int x3]) rfl ?_
    obtain ⟨hc1, h⟩ := ite_so h
    refine Q.map (A.ia (gI_of zm182 (e := (122, 1, .iaload, [])) rfl) (hl.lt (a := 127) (by decide)) (hl.T (a := 127) (p := (100, 9)) 49 rfl rfl) hc1) ?_
    refine Q.run zm182 1 (i' := 75) (ls' := [some (.ref 121), some (.int x1), some (.int x2), some (.int x3)]) (st' := [.int ((128 * x2) + (sI s 127 (jN x2))), .int x3]) rfl ?_
    by_cases hc2 : ((128 * x2) + (sI s 127 (jN x2))) ≤ x3
    · rw [if_pos hc2] at h
      refine Q.map (A.bT (gI_of zm182 (e := (124, 3, .if_icmp .ge 57, [108])) rfl) (decide_eq_true hc2)) ?_
      exact dt182_108 hd hk15 hl  h
    · rw [if_neg hc2] at h
      refine Q.map (A.bF (gI_of zm182 (e := (124, 3, .if_icmp .ge 57, [108])) rfl) (fun q => hc2 (of_decide_eq_true q))) ?_
      refine Q.run zm182 1 (i' := 77) (ls' := [some (.ref 121), some (.int x1), some (.int x2), some (.int x3)]) (st' := [.ref 121]) rfl ?_
      refine Q.map (A.gf (gI_of zm182 (e := (128, 3, .getfield 35, [9, 11])) rfl) (hl.lt (a := 121) (by decide)) (hl.T (a := 121) (p := (9, 45)) 43 rfl rfl) (by decide) (hl.R 31 rfl)) ?_
      refine Q.run zm182 1 (i' := 79) (ls' := [some (.ref 121), some (.int x1), some (.int x2), some (.int x3)]) (st' := [.int x3, .ref 130]) rfl ?_
      obtain ⟨hc3, h⟩ := ite_so h
      refine Q.map (A.ia (gI_of zm182 (e := (132, 1, .iaload, [])) rfl) (hl.lt (a := 130) (by decide)) (hl.T (a := 130) (p := (100, 1152)) 52 rfl rfl) hc3) ?_
      refine Q.run zm182 1 (i' := 81) (ls' := [some (.ref 121), some (.int x1), some (.int x2), some (.int x3)]) (st' := [.int x1, .int (sI s 130 (jN x3))]) rfl ?_
      by_cases hc4 : (sI s 130 (jN x3)) = x1
      · rw [if_pos hc4] at h
        refine Q.map (A.bF (gI_of zm182 (e := (134, 3, .if_icmp .ne 8, [85])) rfl) (fun q => of_decide_eq_true q hc4)) ?_
        refine Q.run zm182 2 (i' := 84) (ls' := [some (.ref 121), some (.int x1), some (.int x2), some (.int x3)]) (st' := [.int x3, .ref 121]) rfl ?_
        obtain ⟨s7, hc6, h⟩ := bu_so h
        have hq5 : Q 2 sio tt cc d 183 0 [some (.ref 121), some (.int x3)] [] s (.inl none, s7) := dt183 (by omega) hl  hc6
        refine Q.callV (gC_vi zm182 (show zM182.2.2.2.2.2[84]? = some (139, 3, .invokevirtual 131, [0, 183, 1, 9]) from rfl) zm183 (hl.lt (a := 121) (by decide)) (hl.T (a := 121) (p := (9, 45)) 43 rfl rfl) rfl (show aCr 1 121 [.int x3, .ref 121] 2 = some ([some (.ref 121), some (.int x3)], []) from rfl)) hq5 ?_
        exact dt182_85 hd hk15 ih hq5.1  h
      · rw [if_neg hc4] at h
        refine Q.map (A.bT (gI_of zm182 (e := (134, 3, .if_icmp .ne 8, [85])) rfl) (decide_eq_true hc4)) ?_
        exact dt182_85 hd hk15 ih hl  h
def dm182_61 (k15 : Int32 → Int32 → aS → Option (aS)) (x1 : Int32) (x2 : Int32) (y1 : Int32) (y2 : Int32) (s : aS) : Option (aS) :=
  if aB y1 8 then
    nx (wI s 126 (jN y1) y2) fun s2 =>
    dm182_66 k15 5000 x1 x2 (128 * x2) s2
  else none
set_option maxRecDepth 100000 in
theorem dt182_61 {sio : Bool} {tt : Nat} {cc : Nat → Nat → Int32} {d : Nat} (hd : 1 ≤ d) {k15 : Int32 → Int32 → aS → Option (aS)} (hk15 : ∀ {x1 : Int32} {x2 : Int32} {g3 : Option Value} {s : aS}, Ly tt cc s → ∀ {o : aS}, k15 x1 x2 s = some o → Q 2 sio tt cc d 182 15 [some (.ref 121), some (.int x1), some (.int x2), g3] [] s (.inl none, o)) {x1 : Int32} {x2 : Int32} {y1 : Int32} {y2 : Int32} {g3 : Option Value} {s : aS} (hl : Ly tt cc s) {o : aS} (h : dm182_61 k15 x1 x2 y1 y2 s = some o) : Q 2 sio tt cc d 182 61 [some (.ref 121), some (.int x1), some (.int x2), g3] [.int y2, .int y1, .ref 126] s (.inl none, o) := by
  unfold dm182_61 at h
  obtain ⟨d, rfl⟩ : ∃ e, d = e + 1 := ⟨d - 1, by omega⟩
  obtain ⟨hc1, h⟩ := ite_so h
  obtain ⟨s2, hs3, h⟩ := nx_so h
  refine Q.is hs3 rfl (gI_of zm182 (e := (104, 1, .iastore, [])) rfl) (hl.lt (a := 126) (by decide)) (by decide) (hl.T (a := 126) (p := (100, 8)) 48 rfl rfl) hc1 ?_
  have hl4 : Ly tt cc s2 := by rw [hs3]; exact hl.wId (by decide)
  refine Q.run zm182 4 (i' := 66) (ls' := [some (.ref 121), some (.int x1), some (.int x2), some (.int (128 * x2))]) (st' := []) rfl ?_
  exact dt182_66 hd hk15 _ hl4  h
def dm182_35 (k15 : Int32 → Int32 → aS → Option (aS)) (x1 : Int32) (x2 : Int32) (y1 : Int32) (y2 : Int32) (s : aS) : Option (aS) :=
  if aB y1 8 then
    nx (wI s 125 (jN y1) (y2 &&& 1)) fun s2 =>
    if aB x2 8 then
      if (sI s2 125 (jN x2)) = 0 then
        dm182_108 k15 x1 x2 s2
      else
        if aB x2 8 then
          if (sI s2 126 (jN x2)) ≤ x1 then
            if aB x2 8 then
              dm182_61 k15 x1 x2 x2 (sI s2 126 (jN x2)) s2
            else none
          else
            if aB x2 8 then
              dm182_61 k15 x1 x2 x2 ((sI s2 126 (jN x2)) - 1) s2
            else none
        else none
    else none
  else none
set_option maxRecDepth 100000 in
theorem dt182_35 {sio : Bool} {tt : Nat} {cc : Nat → Nat → Int32} {d : Nat} (hd : 1 ≤ d) {k15 : Int32 → Int32 → aS → Option (aS)} (hk15 : ∀ {x1 : Int32} {x2 : Int32} {g3 : Option Value} {s : aS}, Ly tt cc s → ∀ {o : aS}, k15 x1 x2 s = some o → Q 2 sio tt cc d 182 15 [some (.ref 121), some (.int x1), some (.int x2), g3] [] s (.inl none, o)) {x1 : Int32} {x2 : Int32} {y1 : Int32} {y2 : Int32} {g3 : Option Value} {s : aS} (hl : Ly tt cc s) {o : aS} (h : dm182_35 k15 x1 x2 y1 y2 s = some o) : Q 2 sio tt cc d 182 35 [some (.ref 121), some (.int x1), some (.int x2), g3] [.int y2, .int y1, .ref 125] s (.inl none, o) := by
  unfold dm182_35 at h
  obtain ⟨d, rfl⟩ : ∃ e, d = e + 1 := ⟨d - 1, by omega⟩
  obtain ⟨hc1, h⟩ := ite_so h
  obtain ⟨s2, hs3, h⟩ := nx_so h
  refine Q.bs hs3 rfl (gI_of zm182 (e := (62, 1, .bastore, [])) rfl) (hl.lt (a := 125) (by decide)) (by decide) (hl.T (a := 125) (p := (103, 8)) 47 rfl rfl) hc1 ?_
  have hl4 : Ly tt cc s2 := by rw [hs3]; exact hl.wId (by decide)
  refine Q.run zm182 1 (i' := 37) (ls' := [some (.ref 121), some (.int x1), some (.int x2), g3]) (st' := [.ref 121]) rfl ?_
  refine Q.map (A.gf (gI_of zm182 (e := (64, 3, .getfield 19, [9, 6])) rfl) (hl4.lt (a := 121) (by decide)) (hl4.T (a := 121) (p := (9, 45)) 43 rfl rfl) (by decide) (hl4.R 26 rfl)) ?_
  refine Q.run zm182 1 (i' := 39) (ls' := [some (.ref 121), some (.int x1), some (.int x2), g3]) (st' := [.int x2, .ref 125]) rfl ?_
  obtain ⟨hc5, h⟩ := ite_so h
  refine Q.map (A.ba (gI_of zm182 (e := (68, 1, .baload, [])) rfl) (hl4.lt (a := 125) (by decide)) (hl4.T (a := 125) (p := (103, 8)) 47 rfl rfl) (by decide) hc5) ?_
  by_cases hc6 : (sI s2 125 (jN x2)) = 0
  · rw [if_pos hc6] at h
    refine Q.map (A.zT (gI_of zm182 (e := (69, 3, .ifCond .eq 112, [108])) rfl) (decide_eq_true hc6)) ?_
    exact dt182_108 hd hk15 hl4  h
  · rw [if_neg hc6] at h
    refine Q.map (A.zF (gI_of zm182 (e := (69, 3, .ifCond .eq 112, [108])) rfl) (fun q => hc6 (of_decide_eq_true q))) ?_
    refine Q.run zm182 1 (i' := 42) (ls' := [some (.ref 121), some (.int x1), some (.int x2), g3]) (st' := [.ref 121]) rfl ?_
    refine Q.map (A.gf (gI_of zm182 (e := (73, 3, .getfield 23, [9, 7])) rfl) (hl4.lt (a := 121) (by decide)) (hl4.T (a := 121) (p := (9, 45)) 43 rfl rfl) (by decide) (hl4.R 27 rfl)) ?_
    refine Q.run zm182 2 (i' := 45) (ls' := [some (.ref 121), some (.int x1), some (.int x2), g3]) (st' := [.ref 121, .int x2, .ref 126]) rfl ?_
    refine Q.map (A.gf (gI_of zm182 (e := (78, 3, .getfield 23, [9, 7])) rfl) (hl4.lt (a := 121) (by decide)) (hl4.T (a := 121) (p := (9, 45)) 43 rfl rfl) (by decide) (hl4.R 27 rfl)) ?_
    refine Q.run zm182 1 (i' := 47) (ls' := [some (.ref 121), some (.int x1), some (.int x2), g3]) (st' := [.int x2, .ref 126, .int x2, .ref 126]) rfl ?_
    obtain ⟨hc7, h⟩ := ite_so h
    refine Q.map (A.ia (gI_of zm182 (e := (82, 1, .iaload, [])) rfl) (hl4.lt (a := 126) (by decide)) (hl4.T (a := 126) (p := (100, 8)) 48 rfl rfl) hc7) ?_
    refine Q.run zm182 1 (i' := 49) (ls' := [some (.ref 121), some (.int x1), some (.int x2), g3]) (st' := [.int x1, .int (sI s2 126 (jN x2)), .int x2, .ref 126]) rfl ?_
    by_cases hc8 : (sI s2 126 (jN x2)) ≤ x1
    · rw [if_pos hc8] at h
      refine Q.map (A.bT (gI_of zm182 (e := (84, 3, .if_icmp .le 14, [57])) rfl) (decide_eq_true hc8)) ?_
      refine Q.run zm182 1 (i' := 58) (ls' := [some (.ref 121), some (.int x1), some (.int x2), g3]) (st' := [.ref 121, .int x2, .ref 126]) rfl ?_
      refine Q.map (A.gf (gI_of zm182 (e := (99, 3, .getfield 23, [9, 7])) rfl) (hl4.lt (a := 121) (by decide)) (hl4.T (a := 121) (p := (9, 45)) 43 rfl rfl) (by decide) (hl4.R 27 rfl)) ?_
      refine Q.run zm182 1 (i' := 60) (ls' := [some (.ref 121), some (.int x1), some (.int x2), g3]) (st' := [.int x2, .ref 126, .int x2, .ref 126]) rfl ?_
      obtain ⟨hc9, h⟩ := ite_so h
      refine Q.map (A.ia (gI_of zm182 (e := (103, 1, .iaload, [])) rfl) (hl4.lt (a := 126) (by decide)) (hl4.T (a := 126) (p := (100, 8)) 48 rfl rfl) hc9) ?_
      exact dt182_61 hd hk15 hl4  h
    · rw [if_neg hc8] at h
      refine Q.map (A.bF (gI_of zm182 (e := (84, 3, .if_icmp .le 14, [57])) rfl) (fun q => hc8 (of_decide_eq_true q))) ?_
      refine Q.run zm182 1 (i' := 51) (ls' := [some (.ref 121), some (.int x1), some (.int x2), g3]) (st' := [.ref 121, .int x2, .ref 126]) rfl ?_
      refine Q.map (A.gf (gI_of zm182 (e := (88, 3, .getfield 23, [9, 7])) rfl) (hl4.lt (a := 121) (by decide)) (hl4.T (a := 121) (p := (9, 45)) 43 rfl rfl) (by decide) (hl4.R 27 rfl)) ?_
      refine Q.run zm182 1 (i' := 53) (ls' := [some (.ref 121), some (.int x1), some (.int x2), g3]) (st' := [.int x2, .ref 126, .int x2, .ref 126]) rfl ?_
      obtain ⟨hc10, h⟩ := ite_so h
      refine Q.map (A.ia (gI_of zm182 (e := (92, 1, .iaload, [])) rfl) (hl4.lt (a := 126) (by decide)) (hl4.T (a := 126) (p := (100, 8)) 48 rfl rfl) hc10) ?_
      refine Q.run zm182 3 (i' := 61) (ls' := [some (.ref 121), some (.int x1), some (.int x2), g3]) (st' := [.int ((sI s2 126 (jN x2)) - 1), .int x2, .ref 126]) rfl ?_
      exact dt182_61 hd hk15 hl4  h
def dm182_34 (k15 : Int32 → Int32 → aS → Option (aS)) (x1 : Int32) (x2 : Int32) (y1 : Int32) (s : aS) : Option (aS) :=
  dm182_35 k15 x1 x2 y1 0 s
set_option maxRecDepth 100000 in
theorem dt182_34 {sio : Bool} {tt : Nat} {cc : Nat → Nat → Int32} {d : Nat} (hd : 1 ≤ d) {k15 : Int32 → Int32 → aS → Option (aS)} (hk15 : ∀ {x1 : Int32} {x2 : Int32} {g3 : Option Value} {s : aS}, Ly tt cc s → ∀ {o : aS}, k15 x1 x2 s = some o → Q 2 sio tt cc d 182 15 [some (.ref 121), some (.int x1), some (.int x2), g3] [] s (.inl none, o)) {x1 : Int32} {x2 : Int32} {y1 : Int32} {g3 : Option Value} {s : aS} (hl : Ly tt cc s) {o : aS} (h : dm182_34 k15 x1 x2 y1 s = some o) : Q 2 sio tt cc d 182 34 [some (.ref 121), some (.int x1), some (.int x2), g3] [.int y1, .ref 125] s (.inl none, o) := by
  unfold dm182_34 at h
  obtain ⟨d, rfl⟩ : ∃ e, d = e + 1 := ⟨d - 1, by omega⟩
  refine Q.run zm182 1 (i' := 35) (ls' := [some (.ref 121), some (.int x1), some (.int x2), g3]) (st' := [.int 0, .int y1, .ref 125]) rfl ?_
  exact dt182_35 hd hk15 hl  h
def dm182_15 : Nat → Int32 → Int32 → aS → Option (aS)
  | 0, _, _, _ => none
  | n + 1, x1, x2, s =>
    if 8 ≤ x2 then
      dm182_112 5000 x1 s
    else
      if aB x2 8 then
        if (sI s 125 (jN x2)) = 0 then
          dm182_34 (dm182_15 n) x1 x2 x2 s
        else
          if aB x2 8 then
            if (sI s 126 (jN x2)) = x1 then
              dm182_34 (dm182_15 n) x1 x2 x2 s
            else
              dm182_35 (dm182_15 n) x1 x2 x2 1 s
          else none
      else none
set_option maxRecDepth 100000 in
theorem dt182_15 {sio : Bool} {tt : Nat} {cc : Nat → Nat → Int32} {d : Nat} (hd : 1 ≤ d) : ∀ (n : Nat) {x1 : Int32} {x2 : Int32} {g3 : Option Value} {s : aS} (_ : Ly tt cc s) {o : aS} (_ : dm182_15  n x1 x2 s = some o), Q 2 sio tt cc d 182 15 [some (.ref 121), some (.int x1), some (.int x2), g3] [] s (.inl none, o) := by
  obtain ⟨d, rfl⟩ : ∃ e, d = e + 1 := ⟨d - 1, by omega⟩
  intro n
  induction n with
  | zero => intro x1 x2 g3 s hl o h; rw [dm182_15] at h; cases h
  | succ n ih =>
    intro x1 x2 g3 s hl o h
    rw [dm182_15] at h
    refine Q.run zm182 2 (i' := 17) (ls' := [some (.ref 121), some (.int x1), some (.int x2), g3]) (st' := [.int 8, .int x2]) rfl ?_
    by_cases hc1 : 8 ≤ x2
    · rw [if_pos hc1] at h
      refine Q.map (A.bT (gI_of zm182 (e := (30, 3, .if_icmp .ge 157, [110])) rfl) (decide_eq_true hc1)) ?_
      refine Q.run zm182 2 (i' := 112) (ls' := [some (.ref 121), some (.int x1), some (.int x1), g3]) (st' := []) rfl ?_
      exact dt182_112 hd _ hl  h
    · rw [if_neg hc1] at h
      refine Q.map (A.bF (gI_of zm182 (e := (30, 3, .if_icmp .ge 157, [110])) rfl) (fun q => hc1 (of_decide_eq_true q))) ?_
      refine Q.run zm182 1 (i' := 19) (ls' := [some (.ref 121), some (.int x1), some (.int x2), g3]) (st' := [.ref 121]) rfl ?_
      refine Q.map (A.gf (gI_of zm182 (e := (34, 3, .getfield 19, [9, 6])) rfl) (hl.lt (a := 121) (by decide)) (hl.T (a := 121) (p := (9, 45)) 43 rfl rfl) (by decide) (hl.R 26 rfl)) ?_
      refine Q.run zm182 2 (i' := 22) (ls' := [some (.ref 121), some (.int x1), some (.int x2), g3]) (st' := [.ref 121, .int x2, .ref 125]) rfl ?_
      refine Q.map (A.gf (gI_of zm182 (e := (39, 3, .getfield 19, [9, 6])) rfl) (hl.lt (a := 121) (by decide)) (hl.T (a := 121) (p := (9, 45)) 43 rfl rfl) (by decide) (hl.R 26 rfl)) ?_
      refine Q.run zm182 1 (i' := 24) (ls' := [some (.ref 121), some (.int x1), some (.int x2), g3]) (st' := [.int x2, .ref 125, .int x2, .ref 125]) rfl ?_
      obtain ⟨hc2, h⟩ := ite_so h
      refine Q.map (A.ba (gI_of zm182 (e := (43, 1, .baload, [])) rfl) (hl.lt (a := 125) (by decide)) (hl.T (a := 125) (p := (103, 8)) 47 rfl rfl) (by decide) hc2) ?_
      by_cases hc3 : (sI s 125 (jN x2)) = 0
      · rw [if_pos hc3] at h
        refine Q.map (A.zT (gI_of zm182 (e := (44, 3, .ifCond .eq 17, [34])) rfl) (decide_eq_true hc3)) ?_
        exact dt182_34 hd ih hl  h
      · rw [if_neg hc3] at h
        refine Q.map (A.zF (gI_of zm182 (e := (44, 3, .ifCond .eq 17, [34])) rfl) (fun q => hc3 (of_decide_eq_true q))) ?_
        refine Q.run zm182 1 (i' := 27) (ls' := [some (.ref 121), some (.int x1), some (.int x2), g3]) (st' := [.ref 121, .int x2, .ref 125]) rfl ?_
        refine Q.map (A.gf (gI_of zm182 (e := (48, 3, .getfield 23, [9, 7])) rfl) (hl.lt (a := 121) (by decide)) (hl.T (a := 121) (p := (9, 45)) 43 rfl rfl) (by decide) (hl.R 27 rfl)) ?_
        refine Q.run zm182 1 (i' := 29) (ls' := [some (.ref 121), some (.int x1), some (.int x2), g3]) (st' := [.int x2, .ref 126, .int x2, .ref 125]) rfl ?_
        obtain ⟨hc4, h⟩ := ite_so h
        refine Q.map (A.ia (gI_of zm182 (e := (52, 1, .iaload, [])) rfl) (hl.lt (a := 126) (by decide)) (hl.T (a := 126) (p := (100, 8)) 48 rfl rfl) hc4) ?_
        refine Q.run zm182 1 (i' := 31) (ls' := [some (.ref 121), some (.int x1), some (.int x2), g3]) (st' := [.int x1, .int (sI s 126 (jN x2)), .int x2, .ref 125]) rfl ?_
        by_cases hc5 : (sI s 126 (jN x2)) = x1
        · rw [if_pos hc5] at h
          refine Q.map (A.bT (gI_of zm182 (e := (54, 3, .if_icmp .eq 7, [34])) rfl) (decide_eq_true hc5)) ?_
          exact dt182_34 hd ih hl  h
        · rw [if_neg hc5] at h
          refine Q.map (A.bF (gI_of zm182 (e := (54, 3, .if_icmp .eq 7, [34])) rfl) (fun q => hc5 (of_decide_eq_true q))) ?_
          refine Q.run zm182 2 (i' := 35) (ls' := [some (.ref 121), some (.int x1), some (.int x2), g3]) (st' := [.int 1, .int x2, .ref 125]) rfl ?_
          exact dt182_35 hd ih hl  h
def dm182_8 (x1 : Int32) (y1 : Int32) (s : aS) : Option (aS) :=
  nx (wI s 121 0 y1) fun s1 =>
  if (sI s1 121 0) ≤ 0 then
    dm182_15 5000 x1 0 s1
  else
    some s1
set_option maxRecDepth 100000 in
theorem dt182_8 {sio : Bool} {tt : Nat} {cc : Nat → Nat → Int32} {d : Nat} (hd : 1 ≤ d) {x1 : Int32} {y1 : Int32} {s : aS} (hl : Ly tt cc s) {o : aS} (h : dm182_8  x1 y1 s = some o) : Q 2 sio tt cc d 182 8 [some (.ref 121), some (.int x1), none, none] [.int y1, .ref 121] s (.inl none, o) := by
  unfold dm182_8 at h
  obtain ⟨d, rfl⟩ : ∃ e, d = e + 1 := ⟨d - 1, by omega⟩
  obtain ⟨s1, hs2, h⟩ := nx_so h
  refine Q.pf hs2 rfl (gI_of zm182 (e := (14, 3, .putfield 89, [9, 0, 0])) rfl) (hl.lt (a := 121) (by decide)) (by decide) (hl.T (a := 121) (p := (9, 45)) 43 rfl rfl) (by decide) rfl rfl ?_
  have hl3 : Ly tt cc s1 := by rw [hs2]; exact hl.wId (by decide)
  refine Q.run zm182 1 (i' := 10) (ls' := [some (.ref 121), some (.int x1), none, none]) (st' := [.ref 121]) rfl ?_
  refine Q.map (A.gf (gI_of zm182 (e := (18, 3, .getfield 89, [9, 0])) rfl) (hl3.lt (a := 121) (by decide)) (hl3.T (a := 121) (p := (9, 45)) 43 rfl rfl) (by decide) rfl) ?_
  by_cases hc4 : (sI s1 121 0) ≤ 0
  · rw [if_pos hc4] at h
    refine Q.map (A.zT (gI_of zm182 (e := (21, 3, .ifCond .le 4, [13])) rfl) (decide_eq_true hc4)) ?_
    refine Q.run zm182 2 (i' := 15) (ls' := [some (.ref 121), some (.int x1), some (.int 0), none]) (st' := []) rfl ?_
    exact dt182_15 hd _ hl3  h
  · rw [if_neg hc4] at h
    refine Q.map (A.zF (gI_of zm182 (e := (21, 3, .ifCond .le 4, [13])) rfl) (fun q => hc4 (of_decide_eq_true q))) ?_
    cases h
    exact Q.ret (A.rv zm182 (show zM182.2.2.2.2.2[12]? = some (24, 1, .return_, []) from rfl) rfl) hl3
def dm182 (x1 : Int32) (s : aS) : Option (aS) :=
  bu (dm181 x1 s) fun r3 =>
  if r3 = 0 then
    dm182_8 x1 0 s
  else
    dm182_8 x1 1 s
set_option maxRecDepth 100000 in
theorem dt182 {sio : Bool} {tt : Nat} {cc : Nat → Nat → Int32} {d : Nat} (hd : 1 ≤ d) {x1 : Int32} {s : aS} (hl : Ly tt cc s) {o : aS} (h : dm182  x1 s = some o) : Q 2 sio tt cc d 182 0 [some (.ref 121), some (.int x1), none, none] [] s (.inl none, o) := by
  unfold dm182 at h
  obtain ⟨d, rfl⟩ : ∃ e, d = e + 1 := ⟨d - 1, by omega⟩
  refine Q.run zm182 3 (i' := 3) (ls' := [some (.ref 121), some (.int x1), none, none]) (st' := [.int x1, .ref 121, .ref 121]) rfl ?_
  obtain ⟨r3, hc2, h⟩ := bu_so h
  have hq1 : Q 2 sio tt cc d 181 0 [some (.ref 121), some (.int x1)] [] s (.inl (some (.int r3)), s) := dt181 (by omega) hl  hc2
  refine Q.callI (gC_vi zm182 (show zM182.2.2.2.2.2[3]? = some (3, 3, .invokevirtual 128, [0, 181, 1, 9]) from rfl) zm181 (hl.lt (a := 121) (by decide)) (hl.T (a := 121) (p := (9, 45)) 43 rfl rfl) rfl (show aCr 1 121 [.int x1, .ref 121, .ref 121] 2 = some ([some (.ref 121), some (.int x1)], [.ref 121]) from rfl)) hq1 ?_
  by_cases hc4 : r3 = 0
  · rw [if_pos hc4] at h
    refine Q.map (A.zT (gI_of zm182 (e := (6, 3, .ifCond .eq 7, [7])) rfl) (decide_eq_true hc4)) ?_
    refine Q.run zm182 1 (i' := 8) (ls' := [some (.ref 121), some (.int x1), none, none]) (st' := [.int 0, .ref 121]) rfl ?_
    exact dt182_8 hd hl  h
  · rw [if_neg hc4] at h
    refine Q.map (A.zF (gI_of zm182 (e := (6, 3, .ifCond .eq 7, [7])) rfl) (fun q => hc4 (of_decide_eq_true q))) ?_
    refine Q.run zm182 2 (i' := 8) (ls' := [some (.ref 121), some (.int x1), none, none]) (st' := [.int 1, .ref 121]) rfl ?_
    exact dt182_8 hd hl  h
/-! 64 FormulaTrees$Tree.clear()V -/
set_option maxRecDepth 100000 in
theorem zm64 : zP[64]? = some zM64 := rfl
def dm64 (b0 : Nat) (s : aS) : Option (aS) :=
  nx (wI s b0 2 0) fun s1 =>
  bu (dm26 (b0 + 2) s1) fun s7 =>
  some s7
set_option maxRecDepth 100000 in
theorem dt64 {sio : Bool} {tt : Nat} {cc : Nat → Nat → Int32} {d : Nat} (hd : 1 ≤ d) {b0 : Nat} {s : aS} (hl : Ly tt cc s) (hk_b0 : aK s b0 3) {o : aS} (h : dm64  b0 s = some o) : Q 1 sio tt cc d 64 0 [some (.ref b0)] [] s (.inl none, o) := by
  unfold dm64 at h
  obtain ⟨d, rfl⟩ : ∃ e, d = e + 1 := ⟨d - 1, by omega⟩
  refine Q.run zm64 2 (i' := 2) (ls' := [some (.ref b0)]) (st' := [.int 0, .ref b0]) rfl ?_
  obtain ⟨s1, hs2, h⟩ := nx_so h
  refine Q.pf hs2 (hl.g3 hk_b0) (gI_of zm64 (e := (2, 3, .putfield 24, [3, 2, 0])) rfl) hk_b0.1 (hl.tr hk_b0).2.2.2.2.2.2.2 (hl.tr hk_b0).1 (by decide) rfl rfl ?_
  have hl3 : Ly tt cc s1 := by rw [hs2]; exact hl.wId (hl.tr hk_b0).2.2.2.2.2.2.2
  have hr4 : aK s1 b0 3 := by rw [hs2]; exact hk_b0
  refine Q.run zm64 1 (i' := 4) (ls' := [some (.ref b0)]) (st' := [.ref b0]) rfl ?_
  refine Q.map (A.gf (gI_of zm64 (e := (6, 3, .getfield 20, [3, 1])) rfl) hr4.1 (hl3.tr hr4).1 (by decide) (hl3.tr hr4).2.2.1) ?_
  obtain ⟨s7, hc6, h⟩ := bu_so h
  have hq5 : Q 1 sio tt cc d 26 0 [some (.ref (b0 + 2))] [] s1 (.inl none, s7) := dt26 (by omega) hl3 (hl3.leK hr4) hc6
  refine Q.callV (gC_vi zm64 (show zM64.2.2.2.2.2[5]? = some (9, 3, .invokevirtual 36, [0, 26, 0, 1]) from rfl) zm26 (by have := (hl3.tr hr4).2.2.2.1; omega) (hl3.tr hr4).2.2.2.2.2.1 rfl (show aCr 0 (b0 + 2) [.ref (b0 + 2)] 1 = some ([some (.ref (b0 + 2))], []) from rfl)) hq5 ?_
  have hr8 : aK s7 b0 3 := hq5.2.1.k hr4
  cases h
  exact Q.ret (A.rv zm64 (show zM64.2.2.2.2.2[6]? = some (12, 1, .return_, []) from rfl) rfl) hq5.1
/-! 65 FormulaTrees$Pending.cutTo(I)V -/
set_option maxRecDepth 100000 in
theorem zm65 : zP[65]? = some zM65 := rfl
def dm65 (x1 : Int32) (s : aS) : Option (aS) :=
  if x1 < 0 then
    some s
  else
    if (sI s 110 2) ≤ x1 then
      some s
    else
      nx (wI s 110 2 x1) fun s3 =>
      some s3
set_option maxRecDepth 100000 in
theorem dt65 {sio : Bool} {tt : Nat} {cc : Nat → Nat → Int32} {d : Nat} (hd : 0 ≤ d) {x1 : Int32} {s : aS} (hl : Ly tt cc s) {o : aS} (h : dm65  x1 s = some o) : Q 1 sio tt cc d 65 0 [some (.ref 110), some (.int x1)] [] s (.inl none, o) := by
  unfold dm65 at h
  refine Q.run zm65 1 (i' := 1) (ls' := [some (.ref 110), some (.int x1)]) (st' := [.int x1]) rfl ?_
  by_cases hc1 : x1 < 0
  · rw [if_pos hc1] at h
    refine Q.map (A.zT (gI_of zm65 (e := (1, 3, .ifCond .lt 16, [9])) rfl) (decide_eq_true hc1)) ?_
    cases h
    exact Q.ret (A.rv zm65 (show zM65.2.2.2.2.2[9]? = some (17, 1, .return_, []) from rfl) rfl) hl
  · rw [if_neg hc1] at h
    refine Q.map (A.zF (gI_of zm65 (e := (1, 3, .ifCond .lt 16, [9])) rfl) (fun q => hc1 (of_decide_eq_true q))) ?_
    refine Q.run zm65 2 (i' := 4) (ls' := [some (.ref 110), some (.int x1)]) (st' := [.ref 110, .int x1]) rfl ?_
    refine Q.map (A.gf (gI_of zm65 (e := (6, 3, .getfield 18, [6, 2])) rfl) (hl.lt (a := 110) (by decide)) (hl.T (a := 110) (p := (6, 3)) 32 rfl rfl) (by decide) rfl) ?_
    by_cases hc2 : (sI s 110 2) ≤ x1
    · rw [if_pos hc2] at h
      refine Q.map (A.bT (gI_of zm65 (e := (9, 3, .if_icmp .ge 8, [9])) rfl) (decide_eq_true hc2)) ?_
      cases h
      exact Q.ret (A.rv zm65 (show zM65.2.2.2.2.2[9]? = some (17, 1, .return_, []) from rfl) rfl) hl
    · rw [if_neg hc2] at h
      refine Q.map (A.bF (gI_of zm65 (e := (9, 3, .if_icmp .ge 8, [9])) rfl) (fun q => hc2 (of_decide_eq_true q))) ?_
      refine Q.run zm65 2 (i' := 8) (ls' := [some (.ref 110), some (.int x1)]) (st' := [.int x1, .ref 110]) rfl ?_
      obtain ⟨s3, hs4, h⟩ := nx_so h
      refine Q.pf hs4 rfl (gI_of zm65 (e := (14, 3, .putfield 18, [6, 2, 0])) rfl) (hl.lt (a := 110) (by decide)) (by decide) (hl.T (a := 110) (p := (6, 3)) 32 rfl rfl) (by decide) rfl rfl ?_
      have hl5 : Ly tt cc s3 := by rw [hs4]; exact hl.wId (by decide)
      cases h
      exact Q.ret (A.rv zm65 (show zM65.2.2.2.2.2[9]? = some (17, 1, .return_, []) from rfl) rfl) hl5
/-! 66 FormulaTrees$Brackets.clear()V -/
set_option maxRecDepth 100000 in
theorem zm66 : zP[66]? = some zM66 := rfl
def dm66 (s : aS) : Option (aS) :=
  nx (wI s 113 3 0) fun s1 =>
  some s1
set_option maxRecDepth 100000 in
theorem dt66 {sio : Bool} {tt : Nat} {cc : Nat → Nat → Int32} {d : Nat} (hd : 0 ≤ d) {s : aS} (hl : Ly tt cc s) {o : aS} (h : dm66  s = some o) : Q 1 sio tt cc d 66 0 [some (.ref 113)] [] s (.inl none, o) := by
  unfold dm66 at h
  refine Q.run zm66 2 (i' := 2) (ls' := [some (.ref 113)]) (st' := [.int 0, .ref 113]) rfl ?_
  obtain ⟨s1, hs2, h⟩ := nx_so h
  refine Q.pf hs2 rfl (gI_of zm66 (e := (2, 3, .putfield 21, [7, 3, 0])) rfl) (hl.lt (a := 113) (by decide)) (by decide) (hl.T (a := 113) (p := (7, 4)) 35 rfl rfl) (by decide) rfl rfl ?_
  have hl3 : Ly tt cc s1 := by rw [hs2]; exact hl.wId (by decide)
  cases h
  exact Q.ret (A.rv zm66 (show zM66.2.2.2.2.2[3]? = some (5, 1, .return_, []) from rfl) rfl) hl3
/-! 67 FormulaTrees$Reader.skipSpaces()V -/
set_option maxRecDepth 100000 in
theorem zm67 : zP[67]? = some zM67 := rfl
def dm67_0 : Nat → aS → Option (aS)
  | 0, _ => none
  | n + 1, s =>
    bu (dm28 79 s) fun r3 =>
    if r3 ≤ (sI s 106 7) then
      some s
    else
      bu (dm34 79 (sI s 106 7) s) fun r7 =>
      if r7 = 32 then
        nx (wI s 106 7 ((sI s 106 7) + 1)) fun s9 =>
        dm67_0 n s9
      else
        some s
set_option maxRecDepth 100000 in
theorem dt67_0 {sio : Bool} {tt : Nat} {cc : Nat → Nat → Int32} {d : Nat} (hd : 1 ≤ d) : ∀ (n : Nat) {s : aS} (_ : Ly tt cc s) {o : aS} (_ : dm67_0  n s = some o), Q 1 sio tt cc d 67 0 [some (.ref 106)] [] s (.inl none, o) := by
  obtain ⟨d, rfl⟩ : ∃ e, d = e + 1 := ⟨d - 1, by omega⟩
  intro n
  induction n with
  | zero => intro s hl o h; rw [dm67_0] at h; cases h
  | succ n ih =>
    intro s hl o h
    rw [dm67_0] at h
    refine Q.run zm67 1 (i' := 1) (ls' := [some (.ref 106)]) (st' := [.ref 106]) rfl ?_
    refine Q.map (A.gf (gI_of zm67 (e := (1, 3, .getfield 61, [4, 7])) rfl) (hl.lt (a := 106) (by decide)) (hl.T (a := 106) (p := (4, 13)) 28 rfl rfl) (by decide) rfl) ?_
    refine Q.run zm67 1 (i' := 3) (ls' := [some (.ref 106)]) (st' := [.ref 106, .int (sI s 106 7)]) rfl ?_
    refine Q.map (A.gf (gI_of zm67 (e := (5, 3, .getfield 41, [4, 0])) rfl) (hl.lt (a := 106) (by decide)) (hl.T (a := 106) (p := (4, 13)) 28 rfl rfl) (by decide) (hl.R 8 rfl)) ?_
    obtain ⟨r3, hc2, h⟩ := bu_so h
    have hq1 : Q 1 sio tt cc d 28 0 [some (.ref 79)] [] s (.inl (some (.int r3)), s) := dt28 (by omega) hl (hl.Kd (a := 79) (c := 1) (n := 2) 1 rfl rfl (by decide)) hc2
    refine Q.callI (gC_vi zm67 (show zM67.2.2.2.2.2[4]? = some (8, 3, .invokevirtual 74, [0, 28, 0, 1]) from rfl) zm28 (hl.lt (a := 79) (by decide)) (hl.T (a := 79) (p := (1, 2)) 1 rfl rfl) rfl (show aCr 0 79 [.ref 79, .int (sI s 106 7)] 1 = some ([some (.ref 79)], [.int (sI s 106 7)]) from rfl)) hq1 ?_
    by_cases hc4 : r3 ≤ (sI s 106 7)
    · rw [if_pos hc4] at h
      refine Q.map (A.bT (gI_of zm67 (e := (11, 3, .if_icmp .ge 32, [20])) rfl) (decide_eq_true hc4)) ?_
      cases h
      exact Q.ret (A.rv zm67 (show zM67.2.2.2.2.2[20]? = some (43, 1, .return_, []) from rfl) rfl) hl
    · rw [if_neg hc4] at h
      refine Q.map (A.bF (gI_of zm67 (e := (11, 3, .if_icmp .ge 32, [20])) rfl) (fun q => hc4 (of_decide_eq_true q))) ?_
      refine Q.run zm67 1 (i' := 7) (ls' := [some (.ref 106)]) (st' := [.ref 106]) rfl ?_
      refine Q.map (A.gf (gI_of zm67 (e := (15, 3, .getfield 41, [4, 0])) rfl) (hl.lt (a := 106) (by decide)) (hl.T (a := 106) (p := (4, 13)) 28 rfl rfl) (by decide) (hl.R 8 rfl)) ?_
      refine Q.run zm67 1 (i' := 9) (ls' := [some (.ref 106)]) (st' := [.ref 106, .ref 79]) rfl ?_
      refine Q.map (A.gf (gI_of zm67 (e := (19, 3, .getfield 61, [4, 7])) rfl) (hl.lt (a := 106) (by decide)) (hl.T (a := 106) (p := (4, 13)) 28 rfl rfl) (by decide) rfl) ?_
      obtain ⟨r7, hc6, h⟩ := bu_so h
      have hq5 : Q 1 sio tt cc d 34 0 [some (.ref 79), some (.int (sI s 106 7))] [] s (.inl (some (.int r7)), s) := dt34 (by omega) hl (hl.Kd (a := 79) (c := 1) (n := 2) 1 rfl rfl (by decide)) hc6
      refine Q.callI (gC_vi zm67 (show zM67.2.2.2.2.2[10]? = some (22, 3, .invokevirtual 78, [0, 34, 1, 1]) from rfl) zm34 (hl.lt (a := 79) (by decide)) (hl.T (a := 79) (p := (1, 2)) 1 rfl rfl) rfl (show aCr 1 79 [.int (sI s 106 7), .ref 79] 2 = some ([some (.ref 79), some (.int (sI s 106 7))], []) from rfl)) hq5 ?_
      refine Q.run zm67 1 (i' := 12) (ls' := [some (.ref 106)]) (st' := [.int 32, .int r7]) rfl ?_
      by_cases hc8 : r7 = 32
      · rw [if_pos hc8] at h
        refine Q.map (A.bF (gI_of zm67 (e := (27, 3, .if_icmp .ne 16, [20])) rfl) (fun q => of_decide_eq_true q hc8)) ?_
        refine Q.run zm67 2 (i' := 15) (ls' := [some (.ref 106)]) (st' := [.ref 106, .ref 106]) rfl ?_
        refine Q.map (A.gf (gI_of zm67 (e := (32, 3, .getfield 61, [4, 7])) rfl) (hl.lt (a := 106) (by decide)) (hl.T (a := 106) (p := (4, 13)) 28 rfl rfl) (by decide) rfl) ?_
        refine Q.run zm67 2 (i' := 18) (ls' := [some (.ref 106)]) (st' := [.int ((sI s 106 7) + 1), .ref 106]) rfl ?_
        obtain ⟨s9, hs10, h⟩ := nx_so h
        refine Q.pf hs10 rfl (gI_of zm67 (e := (37, 3, .putfield 61, [4, 7, 0])) rfl) (hl.lt (a := 106) (by decide)) (by decide) (hl.T (a := 106) (p := (4, 13)) 28 rfl rfl) (by decide) rfl rfl ?_
        have hl11 : Ly tt cc s9 := by rw [hs10]; exact hl.wId (by decide)
        refine Q.run zm67 1 (i' := 0) (ls' := [some (.ref 106)]) (st' := []) rfl ?_
        exact ih hl11  h
      · rw [if_neg hc8] at h
        refine Q.map (A.bT (gI_of zm67 (e := (27, 3, .if_icmp .ne 16, [20])) rfl) (decide_eq_true hc8)) ?_
        cases h
        exact Q.ret (A.rv zm67 (show zM67.2.2.2.2.2[20]? = some (43, 1, .return_, []) from rfl) rfl) hl
def dm67 (s : aS) : Option (aS) :=
  dm67_0 5000 s
set_option maxRecDepth 100000 in
theorem dt67 {sio : Bool} {tt : Nat} {cc : Nat → Nat → Int32} {d : Nat} (hd : 1 ≤ d) {s : aS} (hl : Ly tt cc s) {o : aS} (h : dm67  s = some o) : Q 1 sio tt cc d 67 0 [some (.ref 106)] [] s (.inl none, o) := by
  unfold dm67 at h
  obtain ⟨d, rfl⟩ : ∃ e, d = e + 1 := ⟨d - 1, by omega⟩
  exact dt67_0 hd _ hl  h
/-! 71 FormulaTrees$Tree.isFull()Z -/
set_option maxRecDepth 100000 in
theorem zm71 : zP[71]? = some zM71 := rfl
def dm71 (b0 : Nat) (s : aS) : Option (Int32) :=
  if (sI s b0 2) < 128 then
    some 0
  else
    some 1
set_option maxRecDepth 100000 in
theorem dt71 {sio : Bool} {tt : Nat} {cc : Nat → Nat → Int32} {d : Nat} (hd : 0 ≤ d) {b0 : Nat} {s : aS} (hl : Ly tt cc s) (hk_b0 : aK s b0 3) {o : Int32} (h : dm71  b0 s = some o) : Q 1 sio tt cc d 71 0 [some (.ref b0)] [] s (.inl (some (.int o)), s) := by
  unfold dm71 at h
  refine Q.run zm71 1 (i' := 1) (ls' := [some (.ref b0)]) (st' := [.ref b0]) rfl ?_
  refine Q.map (A.gf (gI_of zm71 (e := (1, 3, .getfield 24, [3, 2])) rfl) hk_b0.1 (hl.tr hk_b0).1 (by decide) rfl) ?_
  refine Q.run zm71 1 (i' := 3) (ls' := [some (.ref b0)]) (st' := [.int 128, .int (sI s b0 2)]) rfl ?_
  by_cases hc1 : (sI s b0 2) < 128
  · rw [if_pos hc1] at h
    refine Q.map (A.bT (gI_of zm71 (e := (7, 3, .if_icmp .lt 7, [6])) rfl) (decide_eq_true hc1)) ?_
    refine Q.run zm71 1 (i' := 7) (ls' := [some (.ref b0)]) (st' := [.int 0]) rfl ?_
    cases h
    exact Q.ret (A.ri zm71 (show zM71.2.2.2.2.2[7]? = some (15, 1, .ireturn, []) from rfl) rfl rfl) hl
  · rw [if_neg hc1] at h
    refine Q.map (A.bF (gI_of zm71 (e := (7, 3, .if_icmp .lt 7, [6])) rfl) (fun q => hc1 (of_decide_eq_true q))) ?_
    refine Q.run zm71 2 (i' := 7) (ls' := [some (.ref b0)]) (st' := [.int 1]) rfl ?_
    cases h
    exact Q.ret (A.ri zm71 (show zM71.2.2.2.2.2[7]? = some (15, 1, .ireturn, []) from rfl) rfl rfl) hl
/-! 70 FormulaTrees$Reader.hasRoom(I)Z -/
set_option maxRecDepth 100000 in
theorem zm70 : zP[70]? = some zM70 := rfl
def dm70_7 (x1 : Int32) (y0 : Int32) (s : aS) : Option (Int32 × aS) :=
  if y0 = 0 then
    nx (wI s 106 8 x1) fun s2 =>
    if y0 = 0 ∨ y0 = 1 then
      some (y0, s2)
    else none
  else
    if y0 = 0 ∨ y0 = 1 then
      some (y0, s)
    else none
set_option maxRecDepth 100000 in
theorem dt70_7 {sio : Bool} {tt : Nat} {cc : Nat → Nat → Int32} {d : Nat} (hd : 1 ≤ d) {x1 : Int32} {y0 : Int32} {s : aS} (hl : Ly tt cc s) {o : Int32 × aS} (h : dm70_7  x1 y0 s = some o) : Q 1 sio tt cc d 70 7 [some (.ref 106), some (.int x1), none] [.int y0] s (.inl (some (.int o.1)), o.2) := by
  unfold dm70_7 at h
  obtain ⟨d, rfl⟩ : ∃ e, d = e + 1 := ⟨d - 1, by omega⟩
  refine Q.run zm70 2 (i' := 9) (ls' := [some (.ref 106), some (.int x1), some (.int y0)]) (st' := [.int y0]) rfl ?_
  by_cases hc1 : y0 = 0
  · rw [if_pos hc1] at h
    refine Q.map (A.zF (gI_of zm70 (e := (17, 3, .ifCond .ne 8, [13])) rfl) (fun q => of_decide_eq_true q hc1)) ?_
    refine Q.run zm70 2 (i' := 12) (ls' := [some (.ref 106), some (.int x1), some (.int y0)]) (st' := [.int x1, .ref 106]) rfl ?_
    obtain ⟨s2, hs3, h⟩ := nx_so h
    refine Q.pf hs3 rfl (gI_of zm70 (e := (22, 3, .putfield 65, [4, 8, 0])) rfl) (hl.lt (a := 106) (by decide)) (by decide) (hl.T (a := 106) (p := (4, 13)) 28 rfl rfl) (by decide) rfl rfl ?_
    have hl4 : Ly tt cc s2 := by rw [hs3]; exact hl.wId (by decide)
    refine Q.run zm70 1 (i' := 14) (ls' := [some (.ref 106), some (.int x1), some (.int y0)]) (st' := [.int y0]) rfl ?_
    obtain ⟨hc5, h⟩ := ite_so h
    cases h
    exact Q.ret (A.ri zm70 (show zM70.2.2.2.2.2[14]? = some (26, 1, .ireturn, []) from rfl) rfl (fit1 hc5)) hl4
  · rw [if_neg hc1] at h
    refine Q.map (A.zT (gI_of zm70 (e := (17, 3, .ifCond .ne 8, [13])) rfl) (decide_eq_true hc1)) ?_
    refine Q.run zm70 1 (i' := 14) (ls' := [some (.ref 106), some (.int x1), some (.int y0)]) (st' := [.int y0]) rfl ?_
    obtain ⟨hc6, h⟩ := ite_so h
    cases h
    exact Q.ret (A.ri zm70 (show zM70.2.2.2.2.2[14]? = some (26, 1, .ireturn, []) from rfl) rfl (fit1 hc6)) hl
def dm70 (x1 : Int32) (s : aS) : Option (Int32 × aS) :=
  vN (sR s 106 6) (
    none
  ) fun b2 =>
    if aK s b2 3 then
      bu (dm71 b2 s) fun r6 =>
      if r6 = 0 then
        dm70_7 x1 1 s
      else
        dm70_7 x1 0 s
    else none
set_option maxRecDepth 100000 in
theorem dt70 {sio : Bool} {tt : Nat} {cc : Nat → Nat → Int32} {d : Nat} (hd : 1 ≤ d) {x1 : Int32} {s : aS} (hl : Ly tt cc s) {o : Int32 × aS} (h : dm70  x1 s = some o) : Q 1 sio tt cc d 70 0 [some (.ref 106), some (.int x1), none] [] s (.inl (some (.int o.1)), o.2) := by
  unfold dm70 at h
  obtain ⟨d, rfl⟩ : ∃ e, d = e + 1 := ⟨d - 1, by omega⟩
  refine Q.run zm70 1 (i' := 1) (ls' := [some (.ref 106), some (.int x1), none]) (st' := [.ref 106]) rfl ?_
  rcases vN_so h with ⟨hv1, h⟩ | ⟨b2, hv1, h⟩
  · refine Q.map (A.gf (gI_of zm70 (e := (1, 3, .getfield 48, [4, 6])) rfl) (hl.lt (a := 106) (by decide)) (hl.T (a := 106) (p := (4, 13)) 28 rfl rfl) (by decide) hv1) ?_
    cases h
  · obtain ⟨hr3, h⟩ := ite_so h
    refine Q.map (A.gf (gI_of zm70 (e := (1, 3, .getfield 48, [4, 6])) rfl) (hl.lt (a := 106) (by decide)) (hl.T (a := 106) (p := (4, 13)) 28 rfl rfl) (by decide) hv1) ?_
    obtain ⟨r6, hc5, h⟩ := bu_so h
    have hq4 : Q 1 sio tt cc d 71 0 [some (.ref b2)] [] s (.inl (some (.int r6)), s) := dt71 (by omega) hl hr3 hc5
    refine Q.callI (gC_vi zm70 (show zM70.2.2.2.2.2[2]? = some (4, 3, .invokevirtual 96, [0, 71, 0, 3]) from rfl) zm71 hr3.1 (hl.tr hr3).1 rfl (show aCr 0 b2 [.ref b2] 1 = some ([some (.ref b2)], []) from rfl)) hq4 ?_
    by_cases hc7 : r6 = 0
    · rw [if_pos hc7] at h
      refine Q.map (A.zF (gI_of zm70 (e := (7, 3, .ifCond .ne 7, [6])) rfl) (fun q => of_decide_eq_true q hc7)) ?_
      refine Q.run zm70 2 (i' := 7) (ls' := [some (.ref 106), some (.int x1), none]) (st' := [.int 1]) rfl ?_
      exact dt70_7 hd hl  h
    · rw [if_neg hc7] at h
      refine Q.map (A.zT (gI_of zm70 (e := (7, 3, .ifCond .ne 7, [6])) rfl) (decide_eq_true hc7)) ?_
      refine Q.run zm70 1 (i' := 7) (ls' := [some (.ref 106), some (.int x1), none]) (st' := [.int 0]) rfl ?_
      exact dt70_7 hd hl  h
/-! 72 FormulaTrees$Tree.insert(III)V -/
set_option maxRecDepth 100000 in
theorem zm72 : zP[72]? = some zM72 := rfl
def dm72_17 : Nat → Nat → Int32 → Int32 → Int32 → Int32 → aS → Option (aS)
  | 0, _, _, _, _, _, _ => none
  | n + 1, b0, x1, x2, x3, x4, s =>
    if x4 < (x1 * 11) then
      nx (wI s b0 2 ((sI s b0 2) + 1)) fun s2 =>
      bu (dm59 b0 x1 x2 x3 s2) fun s8 =>
      some s8
    else
      if aB x4 1408 then
        if aB (x4 + 11) 1408 then
          nx (wI s (b0 + 1) (jN (x4 + 11)) (sI s (b0 + 1) (jN x4))) fun s12 =>
          dm72_17 n b0 x1 x2 x3 (x4 + (-1)) s12
        else none
      else none
set_option maxRecDepth 100000 in
theorem dt72_17 {sio : Bool} {tt : Nat} {cc : Nat → Nat → Int32} {d : Nat} (hd : 1 ≤ d) : ∀ (n : Nat) {b0 : Nat} {x1 : Int32} {x2 : Int32} {x3 : Int32} {x4 : Int32} {s : aS} (_ : Ly tt cc s) (_ : aK s b0 3) {o : aS} (_ : dm72_17  n b0 x1 x2 x3 x4 s = some o), Q 1 sio tt cc d 72 17 [some (.ref b0), some (.int x1), some (.int x2), some (.int x3), some (.int x4)] [] s (.inl none, o) := by
  obtain ⟨d, rfl⟩ : ∃ e, d = e + 1 := ⟨d - 1, by omega⟩
  intro n
  induction n with
  | zero => intro b0 x1 x2 x3 x4 s hl hk_b0 o h; rw [dm72_17] at h; cases h
  | succ n ih =>
    intro b0 x1 x2 x3 x4 s hl hk_b0 o h
    rw [dm72_17] at h
    refine Q.run zm72 4 (i' := 21) (ls' := [some (.ref b0), some (.int x1), some (.int x2), some (.int x3), some (.int x4)]) (st' := [.int (x1 * 11), .int x4]) rfl ?_
    by_cases hc1 : x4 < (x1 * 11)
    · rw [if_pos hc1] at h
      refine Q.map (A.bT (gI_of zm72 (e := (37, 3, .if_icmp .lt 26, [34])) rfl) (decide_eq_true hc1)) ?_
      refine Q.run zm72 2 (i' := 36) (ls' := [some (.ref b0), some (.int x1), some (.int x2), some (.int x3), some (.int x4)]) (st' := [.ref b0, .ref b0]) rfl ?_
      refine Q.map (A.gf (gI_of zm72 (e := (65, 3, .getfield 24, [3, 2])) rfl) hk_b0.1 (hl.tr hk_b0).1 (by decide) rfl) ?_
      refine Q.run zm72 2 (i' := 39) (ls' := [some (.ref b0), some (.int x1), some (.int x2), some (.int x3), some (.int x4)]) (st' := [.int ((sI s b0 2) + 1), .ref b0]) rfl ?_
      obtain ⟨s2, hs3, h⟩ := nx_so h
      refine Q.pf hs3 (hl.g3 hk_b0) (gI_of zm72 (e := (70, 3, .putfield 24, [3, 2, 0])) rfl) hk_b0.1 (hl.tr hk_b0).2.2.2.2.2.2.2 (hl.tr hk_b0).1 (by decide) rfl rfl ?_
      have hl4 : Ly tt cc s2 := by rw [hs3]; exact hl.wId (hl.tr hk_b0).2.2.2.2.2.2.2
      have hr5 : aK s2 b0 3 := by rw [hs3]; exact hk_b0
      refine Q.run zm72 4 (i' := 44) (ls' := [some (.ref b0), some (.int x1), some (.int x2), some (.int x3), some (.int x4)]) (st' := [.int x3, .int x2, .int x1, .ref b0]) rfl ?_
      obtain ⟨s8, hc7, h⟩ := bu_so h
      have hq6 : Q 1 sio tt cc d 59 0 [some (.ref b0), some (.int x1), some (.int x2), some (.int x3), none, none] [] s2 (.inl none, s8) := dt59 (by omega) hl4 hr5 hc7
      refine Q.callV (gC_vi zm72 (show zM72.2.2.2.2.2[44]? = some (77, 3, .invokevirtual 43, [0, 59, 3, 3]) from rfl) zm59 hr5.1 (hl4.tr hr5).1 rfl (show aCr 3 b0 [.int x3, .int x2, .int x1, .ref b0] 6 = some ([some (.ref b0), some (.int x1), some (.int x2), some (.int x3), none, none], []) from rfl)) hq6 ?_
      have hr9 : aK s8 b0 3 := hq6.2.1.k hr5
      cases h
      exact Q.ret (A.rv zm72 (show zM72.2.2.2.2.2[45]? = some (80, 1, .return_, []) from rfl) rfl) hq6.1
    · rw [if_neg hc1] at h
      refine Q.map (A.bF (gI_of zm72 (e := (37, 3, .if_icmp .lt 26, [34])) rfl) (fun q => hc1 (of_decide_eq_true q))) ?_
      refine Q.run zm72 1 (i' := 23) (ls' := [some (.ref b0), some (.int x1), some (.int x2), some (.int x3), some (.int x4)]) (st' := [.ref b0]) rfl ?_
      refine Q.map (A.gf (gI_of zm72 (e := (41, 3, .getfield 9, [3, 0])) rfl) hk_b0.1 (hl.tr hk_b0).1 (by decide) (hl.tr hk_b0).2.1) ?_
      refine Q.run zm72 4 (i' := 28) (ls' := [some (.ref b0), some (.int x1), some (.int x2), some (.int x3), some (.int x4)]) (st' := [.ref b0, .int (x4 + 11), .ref (b0 + 1)]) rfl ?_
      refine Q.map (A.gf (gI_of zm72 (e := (50, 3, .getfield 9, [3, 0])) rfl) hk_b0.1 (hl.tr hk_b0).1 (by decide) (hl.tr hk_b0).2.1) ?_
      refine Q.run zm72 1 (i' := 30) (ls' := [some (.ref b0), some (.int x1), some (.int x2), some (.int x3), some (.int x4)]) (st' := [.int x4, .ref (b0 + 1), .int (x4 + 11), .ref (b0 + 1)]) rfl ?_
      obtain ⟨hc10, h⟩ := ite_so h
      refine Q.map (A.ia (gI_of zm72 (e := (55, 1, .iaload, [])) rfl) (by have := (hl.tr hk_b0).2.2.2.1; omega) (hl.tr hk_b0).2.2.2.2.1 hc10) ?_
      obtain ⟨hc11, h⟩ := ite_so h
      obtain ⟨s12, hs13, h⟩ := nx_so h
      refine Q.is hs13 (hl.g3a hk_b0) (gI_of zm72 (e := (56, 1, .iastore, [])) rfl) (by have := (hl.tr hk_b0).2.2.2.1; omega) (by have := (hl.tr hk_b0).2.2.2.2.2.2.2; omega) (hl.tr hk_b0).2.2.2.2.1 hc11 ?_
      have hl14 : Ly tt cc s12 := by rw [hs13]; exact hl.wId (by have := (hl.tr hk_b0).2.2.2.2.2.2.2; omega)
      have hr15 : aK s12 b0 3 := by rw [hs13]; exact hk_b0
      refine Q.run zm72 2 (i' := 17) (ls' := [some (.ref b0), some (.int x1), some (.int x2), some (.int x3), some (.int (x4 + (-1)))]) (st' := []) rfl ?_
      exact ih hl14 hr15 h
def dm72 (b0 : Nat) (x1 : Int32) (x2 : Int32) (x3 : Int32) (s : aS) : Option (aS) :=
  bu (dm71 b0 s) fun r3 =>
  if r3 = 0 then
    if x1 < 0 then
      some s
    else
      if x1 ≤ (sI s b0 2) then
        dm72_17 5000 b0 x1 x2 x3 (((sI s b0 2) * 11) - 1) s
      else
        some s
  else
    some s
set_option maxRecDepth 100000 in
theorem dt72 {sio : Bool} {tt : Nat} {cc : Nat → Nat → Int32} {d : Nat} (hd : 1 ≤ d) {b0 : Nat} {x1 : Int32} {x2 : Int32} {x3 : Int32} {s : aS} (hl : Ly tt cc s) (hk_b0 : aK s b0 3) {o : aS} (h : dm72  b0 x1 x2 x3 s = some o) : Q 1 sio tt cc d 72 0 [some (.ref b0), some (.int x1), some (.int x2), some (.int x3), none] [] s (.inl none, o) := by
  unfold dm72 at h
  obtain ⟨d, rfl⟩ : ∃ e, d = e + 1 := ⟨d - 1, by omega⟩
  refine Q.run zm72 1 (i' := 1) (ls' := [some (.ref b0), some (.int x1), some (.int x2), some (.int x3), none]) (st' := [.ref b0]) rfl ?_
  obtain ⟨r3, hc2, h⟩ := bu_so h
  have hq1 : Q 1 sio tt cc d 71 0 [some (.ref b0)] [] s (.inl (some (.int r3)), s) := dt71 (by omega) hl hk_b0 hc2
  refine Q.callI (gC_vi zm72 (show zM72.2.2.2.2.2[1]? = some (1, 3, .invokevirtual 39, [0, 71, 0, 3]) from rfl) zm71 hk_b0.1 (hl.tr hk_b0).1 rfl (show aCr 0 b0 [.ref b0] 1 = some ([some (.ref b0)], []) from rfl)) hq1 ?_
  by_cases hc4 : r3 = 0
  · rw [if_pos hc4] at h
    refine Q.map (A.zF (gI_of zm72 (e := (4, 3, .ifCond .ne 15, [9])) rfl) (fun q => of_decide_eq_true q hc4)) ?_
    refine Q.run zm72 1 (i' := 4) (ls' := [some (.ref b0), some (.int x1), some (.int x2), some (.int x3), none]) (st' := [.int x1]) rfl ?_
    by_cases hc5 : x1 < 0
    · rw [if_pos hc5] at h
      refine Q.map (A.zT (gI_of zm72 (e := (8, 3, .ifCond .lt 11, [9])) rfl) (decide_eq_true hc5)) ?_
      cases h
      exact Q.ret (A.rv zm72 (show zM72.2.2.2.2.2[9]? = some (19, 1, .return_, []) from rfl) rfl) hl
    · rw [if_neg hc5] at h
      refine Q.map (A.zF (gI_of zm72 (e := (8, 3, .ifCond .lt 11, [9])) rfl) (fun q => hc5 (of_decide_eq_true q))) ?_
      refine Q.run zm72 2 (i' := 7) (ls' := [some (.ref b0), some (.int x1), some (.int x2), some (.int x3), none]) (st' := [.ref b0, .int x1]) rfl ?_
      refine Q.map (A.gf (gI_of zm72 (e := (13, 3, .getfield 24, [3, 2])) rfl) hk_b0.1 (hl.tr hk_b0).1 (by decide) rfl) ?_
      by_cases hc6 : x1 ≤ (sI s b0 2)
      · rw [if_pos hc6] at h
        refine Q.map (A.bT (gI_of zm72 (e := (16, 3, .if_icmp .le 4, [10])) rfl) (decide_eq_true hc6)) ?_
        refine Q.run zm72 1 (i' := 11) (ls' := [some (.ref b0), some (.int x1), some (.int x2), some (.int x3), none]) (st' := [.ref b0]) rfl ?_
        refine Q.map (A.gf (gI_of zm72 (e := (21, 3, .getfield 24, [3, 2])) rfl) hk_b0.1 (hl.tr hk_b0).1 (by decide) rfl) ?_
        refine Q.run zm72 5 (i' := 17) (ls' := [some (.ref b0), some (.int x1), some (.int x2), some (.int x3), some (.int (((sI s b0 2) * 11) - 1))]) (st' := []) rfl ?_
        exact dt72_17 hd _ hl hk_b0 h
      · rw [if_neg hc6] at h
        refine Q.map (A.bF (gI_of zm72 (e := (16, 3, .if_icmp .le 4, [10])) rfl) (fun q => hc6 (of_decide_eq_true q))) ?_
        cases h
        exact Q.ret (A.rv zm72 (show zM72.2.2.2.2.2[9]? = some (19, 1, .return_, []) from rfl) rfl) hl
  · rw [if_neg hc4] at h
    refine Q.map (A.zT (gI_of zm72 (e := (4, 3, .ifCond .ne 15, [9])) rfl) (decide_eq_true hc4)) ?_
    cases h
    exact Q.ret (A.rv zm72 (show zM72.2.2.2.2.2[9]? = some (19, 1, .return_, []) from rfl) rfl) hl
