section
/-! 52 FormulaTrees.drop(I)V -/
set_option maxRecDepth 100000 in
theorem zm52 : zP[52]? = some zM52 := rfl
def dm52_38 (k16 : Int32 → Int32 → aS → Option (xZ × aS)) (x1 : Int32) (x2 : Int32) (s : aS) : Option (xZ × aS) :=
  k16 x1 (x2 + 1) s
set_option maxRecDepth 100000 in
theorem dt52_38 {sio : Bool} {tt : Nat} {cc : Nat → Nat → Int32} {d : Nat} (hd : 9 ≤ d) {k16 : Int32 → Int32 → aS → Option (xZ × aS)} (hk16 : ∀ {x1 : Int32} {x2 : Int32} {g3 : Option Value} {s : aS}, Ly tt cc s → ∀ {o : xZ × aS}, k16 x1 x2 s = some o → Q 1 sio tt cc d 52 16 [some (.ref 78), some (.int x1), some (.int x2), g3] [] s o) {x1 : Int32} {x2 : Int32} {g3 : Option Value} {s : aS} (hl : Ly tt cc s) {o : xZ × aS} (h : dm52_38 k16 x1 x2 s = some o) : Q 1 sio tt cc d 52 38 [some (.ref 78), some (.int x1), some (.int x2), g3] [] s o := by
  unfold dm52_38 at h
  obtain ⟨d, rfl⟩ : ∃ e, d = e + 1 := ⟨d - 1, by omega⟩
  refine Q.run zm52 2 (i' := 16) (ls' := [some (.ref 78), some (.int x1), some (.int (x2 + 1)), g3]) (st' := []) rfl ?_
  exact hk16 hl  h
def dm52_16 : Nat → Int32 → Int32 → aS → Option (xZ × aS)
  | 0, _, _, _ => none
  | n + 1, x1, x2, s =>
    if 8 ≤ x2 then
      some (.inl none, s)
    else
      bu (dm54 x2 s) fun r4 =>
      vN r4 (
        dm52_38 (dm52_16 n) x1 x2 s
      ) fun b6 =>
        if aK s b6 3 then
          bu (dm56 b6 x1 s) fun s10 =>
          if aB x2 8 then
            bu (dm61 (sI s10 101 (jN x2)) x1) fun r15 =>
            if aB x2 8 then
              nx (wI s10 101 (jN x2) r15) fun s17 =>
              dm52_38 (dm52_16 n) x1 x2 s17
            else none
          else none
        else none
set_option maxRecDepth 100000 in
theorem dt52_16 {sio : Bool} {tt : Nat} {cc : Nat → Nat → Int32} {d : Nat} (hd : 9 ≤ d) : ∀ (n : Nat) {x1 : Int32} {x2 : Int32} {g3 : Option Value} {s : aS} (_ : Ly tt cc s) {o : xZ × aS} (_ : dm52_16  n x1 x2 s = some o), Q 1 sio tt cc d 52 16 [some (.ref 78), some (.int x1), some (.int x2), g3] [] s o := by
  obtain ⟨d, rfl⟩ : ∃ e, d = e + 1 := ⟨d - 1, by omega⟩
  intro n
  induction n with
  | zero => intro x1 x2 g3 s hl o h; rw [dm52_16] at h; cases h
  | succ n ih =>
    intro x1 x2 g3 s hl o h
    rw [dm52_16] at h
    refine Q.run zm52 2 (i' := 18) (ls' := [some (.ref 78), some (.int x1), some (.int x2), g3]) (st' := [.int 8, .int x2]) rfl ?_
    by_cases hc1 : 8 ≤ x2
    · rw [if_pos hc1] at h
      refine Q.map (A.bT (gI_of zm52 (e := (34, 3, .if_icmp .ge 40, [40])) rfl) (decide_eq_true hc1)) ?_
      cases h
      exact Q.ret (A.rv zm52 (show zM52.2.2.2.2.2[40]? = some (74, 1, .return_, []) from rfl) rfl) hl
    · rw [if_neg hc1] at h
      refine Q.map (A.bF (gI_of zm52 (e := (34, 3, .if_icmp .ge 40, [40])) rfl) (fun q => hc1 (of_decide_eq_true q))) ?_
      refine Q.run zm52 2 (i' := 21) (ls' := [some (.ref 78), some (.int x1), some (.int x2), g3]) (st' := [.int x2, .ref 78]) rfl ?_
      obtain ⟨r4, hc3, h⟩ := bu_so h
      have hq2 : Q 1 sio tt cc d 54 0 [some (.ref 78), some (.int x2)] [] s (.inl (some r4), s) := dt54 (by omega) hl  hc3
      rcases vN_so h with ⟨hv5, h9⟩ | ⟨b6, hv5, h9⟩
      · clear h
        subst hv5
        have h := h9
        refine Q.callR (gC_vi zm52 (show zM52.2.2.2.2.2[21]? = some (39, 3, .invokevirtual 114, [0, 54, 1, 0]) from rfl) zm54 (hl.lt (a := 78) (by decide)) (hl.T (a := 78) (p := (0, 7)) 0 rfl rfl) rfl (show aCr 1 78 [.int x2, .ref 78] 2 = some ([some (.ref 78), some (.int x2)], []) from rfl)) hq2 ?_
        refine Q.run zm52 3 (i' := 38) (ls' := [some (.ref 78), some (.int x1), some (.int x2), some (.null)]) (st' := []) rfl ?_
        exact dt52_38 hd ih hl  h
      · clear h
        subst hv5
        have h := h9
        obtain ⟨hr7, h⟩ := ite_so h
        refine Q.callR (gC_vi zm52 (show zM52.2.2.2.2.2[21]? = some (39, 3, .invokevirtual 114, [0, 54, 1, 0]) from rfl) zm54 (hl.lt (a := 78) (by decide)) (hl.T (a := 78) (p := (0, 7)) 0 rfl rfl) rfl (show aCr 1 78 [.int x2, .ref 78] 2 = some ([some (.ref 78), some (.int x2)], []) from rfl)) hq2 ?_
        refine Q.run zm52 5 (i' := 27) (ls' := [some (.ref 78), some (.int x1), some (.int x2), some (.ref b6)]) (st' := [.int x1, .ref b6]) rfl ?_
        obtain ⟨s10, hc9, h⟩ := bu_so h
        have hq8 : Q 1 sio tt cc d 56 0 [some (.ref b6), some (.int x1), none, none] [] s (.inl none, s10) := dt56 (by omega) hl hr7 hc9
        refine Q.callV (gC_vi zm52 (show zM52.2.2.2.2.2[27]? = some (49, 3, .invokevirtual 118, [0, 56, 1, 3]) from rfl) zm56 hr7.1 (hl.tr hr7).1 rfl (show aCr 1 b6 [.int x1, .ref b6] 4 = some ([some (.ref b6), some (.int x1), none, none], []) from rfl)) hq8 ?_
        have hr11 : aK s10 b6 3 := hq8.2.1.k hr7
        refine Q.run zm52 1 (i' := 29) (ls' := [some (.ref 78), some (.int x1), some (.int x2), some (.ref b6)]) (st' := [.ref 78]) rfl ?_
        refine Q.map (A.gf (gI_of zm52 (e := (53, 3, .getfield 31, [0, 3])) rfl) (hq8.1.lt (a := 78) (by decide)) (hq8.1.T (a := 78) (p := (0, 7)) 0 rfl rfl) (by decide) (hq8.1.R 3 rfl)) ?_
        refine Q.run zm52 2 (i' := 32) (ls' := [some (.ref 78), some (.int x1), some (.int x2), some (.ref b6)]) (st' := [.ref 78, .int x2, .ref 101]) rfl ?_
        refine Q.map (A.gf (gI_of zm52 (e := (58, 3, .getfield 31, [0, 3])) rfl) (hq8.1.lt (a := 78) (by decide)) (hq8.1.T (a := 78) (p := (0, 7)) 0 rfl rfl) (by decide) (hq8.1.R 3 rfl)) ?_
        refine Q.run zm52 1 (i' := 34) (ls' := [some (.ref 78), some (.int x1), some (.int x2), some (.ref b6)]) (st' := [.int x2, .ref 101, .int x2, .ref 101]) rfl ?_
        obtain ⟨hc12, h⟩ := ite_so h
        refine Q.map (A.ia (gI_of zm52 (e := (62, 1, .iaload, [])) rfl) (hq8.1.lt (a := 101) (by decide)) (hq8.1.T (a := 101) (p := (100, 8)) 23 rfl rfl) hc12) ?_
        refine Q.run zm52 1 (i' := 36) (ls' := [some (.ref 78), some (.int x1), some (.int x2), some (.ref b6)]) (st' := [.int x1, .int (sI s10 101 (jN x2)), .int x2, .ref 101]) rfl ?_
        obtain ⟨r15, hc14, h⟩ := bu_so h
        have hq13 : Q 1 sio tt cc d 61 0 [some (.int (sI s10 101 (jN x2))), some (.int x1)] [] s10 (.inl (some (.int r15)), s10) := dt61 (by omega) hq8.1  hc14
        refine Q.callI (gC_st zm52 (show zM52.2.2.2.2.2[36]? = some (64, 3, .invokestatic 121, [0, 61, 2]) from rfl) zm61 (show aC 2 [.int x1, .int (sI s10 101 (jN x2)), .int x2, .ref 101] 2 = some ([some (.int (sI s10 101 (jN x2))), some (.int x1)], [.int x2, .ref 101]) from rfl)) hq13 ?_
        obtain ⟨hc16, h⟩ := ite_so h
        obtain ⟨s17, hs18, h⟩ := nx_so h
        refine Q.is hs18 rfl (gI_of zm52 (e := (67, 1, .iastore, [])) rfl) (hq8.1.lt (a := 101) (by decide)) (by decide) (hq8.1.T (a := 101) (p := (100, 8)) 23 rfl rfl) hc16 ?_
        have hl19 : Ly tt cc s17 := by rw [hs18]; exact hq8.1.wId (by decide)
        have hr20 : aK s17 b6 3 := by rw [hs18]; exact hr11
        exact dt52_38 hd ih hl19  h
def dm52 (x1 : Int32) (s : aS) : Option (xZ × aS) :=
  bu (dm40 x1 s) fun r3 =>
  if r3 = 0 then
    some (.inr 2, nw s 82 0)
  else
    bu (dm53 x1 s) fun s7 =>
    dm52_16 5000 x1 0 s7
set_option maxRecDepth 100000 in
theorem dt52 {sio : Bool} {tt : Nat} {cc : Nat → Nat → Int32} {d : Nat} (hd : 9 ≤ d) {x1 : Int32} {s : aS} (hl : Ly tt cc s) {o : xZ × aS} (h : dm52  x1 s = some o) : Q 1 sio tt cc d 52 0 [some (.ref 78), some (.int x1), none, none] [] s o := by
  unfold dm52 at h
  obtain ⟨d, rfl⟩ : ∃ e, d = e + 1 := ⟨d - 1, by omega⟩
  refine Q.run zm52 1 (i' := 1) (ls' := [some (.ref 78), some (.int x1), none, none]) (st' := [.ref 78]) rfl ?_
  refine Q.map (A.gf (gI_of zm52 (e := (1, 3, .getfield 21, [0, 1])) rfl) (hl.lt (a := 78) (by decide)) (hl.T (a := 78) (p := (0, 7)) 0 rfl rfl) (by decide) (hl.R 1 rfl)) ?_
  refine Q.run zm52 1 (i' := 3) (ls' := [some (.ref 78), some (.int x1), none, none]) (st' := [.int x1, .ref 81]) rfl ?_
  obtain ⟨r3, hc2, h⟩ := bu_so h
  have hq1 : Q 1 sio tt cc d 40 0 [some (.ref 81), some (.int x1)] [] s (.inl (some (.int r3)), s) := dt40 (by omega) hl  hc2
  refine Q.callI (gC_vi zm52 (show zM52.2.2.2.2.2[3]? = some (5, 3, .invokevirtual 96, [0, 40, 1, 2]) from rfl) zm40 (hl.lt (a := 81) (by decide)) (hl.T (a := 81) (p := (2, 3)) 3 rfl rfl) rfl (show aCr 1 81 [.int x1, .ref 81] 2 = some ([some (.ref 81), some (.int x1)], []) from rfl)) hq1 ?_
  by_cases hc4 : r3 = 0
  · rw [if_pos hc4] at h
    refine Q.map (A.zF (gI_of zm52 (e := (8, 3, .ifCond .ne 13, [10])) rfl) (fun q => of_decide_eq_true q hc4)) ?_
    cases h
    exact Q.t zm52 (show zM52.2.2.2.2.2[5]? = some (11, 3, .new 100, [202]) from rfl) rfl rfl hl.gL (by omega) hl
  · rw [if_neg hc4] at h
    refine Q.map (A.zT (gI_of zm52 (e := (8, 3, .ifCond .ne 13, [10])) rfl) (decide_eq_true hc4)) ?_
    refine Q.run zm52 1 (i' := 11) (ls' := [some (.ref 78), some (.int x1), none, none]) (st' := [.ref 78]) rfl ?_
    refine Q.map (A.gf (gI_of zm52 (e := (22, 3, .getfield 21, [0, 1])) rfl) (hl.lt (a := 78) (by decide)) (hl.T (a := 78) (p := (0, 7)) 0 rfl rfl) (by decide) (hl.R 1 rfl)) ?_
    refine Q.run zm52 1 (i' := 13) (ls' := [some (.ref 78), some (.int x1), none, none]) (st' := [.int x1, .ref 81]) rfl ?_
    obtain ⟨s7, hc6, h⟩ := bu_so h
    have hq5 : Q 1 sio tt cc d 53 0 [some (.ref 81), some (.int x1), none] [] s (.inl none, s7) := dt53 (by omega) hl  hc6
    refine Q.callV (gC_vi zm52 (show zM52.2.2.2.2.2[13]? = some (26, 3, .invokevirtual 111, [0, 53, 1, 2]) from rfl) zm53 (hl.lt (a := 81) (by decide)) (hl.T (a := 81) (p := (2, 3)) 3 rfl rfl) rfl (show aCr 1 81 [.int x1, .ref 81] 3 = some ([some (.ref 81), some (.int x1), none], []) from rfl)) hq5 ?_
    refine Q.run zm52 2 (i' := 16) (ls' := [some (.ref 78), some (.int x1), some (.int 0), none]) (st' := []) rfl ?_
    exact dt52_16 hd _ hq5.1  h
/-! 4 FormulaTreesLaw.drop(LFormulaTrees;I)I -/
set_option maxRecDepth 100000 in
theorem zm4 : zP[4]? = some zM4 := rfl
def dm4 (x1 : Int32) (s : aS) : Option (Int32 × aS) :=
  bv (dm52 x1 s) fun z4 s3 =>
  zN z4 (fun v5 =>
    vV v5 <|
    some (0, s3)
  ) fun e6 =>
    if e6 = 2 then
      some (1, s3)
    else
      none
set_option maxRecDepth 100000 in
theorem dt4 {sio : Bool} {tt : Nat} {cc : Nat → Nat → Int32} {d : Nat} (hd : 10 ≤ d) {x1 : Int32} {s : aS} (hl : Ly tt cc s) {o : Int32 × aS} (h : dm4  x1 s = some o) : Q 1 sio tt cc d 4 0 [some (.ref 78), some (.int x1), none] [] s (.inl (some (.int o.1)), o.2) := by
  unfold dm4 at h
  obtain ⟨d, rfl⟩ : ∃ e, d = e + 1 := ⟨d - 1, by omega⟩
  refine Q.run zm4 2 (i' := 2) (ls' := [some (.ref 78), some (.int x1), none]) (st' := [.int x1, .ref 78]) rfl ?_
  obtain ⟨z4, s3, hc2, h⟩ := bv_so h
  have hq1 : Q 1 sio tt cc d 52 0 [some (.ref 78), some (.int x1), none, none] [] s (z4, s3) := dt52 (by omega) hl  hc2
  rcases zN_so h with ⟨v5, hz8, h8⟩ | ⟨e6, hz8, h8⟩
  · clear h
    subst hz8
    have h := h8
    obtain ⟨hv7, h9⟩ := vV_so h
    clear h
    subst hv7
    have h := h9
    refine Q.callV (gC_vi zm4 (show zM4.2.2.2.2.2[2]? = some (2, 3, .invokevirtual 27, [0, 52, 1, 0]) from rfl) zm52 (hl.lt (a := 78) (by decide)) (hl.T (a := 78) (p := (0, 7)) 0 rfl rfl) rfl (show aCr 1 78 [.int x1, .ref 78] 4 = some ([some (.ref 78), some (.int x1), none, none], []) from rfl)) hq1 ?_
    refine Q.run zm4 2 (i' := 8) (ls' := [some (.ref 78), some (.int x1), none]) (st' := [.int 0]) rfl ?_
    cases h
    exact Q.ret (A.ri zm4 (show zM4.2.2.2.2.2[8]? = some (12, 1, .ireturn, []) from rfl) rfl rfl) hq1.1
  · clear h
    subst hz8
    have h := h8
    by_cases hc9 : e6 = 2
    · rw [if_pos hc9] at h
      subst hc9
      refine Q.hc (gC_vi zm4 (show zM4.2.2.2.2.2[2]? = some (2, 3, .invokevirtual 27, [0, 52, 1, 0]) from rfl) zm52 (hl.lt (a := 78) (by decide)) (hl.T (a := 78) (p := (0, 7)) 0 rfl rfl) rfl (show aCr 1 78 [.int x1, .ref 78] 4 = some ([some (.ref 78), some (.int x1), none, none], []) from rfl)) hq1 (t := 4) rfl ?_
      refine Q.run zm4 2 (i' := 6) (ls' := [some (.ref 78), some (.int x1), some (.ref (sL s3 - 1))]) (st' := [.int 1]) rfl ?_
      cases h
      exact Q.ret (A.ri zm4 (show zM4.2.2.2.2.2[6]? = some (10, 1, .ireturn, []) from rfl) rfl rfl) hq1.1
    · rw [if_neg hc9] at h
      cases h
/-! 183 FormulaTreesModel.lose(I)V -/
set_option maxRecDepth 100000 in
theorem zm183 : zP[183]? = some zM183 := rfl
def dm183 (x1 : Int32) (s : aS) : Option (aS) :=
  if aB x1 1152 then
    nx (wI s 128 (jN x1) 2) fun s2 =>
    if aB x1 1152 then
      nx (wI s2 130 (jN x1) (-1)) fun s6 =>
      if aB x1 1152 then
        nx (wI s6 131 (jN x1) 0) fun s10 =>
        if aB x1 1152 then
          nx (wI s10 132 (jN x1) 0) fun s14 =>
          if aB x1 1152 then
            nx (wI s14 133 (jN x1) 0) fun s18 =>
            if aB x1 1152 then
              nx (wI s18 134 (jN x1) 0) fun s22 =>
              if aB x1 1152 then
                nx (wI s22 135 (jN x1) 0) fun s26 =>
                if aB x1 1152 then
                  nx (wI s26 136 (jN x1) 4) fun s30 =>
                  some s30
                else none
              else none
            else none
          else none
        else none
      else none
    else none
  else none
set_option maxRecDepth 100000 in
theorem dt183 {sio : Bool} {tt : Nat} {cc : Nat → Nat → Int32} {d : Nat} (hd : 0 ≤ d) {x1 : Int32} {s : aS} (hl : Ly tt cc s) {o : aS} (h : dm183  x1 s = some o) : Q 2 sio tt cc d 183 0 [some (.ref 121), some (.int x1)] [] s (.inl none, o) := by
  unfold dm183 at h
  refine Q.run zm183 1 (i' := 1) (ls' := [some (.ref 121), some (.int x1)]) (st' := [.ref 121]) rfl ?_
  refine Q.map (A.gf (gI_of zm183 (e := (1, 3, .getfield 29, [9, 9])) rfl) (hl.lt (a := 121) (by decide)) (hl.T (a := 121) (p := (9, 45)) 43 rfl rfl) (by decide) (hl.R 29 rfl)) ?_
  refine Q.run zm183 2 (i' := 4) (ls' := [some (.ref 121), some (.int x1)]) (st' := [.int 2, .int x1, .ref 128]) rfl ?_
  obtain ⟨hc1, h⟩ := ite_so h
  obtain ⟨s2, hs3, h⟩ := nx_so h
  refine Q.is hs3 rfl (gI_of zm183 (e := (6, 1, .iastore, [])) rfl) (hl.lt (a := 128) (by decide)) (by decide) (hl.T (a := 128) (p := (100, 1152)) 50 rfl rfl) hc1 ?_
  have hl4 : Ly tt cc s2 := by rw [hs3]; exact hl.wId (by decide)
  refine Q.run zm183 1 (i' := 6) (ls' := [some (.ref 121), some (.int x1)]) (st' := [.ref 121]) rfl ?_
  refine Q.map (A.gf (gI_of zm183 (e := (8, 3, .getfield 35, [9, 11])) rfl) (hl4.lt (a := 121) (by decide)) (hl4.T (a := 121) (p := (9, 45)) 43 rfl rfl) (by decide) (hl4.R 31 rfl)) ?_
  refine Q.run zm183 2 (i' := 9) (ls' := [some (.ref 121), some (.int x1)]) (st' := [.int (-1), .int x1, .ref 130]) rfl ?_
  obtain ⟨hc5, h⟩ := ite_so h
  obtain ⟨s6, hs7, h⟩ := nx_so h
  refine Q.is hs7 rfl (gI_of zm183 (e := (13, 1, .iastore, [])) rfl) (hl4.lt (a := 130) (by decide)) (by decide) (hl4.T (a := 130) (p := (100, 1152)) 52 rfl rfl) hc5 ?_
  have hl8 : Ly tt cc s6 := by rw [hs7]; exact hl4.wId (by decide)
  refine Q.run zm183 1 (i' := 11) (ls' := [some (.ref 121), some (.int x1)]) (st' := [.ref 121]) rfl ?_
  refine Q.map (A.gf (gI_of zm183 (e := (15, 3, .getfield 38, [9, 12])) rfl) (hl8.lt (a := 121) (by decide)) (hl8.T (a := 121) (p := (9, 45)) 43 rfl rfl) (by decide) (hl8.R 32 rfl)) ?_
  refine Q.run zm183 2 (i' := 14) (ls' := [some (.ref 121), some (.int x1)]) (st' := [.int 0, .int x1, .ref 131]) rfl ?_
  obtain ⟨hc9, h⟩ := ite_so h
  obtain ⟨s10, hs11, h⟩ := nx_so h
  refine Q.is hs11 rfl (gI_of zm183 (e := (20, 1, .iastore, [])) rfl) (hl8.lt (a := 131) (by decide)) (by decide) (hl8.T (a := 131) (p := (100, 1152)) 53 rfl rfl) hc9 ?_
  have hl12 : Ly tt cc s10 := by rw [hs11]; exact hl8.wId (by decide)
  refine Q.run zm183 1 (i' := 16) (ls' := [some (.ref 121), some (.int x1)]) (st' := [.ref 121]) rfl ?_
  refine Q.map (A.gf (gI_of zm183 (e := (22, 3, .getfield 41, [9, 13])) rfl) (hl12.lt (a := 121) (by decide)) (hl12.T (a := 121) (p := (9, 45)) 43 rfl rfl) (by decide) (hl12.R 33 rfl)) ?_
  refine Q.run zm183 2 (i' := 19) (ls' := [some (.ref 121), some (.int x1)]) (st' := [.int 0, .int x1, .ref 132]) rfl ?_
  obtain ⟨hc13, h⟩ := ite_so h
  obtain ⟨s14, hs15, h⟩ := nx_so h
  refine Q.is hs15 rfl (gI_of zm183 (e := (27, 1, .iastore, [])) rfl) (hl12.lt (a := 132) (by decide)) (by decide) (hl12.T (a := 132) (p := (100, 1152)) 54 rfl rfl) hc13 ?_
  have hl16 : Ly tt cc s14 := by rw [hs15]; exact hl12.wId (by decide)
  refine Q.run zm183 1 (i' := 21) (ls' := [some (.ref 121), some (.int x1)]) (st' := [.ref 121]) rfl ?_
  refine Q.map (A.gf (gI_of zm183 (e := (29, 3, .getfield 44, [9, 14])) rfl) (hl16.lt (a := 121) (by decide)) (hl16.T (a := 121) (p := (9, 45)) 43 rfl rfl) (by decide) (hl16.R 34 rfl)) ?_
  refine Q.run zm183 2 (i' := 24) (ls' := [some (.ref 121), some (.int x1)]) (st' := [.int 0, .int x1, .ref 133]) rfl ?_
  obtain ⟨hc17, h⟩ := ite_so h
  obtain ⟨s18, hs19, h⟩ := nx_so h
  refine Q.is hs19 rfl (gI_of zm183 (e := (34, 1, .iastore, [])) rfl) (hl16.lt (a := 133) (by decide)) (by decide) (hl16.T (a := 133) (p := (100, 1152)) 55 rfl rfl) hc17 ?_
  have hl20 : Ly tt cc s18 := by rw [hs19]; exact hl16.wId (by decide)
  refine Q.run zm183 1 (i' := 26) (ls' := [some (.ref 121), some (.int x1)]) (st' := [.ref 121]) rfl ?_
  refine Q.map (A.gf (gI_of zm183 (e := (36, 3, .getfield 47, [9, 15])) rfl) (hl20.lt (a := 121) (by decide)) (hl20.T (a := 121) (p := (9, 45)) 43 rfl rfl) (by decide) (hl20.R 35 rfl)) ?_
  refine Q.run zm183 2 (i' := 29) (ls' := [some (.ref 121), some (.int x1)]) (st' := [.int 0, .int x1, .ref 134]) rfl ?_
  obtain ⟨hc21, h⟩ := ite_so h
  obtain ⟨s22, hs23, h⟩ := nx_so h
  refine Q.is hs23 rfl (gI_of zm183 (e := (41, 1, .iastore, [])) rfl) (hl20.lt (a := 134) (by decide)) (by decide) (hl20.T (a := 134) (p := (100, 1152)) 56 rfl rfl) hc21 ?_
  have hl24 : Ly tt cc s22 := by rw [hs23]; exact hl20.wId (by decide)
  refine Q.run zm183 1 (i' := 31) (ls' := [some (.ref 121), some (.int x1)]) (st' := [.ref 121]) rfl ?_
  refine Q.map (A.gf (gI_of zm183 (e := (43, 3, .getfield 50, [9, 16])) rfl) (hl24.lt (a := 121) (by decide)) (hl24.T (a := 121) (p := (9, 45)) 43 rfl rfl) (by decide) (hl24.R 36 rfl)) ?_
  refine Q.run zm183 2 (i' := 34) (ls' := [some (.ref 121), some (.int x1)]) (st' := [.int 0, .int x1, .ref 135]) rfl ?_
  obtain ⟨hc25, h⟩ := ite_so h
  obtain ⟨s26, hs27, h⟩ := nx_so h
  refine Q.is hs27 rfl (gI_of zm183 (e := (48, 1, .iastore, [])) rfl) (hl24.lt (a := 135) (by decide)) (by decide) (hl24.T (a := 135) (p := (100, 1152)) 57 rfl rfl) hc25 ?_
  have hl28 : Ly tt cc s26 := by rw [hs27]; exact hl24.wId (by decide)
  refine Q.run zm183 1 (i' := 36) (ls' := [some (.ref 121), some (.int x1)]) (st' := [.ref 121]) rfl ?_
  refine Q.map (A.gf (gI_of zm183 (e := (50, 3, .getfield 53, [9, 17])) rfl) (hl28.lt (a := 121) (by decide)) (hl28.T (a := 121) (p := (9, 45)) 43 rfl rfl) (by decide) (hl28.R 37 rfl)) ?_
  refine Q.run zm183 2 (i' := 39) (ls' := [some (.ref 121), some (.int x1)]) (st' := [.int 4, .int x1, .ref 136]) rfl ?_
  obtain ⟨hc29, h⟩ := ite_so h
  obtain ⟨s30, hs31, h⟩ := nx_so h
  refine Q.is hs31 rfl (gI_of zm183 (e := (55, 1, .iastore, [])) rfl) (hl28.lt (a := 136) (by decide)) (by decide) (hl28.T (a := 136) (p := (100, 1152)) 58 rfl rfl) hc29 ?_
  have hl32 : Ly tt cc s30 := by rw [hs31]; exact hl28.wId (by decide)
  cases h
  exact Q.ret (A.rv zm183 (show zM183.2.2.2.2.2[40]? = some (56, 1, .return_, []) from rfl) rfl) hl32
/-! 182 FormulaTreesModel.drop(I)V -/
set_option maxRecDepth 100000 in
theorem zm182 : zP[182]? = some zM182 := rfl
def dm182_130 (k112 : Int32 → aS → Option (aS)) : Nat → Int32 → Int32 → aS → Option (aS)
  | 0, _, _, _ => none
  | n + 1, x2, x3, s =>
    if 32 ≤ x3 then
      k112 (x2 + 1) s
    else
      if aB (((32 * x2) + 32) + x3) 256 then
        if aB ((32 * x2) + x3) 256 then
          nx (wI s 124 (jN ((32 * x2) + x3)) (sI s 124 (jN (((32 * x2) + 32) + x3)))) fun s4 =>
          dm182_130 k112 n x2 (x3 + 1) s4
        else none
      else none
set_option maxRecDepth 100000 in
theorem dt182_130 {sio : Bool} {tt : Nat} {cc : Nat → Nat → Int32} {d : Nat} (hd : 1 ≤ d) {k112 : Int32 → aS → Option (aS)} (hk112 : ∀ {x2 : Int32} {x1 : Int32} {g3 : Option Value} {s : aS}, Ly tt cc s → ∀ {o : aS}, k112 x2 s = some o → Q 2 sio tt cc d 182 112 [some (.ref 121), some (.int x1), some (.int x2), g3] [] s (.inl none, o)) : ∀ (n : Nat) {x2 : Int32} {x3 : Int32} {x1 : Int32} {s : aS} (_ : Ly tt cc s) {o : aS} (_ : dm182_130 k112 n x2 x3 s = some o), Q 2 sio tt cc d 182 130 [some (.ref 121), some (.int x1), some (.int x2), some (.int x3)] [] s (.inl none, o) := by
  obtain ⟨d, rfl⟩ : ∃ e, d = e + 1 := ⟨d - 1, by omega⟩
  intro n
  induction n with
  | zero => intro x2 x3 x1 s hl o h; rw [dm182_130] at h; cases h
  | succ n ih =>
    intro x2 x3 x1 s hl o h
    rw [dm182_130] at h
    refine Q.run zm182 2 (i' := 132) (ls' := [some (.ref 121), some (.int x1), some (.int x2), some (.int x3)]) (st' := [.int 32, .int x3]) rfl ?_
    by_cases hc1 : 32 ≤ x3
    · rw [if_pos hc1] at h
      refine Q.map (A.bT (gI_of zm182 (e := (218, 3, .if_icmp .ge 34, [153])) rfl) (decide_eq_true hc1)) ?_
      refine Q.run zm182 2 (i' := 112) (ls' := [some (.ref 121), some (.int x1), some (.int (x2 + 1)), some (.int x3)]) (st' := []) rfl ?_
      exact hk112 hl  h
    · rw [if_neg hc1] at h
      refine Q.map (A.bF (gI_of zm182 (e := (218, 3, .if_icmp .ge 34, [153])) rfl) (fun q => hc1 (of_decide_eq_true q))) ?_
      refine Q.run zm182 1 (i' := 134) (ls' := [some (.ref 121), some (.int x1), some (.int x2), some (.int x3)]) (st' := [.ref 121]) rfl ?_
      refine Q.map (A.gf (gI_of zm182 (e := (222, 3, .getfield 16, [9, 5])) rfl) (hl.lt (a := 121) (by decide)) (hl.T (a := 121) (p := (9, 45)) 43 rfl rfl) (by decide) (hl.R 25 rfl)) ?_
      refine Q.run zm182 6 (i' := 141) (ls' := [some (.ref 121), some (.int x1), some (.int x2), some (.int x3)]) (st' := [.ref 121, .int ((32 * x2) + x3), .ref 124]) rfl ?_
      refine Q.map (A.gf (gI_of zm182 (e := (232, 3, .getfield 16, [9, 5])) rfl) (hl.lt (a := 121) (by decide)) (hl.T (a := 121) (p := (9, 45)) 43 rfl rfl) (by decide) (hl.R 25 rfl)) ?_
      refine Q.run zm182 7 (i' := 149) (ls' := [some (.ref 121), some (.int x1), some (.int x2), some (.int x3)]) (st' := [.int (((32 * x2) + 32) + x3), .ref 124, .int ((32 * x2) + x3), .ref 124]) rfl ?_
      obtain ⟨hc2, h⟩ := ite_so h
      refine Q.map (A.ia (gI_of zm182 (e := (244, 1, .iaload, [])) rfl) (hl.lt (a := 124) (by decide)) (hl.T (a := 124) (p := (100, 256)) 46 rfl rfl) hc2) ?_
      obtain ⟨hc3, h⟩ := ite_so h
      obtain ⟨s4, hs5, h⟩ := nx_so h
      refine Q.is hs5 rfl (gI_of zm182 (e := (245, 1, .iastore, [])) rfl) (hl.lt (a := 124) (by decide)) (by decide) (hl.T (a := 124) (p := (100, 256)) 46 rfl rfl) hc3 ?_
      have hl6 : Ly tt cc s4 := by rw [hs5]; exact hl.wId (by decide)
      refine Q.run zm182 2 (i' := 130) (ls' := [some (.ref 121), some (.int x1), some (.int x2), some (.int (x3 + 1))]) (st' := []) rfl ?_
      exact ih hl6  h
def dm182_108 (k15 : Int32 → Int32 → aS → Option (aS)) (x1 : Int32) (x2 : Int32) (s : aS) : Option (aS) :=
  k15 x1 (x2 + 1) s
set_option maxRecDepth 100000 in
theorem dt182_108 {sio : Bool} {tt : Nat} {cc : Nat → Nat → Int32} {d : Nat} (hd : 1 ≤ d) {k15 : Int32 → Int32 → aS → Option (aS)} (hk15 : ∀ {x1 : Int32} {x2 : Int32} {g3 : Option Value} {s : aS}, Ly tt cc s → ∀ {o : aS}, k15 x1 x2 s = some o → Q 2 sio tt cc d 182 15 [some (.ref 121), some (.int x1), some (.int x2), g3] [] s (.inl none, o)) {x1 : Int32} {x2 : Int32} {g3 : Option Value} {s : aS} (hl : Ly tt cc s) {o : aS} (h : dm182_108 k15 x1 x2 s = some o) : Q 2 sio tt cc d 182 108 [some (.ref 121), some (.int x1), some (.int x2), g3] [] s (.inl none, o) := by
  unfold dm182_108 at h
  obtain ⟨d, rfl⟩ : ∃ e, d = e + 1 := ⟨d - 1, by omega⟩
  refine Q.run zm182 2 (i' := 15) (ls' := [some (.ref 121), some (.int x1), some (.int (x2 + 1)), g3]) (st' := []) rfl ?_
  exact hk15 hl  h
def dm182_105 (k15 : Int32 → Int32 → aS → Option (aS)) (k66 : Int32 → Int32 → Int32 → aS → Option (aS)) (x1 : Int32) (x2 : Int32) (x3 : Int32) (y1 : Int32) (y2 : Int32) (s : aS) : Option (aS) :=
  if aB y1 1152 then
    nx (wI s 130 (jN y1) y2) fun s2 =>
    k66 x1 x2 (x3 + 1) s2
  else none
set_option maxRecDepth 100000 in
theorem dt182_105 {sio : Bool} {tt : Nat} {cc : Nat → Nat → Int32} {d : Nat} (hd : 1 ≤ d) {k15 : Int32 → Int32 → aS → Option (aS)} (hk15 : ∀ {x1 : Int32} {x2 : Int32} {g3 : Option Value} {s : aS}, Ly tt cc s → ∀ {o : aS}, k15 x1 x2 s = some o → Q 2 sio tt cc d 182 15 [some (.ref 121), some (.int x1), some (.int x2), g3] [] s (.inl none, o)) {k66 : Int32 → Int32 → Int32 → aS → Option (aS)} (hk66 : ∀ {x1 : Int32} {x2 : Int32} {x3 : Int32} {s : aS}, Ly tt cc s → ∀ {o : aS}, k66 x1 x2 x3 s = some o → Q 2 sio tt cc d 182 66 [some (.ref 121), some (.int x1), some (.int x2), some (.int x3)] [] s (.inl none, o)) {x1 : Int32} {x2 : Int32} {x3 : Int32} {y1 : Int32} {y2 : Int32} {s : aS} (hl : Ly tt cc s) {o : aS} (h : dm182_105 k15 k66 x1 x2 x3 y1 y2 s = some o) : Q 2 sio tt cc d 182 105 [some (.ref 121), some (.int x1), some (.int x2), some (.int x3)] [.int y2, .int y1, .ref 130] s (.inl none, o) := by
  unfold dm182_105 at h
  obtain ⟨d, rfl⟩ : ∃ e, d = e + 1 := ⟨d - 1, by omega⟩
  obtain ⟨hc1, h⟩ := ite_so h
  obtain ⟨s2, hs3, h⟩ := nx_so h
  refine Q.is hs3 rfl (gI_of zm182 (e := (174, 1, .iastore, [])) rfl) (hl.lt (a := 130) (by decide)) (by decide) (hl.T (a := 130) (p := (100, 1152)) 52 rfl rfl) hc1 ?_
  have hl4 : Ly tt cc s2 := by rw [hs3]; exact hl.wId (by decide)
  refine Q.run zm182 2 (i' := 66) (ls' := [some (.ref 121), some (.int x1), some (.int x2), some (.int (x3 + 1))]) (st' := []) rfl ?_
  exact hk66 hl4  h
def dm182_112 : Nat → Int32 → aS → Option (aS)
  | 0, _, _ => none
  | n + 1, x2, s =>
    if (sI s 121 3) ≤ (x2 + 1) then
      nx (wI s 121 3 ((sI s 121 3) - 1)) fun s2 =>
      some s2
    else
      if aB (x2 + 1) 8 then
        if aB x2 8 then
          nx (wI s 123 (jN x2) (sI s 123 (jN (x2 + 1)))) fun s7 =>
          dm182_130 (dm182_112 n) 5000 x2 0 s7
        else none
      else none
set_option maxRecDepth 100000 in
theorem dt182_112 {sio : Bool} {tt : Nat} {cc : Nat → Nat → Int32} {d : Nat} (hd : 1 ≤ d) : ∀ (n : Nat) {x2 : Int32} {x1 : Int32} {g3 : Option Value} {s : aS} (_ : Ly tt cc s) {o : aS} (_ : dm182_112  n x2 s = some o), Q 2 sio tt cc d 182 112 [some (.ref 121), some (.int x1), some (.int x2), g3] [] s (.inl none, o) := by
  obtain ⟨d, rfl⟩ : ∃ e, d = e + 1 := ⟨d - 1, by omega⟩
  intro n
  induction n with
  | zero => intro x2 x1 g3 s hl o h; rw [dm182_112] at h; cases h
  | succ n ih =>
    intro x2 x1 g3 s hl o h
    rw [dm182_112] at h
    refine Q.run zm182 4 (i' := 116) (ls' := [some (.ref 121), some (.int x1), some (.int x2), g3]) (st' := [.ref 121, .int (x2 + 1)]) rfl ?_
    refine Q.map (A.gf (gI_of zm182 (e := (193, 3, .getfield 106, [9, 3])) rfl) (hl.lt (a := 121) (by decide)) (hl.T (a := 121) (p := (9, 45)) 43 rfl rfl) (by decide) rfl) ?_
    by_cases hc1 : (sI s 121 3) ≤ (x2 + 1)
    · rw [if_pos hc1] at h
      refine Q.map (A.bT (gI_of zm182 (e := (196, 3, .if_icmp .ge 62, [155])) rfl) (decide_eq_true hc1)) ?_
      refine Q.run zm182 2 (i' := 157) (ls' := [some (.ref 121), some (.int x1), some (.int x2), g3]) (st' := [.ref 121, .ref 121]) rfl ?_
      refine Q.map (A.gf (gI_of zm182 (e := (260, 3, .getfield 106, [9, 3])) rfl) (hl.lt (a := 121) (by decide)) (hl.T (a := 121) (p := (9, 45)) 43 rfl rfl) (by decide) rfl) ?_
      refine Q.run zm182 2 (i' := 160) (ls' := [some (.ref 121), some (.int x1), some (.int x2), g3]) (st' := [.int ((sI s 121 3) - 1), .ref 121]) rfl ?_
      obtain ⟨s2, hs3, h⟩ := nx_so h
      refine Q.pf hs3 rfl (gI_of zm182 (e := (265, 3, .putfield 106, [9, 3, 0])) rfl) (hl.lt (a := 121) (by decide)) (by decide) (hl.T (a := 121) (p := (9, 45)) 43 rfl rfl) (by decide) rfl rfl ?_
      have hl4 : Ly tt cc s2 := by rw [hs3]; exact hl.wId (by decide)
      cases h
      exact Q.ret (A.rv zm182 (show zM182.2.2.2.2.2[161]? = some (268, 1, .return_, []) from rfl) rfl) hl4
    · rw [if_neg hc1] at h
      refine Q.map (A.bF (gI_of zm182 (e := (196, 3, .if_icmp .ge 62, [155])) rfl) (fun q => hc1 (of_decide_eq_true q))) ?_
      refine Q.run zm182 1 (i' := 119) (ls' := [some (.ref 121), some (.int x1), some (.int x2), g3]) (st' := [.ref 121]) rfl ?_
      refine Q.map (A.gf (gI_of zm182 (e := (200, 3, .getfield 13, [9, 4])) rfl) (hl.lt (a := 121) (by decide)) (hl.T (a := 121) (p := (9, 45)) 43 rfl rfl) (by decide) (hl.R 24 rfl)) ?_
      refine Q.run zm182 2 (i' := 122) (ls' := [some (.ref 121), some (.int x1), some (.int x2), g3]) (st' := [.ref 121, .int x2, .ref 123]) rfl ?_
      refine Q.map (A.gf (gI_of zm182 (e := (205, 3, .getfield 13, [9, 4])) rfl) (hl.lt (a := 121) (by decide)) (hl.T (a := 121) (p := (9, 45)) 43 rfl rfl) (by decide) (hl.R 24 rfl)) ?_
      refine Q.run zm182 3 (i' := 126) (ls' := [some (.ref 121), some (.int x1), some (.int x2), g3]) (st' := [.int (x2 + 1), .ref 123, .int x2, .ref 123]) rfl ?_
      obtain ⟨hc5, h⟩ := ite_so h
      refine Q.map (A.ia (gI_of zm182 (e := (211, 1, .iaload, [])) rfl) (hl.lt (a := 123) (by decide)) (hl.T (a := 123) (p := (100, 8)) 45 rfl rfl) hc5) ?_
      obtain ⟨hc6, h⟩ := ite_so h
      obtain ⟨s7, hs8, h⟩ := nx_so h
      refine Q.is hs8 rfl (gI_of zm182 (e := (212, 1, .iastore, [])) rfl) (hl.lt (a := 123) (by decide)) (by decide) (hl.T (a := 123) (p := (100, 8)) 45 rfl rfl) hc6 ?_
      have hl9 : Ly tt cc s7 := by rw [hs8]; exact hl.wId (by decide)
      refine Q.run zm182 2 (i' := 130) (ls' := [some (.ref 121), some (.int x1), some (.int x2), some (.int 0)]) (st' := []) rfl ?_
      exact dt182_130 hd ih _ hl9  h
def dm182_85 (k15 : Int32 → Int32 → aS → Option (aS)) (k66 : Int32 → Int32 → Int32 → aS → Option (aS)) (x1 : Int32) (x2 : Int32) (x3 : Int32) (s : aS) : Option (aS) :=
  if aB x3 1152 then
    if (sI s 130 (jN x3)) ≤ x1 then
      if aB x3 1152 then
        dm182_105 k15 k66 x1 x2 x3 x3 (sI s 130 (jN x3)) s
      else none
    else
      if aB x3 1152 then
        dm182_105 k15 k66 x1 x2 x3 x3 ((sI s 130 (jN x3)) - 1) s
      else none
  else none
set_option maxRecDepth 100000 in
theorem dt182_85 {sio : Bool} {tt : Nat} {cc : Nat → Nat → Int32} {d : Nat} (hd : 1 ≤ d) {k15 : Int32 → Int32 → aS → Option (aS)} (hk15 : ∀ {x1 : Int32} {x2 : Int32} {g3 : Option Value} {s : aS}, Ly tt cc s → ∀ {o : aS}, k15 x1 x2 s = some o → Q 2 sio tt cc d 182 15 [some (.ref 121), some (.int x1), some (.int x2), g3] [] s (.inl none, o)) {k66 : Int32 → Int32 → Int32 → aS → Option (aS)} (hk66 : ∀ {x1 : Int32} {x2 : Int32} {x3 : Int32} {s : aS}, Ly tt cc s → ∀ {o : aS}, k66 x1 x2 x3 s = some o → Q 2 sio tt cc d 182 66 [some (.ref 121), some (.int x1), some (.int x2), some (.int x3)] [] s (.inl none, o)) {x1 : Int32} {x2 : Int32} {x3 : Int32} {s : aS} (hl : Ly tt cc s) {o : aS} (h : dm182_85 k15 k66 x1 x2 x3 s = some o) : Q 2 sio tt cc d 182 85 [some (.ref 121), some (.int x1), some (.int x2), some (.int x3)] [] s (.inl none, o) := by
  unfold dm182_85 at h
  obtain ⟨d, rfl⟩ : ∃ e, d = e + 1 := ⟨d - 1, by omega⟩
  refine Q.run zm182 1 (i' := 86) (ls' := [some (.ref 121), some (.int x1), some (.int x2), some (.int x3)]) (st' := [.ref 121]) rfl ?_
  refine Q.map (A.gf (gI_of zm182 (e := (143, 3, .getfield 35, [9, 11])) rfl) (hl.lt (a := 121) (by decide)) (hl.T (a := 121) (p := (9, 45)) 43 rfl rfl) (by decide) (hl.R 31 rfl)) ?_
  refine Q.run zm182 2 (i' := 89) (ls' := [some (.ref 121), some (.int x1), some (.int x2), some (.int x3)]) (st' := [.ref 121, .int x3, .ref 130]) rfl ?_
  refine Q.map (A.gf (gI_of zm182 (e := (148, 3, .getfield 35, [9, 11])) rfl) (hl.lt (a := 121) (by decide)) (hl.T (a := 121) (p := (9, 45)) 43 rfl rfl) (by decide) (hl.R 31 rfl)) ?_
  refine Q.run zm182 1 (i' := 91) (ls' := [some (.ref 121), some (.int x1), some (.int x2), some (.int x3)]) (st' := [.int x3, .ref 130, .int x3, .ref 130]) rfl ?_
  obtain ⟨hc1, h⟩ := ite_so h
  refine Q.map (A.ia (gI_of zm182 (e := (152, 1, .iaload, [])) rfl) (hl.lt (a := 130) (by decide)) (hl.T (a := 130) (p := (100, 1152)) 52 rfl rfl) hc1) ?_
  refine Q.run zm182 1 (i' := 93) (ls' := [some (.ref 121), some (.int x1), some (.int x2), some (.int x3)]) (st' := [.int x1, .int (sI s 130 (jN x3)), .int x3, .ref 130]) rfl ?_
  by_cases hc2 : (sI s 130 (jN x3)) ≤ x1
  · rw [if_pos hc2] at h
    refine Q.map (A.bT (gI_of zm182 (e := (154, 3, .if_icmp .le 14, [101])) rfl) (decide_eq_true hc2)) ?_
    refine Q.run zm182 1 (i' := 102) (ls' := [some (.ref 121), some (.int x1), some (.int x2), some (.int x3)]) (st' := [.ref 121, .int x3, .ref 130]) rfl ?_
    refine Q.map (A.gf (gI_of zm182 (e := (169, 3, .getfield 35, [9, 11])) rfl) (hl.lt (a := 121) (by decide)) (hl.T (a := 121) (p := (9, 45)) 43 rfl rfl) (by decide) (hl.R 31 rfl)) ?_
    refine Q.run zm182 1 (i' := 104) (ls' := [some (.ref 121), some (.int x1), some (.int x2), some (.int x3)]) (st' := [.int x3, .ref 130, .int x3, .ref 130]) rfl ?_
    obtain ⟨hc3, h⟩ := ite_so h
    refine Q.map (A.ia (gI_of zm182 (e := (173, 1, .iaload, [])) rfl) (hl.lt (a := 130) (by decide)) (hl.T (a := 130) (p := (100, 1152)) 52 rfl rfl) hc3) ?_
    exact dt182_105 hd hk15 hk66 hl  h
  · rw [if_neg hc2] at h
    refine Q.map (A.bF (gI_of zm182 (e := (154, 3, .if_icmp .le 14, [101])) rfl) (fun q => hc2 (of_decide_eq_true q))) ?_
    refine Q.run zm182 1 (i' := 95) (ls' := [some (.ref 121), some (.int x1), some (.int x2), some (.int x3)]) (st' := [.ref 121, .int x3, .ref 130]) rfl ?_
    refine Q.map (A.gf (gI_of zm182 (e := (158, 3, .getfield 35, [9, 11])) rfl) (hl.lt (a := 121) (by decide)) (hl.T (a := 121) (p := (9, 45)) 43 rfl rfl) (by decide) (hl.R 31 rfl)) ?_
    refine Q.run zm182 1 (i' := 97) (ls' := [some (.ref 121), some (.int x1), some (.int x2), some (.int x3)]) (st' := [.int x3, .ref 130, .int x3, .ref 130]) rfl ?_
    obtain ⟨hc4, h⟩ := ite_so h
    refine Q.map (A.ia (gI_of zm182 (e := (162, 1, .iaload, [])) rfl) (hl.lt (a := 130) (by decide)) (hl.T (a := 130) (p := (100, 1152)) 52 rfl rfl) hc4) ?_
    refine Q.run zm182 3 (i' := 105) (ls' := [some (.ref 121), some (.int x1), some (.int x2), some (.int x3)]) (st' := [.int ((sI s 130 (jN x3)) - 1), .int x3, .ref 130]) rfl ?_
    exact dt182_105 hd hk15 hk66 hl  h
def dm182_66 (k15 : Int32 → Int32 → aS → Option (aS)) : Nat → Int32 → Int32 → Int32 → aS → Option (aS)
  | 0, _, _, _, _ => none
  | n + 1, x1, x2, x3, s =>
    if aB x2 9 then
      if ((128 * x2) + (sI s 127 (jN x2))) ≤ x3 then
        dm182_108 k15 x1 x2 s
      else
        if aB x3 1152 then
          if (sI s 130 (jN x3)) = x1 then
            bu (dm183 x3 s) fun s7 =>
            dm182_85 k15 (dm182_66 k15 n) x1 x2 x3 s7
          else
            dm182_85 k15 (dm182_66 k15 n) x1 x2 x3 s
        else none
    else none
set_option maxRecDepth 100000 in
theorem dt182_66 {sio : Bool} {tt : Nat} {cc : Nat → Nat → Int32} {d : Nat} (hd : 1 ≤ d) {k15 : Int32 → Int32 → aS → Option (aS)} (hk15 : ∀ {x1 : Int32} {x2 : Int32} {g3 : Option Value} {s : aS}, Ly tt cc s → ∀ {o : aS}, k15 x1 x2 s = some o → Q 2 sio tt cc d 182 15 [some (.ref 121), some (.int x1), some (.int x2), g3] [] s (.inl none, o)) : ∀ (n : Nat) {x1 : Int32} {x2 : Int32} {x3 : Int32} {s : aS} (_ : Ly tt cc s) {o : aS} (_ : dm182_66 k15 n x1 x2 x3 s = some o), Q 2 sio tt cc d 182 66 [some (.ref 121), some (.int x1), some (.int x2), some (.int x3)] [] s (.inl none, o) := by
  obtain ⟨d, rfl⟩ : ∃ e, d = e + 1 := ⟨d - 1, by omega⟩
  intro n
  induction n with
  | zero => intro x1 x2 x3 s hl o h; rw [dm182_66] at h; cases h
  | succ n ih =>
    intro x1 x2 x3 s hl o h
    rw [dm182_66] at h
    refine Q.run zm182 5 (i' := 71) (ls' := [some (.ref 121), some (.int x1), some (.int x2), some (.int x3)]) (st' := [.ref 121, .int (128 * x2), .int x3]) rfl ?_
    refine Q.map (A.gf (gI_of zm182 (e := (118, 3, .getfield 26, [9, 8])) rfl) (hl.lt (a := 121) (by decide)) (hl.T (a := 121) (p := (9, 45)) 43 rfl rfl) (by decide) (hl.R 28 rfl)) ?_
    refine Q.run zm182 1 (i' := 73) (ls' := [some (.ref 121), some (.int x1), some (.int x2), some (.int x3)]) (st' := [.int x2, .ref 127, .int (128 * x2), .int x3]) rfl ?_
    obtain ⟨hc1, h⟩ := ite_so h
    refine Q.map (A.ia (gI_of zm182 (e := (122, 1, .iaload, [])) rfl) (hl.lt (a := 127) (by decide)) (hl.T (a := 127) (p := (100, 9)) 49 rfl rfl) hc1) ?_
    refine Q.run zm182 1 (i' := 75) (ls' := [some (.ref 121), some (.int x1), some (.int x2), some (.int x3)]) (st' := [.int ((128 * x2) + (sI s 127 (jN x2))), .int x3]) rfl ?_
    by_cases hc2 : ((128 * x2) + (sI s 127 (jN x2))) ≤ x3
    · rw [if_pos hc2] at h
      refine Q.map (A.bT (gI_of zm182 (e := (124, 3, .if_icmp .ge 57, [108])) rfl) (decide_eq_true hc2)) ?_
      exact dt182_108 hd hk15 hl  h
    · rw [if_neg hc2] at h
      refine Q.map (A.bF (gI_of zm182 (e := (124, 3, .if_icmp .ge 57, [108])) rfl) (fun q => hc2 (of_decide_eq_true q))) ?_
      refine Q.run zm182 1 (i' := 77) (ls' := [some (.ref 121), some (.int x1), some (.int x2), some (.int x3)]) (st' := [.ref 121]) rfl ?_
      refine Q.map (A.gf (gI_of zm182 (e := (128, 3, .getfield 35, [9, 11])) rfl) (hl.lt (a := 121) (by decide)) (hl.T (a := 121) (p := (9, 45)) 43 rfl rfl) (by decide) (hl.R 31 rfl)) ?_
      refine Q.run zm182 1 (i' := 79) (ls' := [some (.ref 121), some (.int x1), some (.int x2), some (.int x3)]) (st' := [.int x3, .ref 130]) rfl ?_
      obtain ⟨hc3, h⟩ := ite_so h
      refine Q.map (A.ia (gI_of zm182 (e := (132, 1, .iaload, [])) rfl) (hl.lt (a := 130) (by decide)) (hl.T (a := 130) (p := (100, 1152)) 52 rfl rfl) hc3) ?_
      refine Q.run zm182 1 (i' := 81) (ls' := [some (.ref 121), some (.int x1), some (.int x2), some (.int x3)]) (st' := [.int x1, .int (sI s 130 (jN x3))]) rfl ?_
      by_cases hc4 : (sI s 130 (jN x3)) = x1
      · rw [if_pos hc4] at h
        refine Q.map (A.bF (gI_of zm182 (e := (134, 3, .if_icmp .ne 8, [85])) rfl) (fun q => of_decide_eq_true q hc4)) ?_
        refine Q.run zm182 2 (i' := 84) (ls' := [some (.ref 121), some (.int x1), some (.int x2), some (.int x3)]) (st' := [.int x3, .ref 121]) rfl ?_
        obtain ⟨s7, hc6, h⟩ := bu_so h
        have hq5 : Q 2 sio tt cc d 183 0 [some (.ref 121), some (.int x3)] [] s (.inl none, s7) := dt183 (by omega) hl  hc6
        refine Q.callV (gC_vi zm182 (show zM182.2.2.2.2.2[84]? = some (139, 3, .invokevirtual 131, [0, 183, 1, 9]) from rfl) zm183 (hl.lt (a := 121) (by decide)) (hl.T (a := 121) (p := (9, 45)) 43 rfl rfl) rfl (show aCr 1 121 [.int x3, .ref 121] 2 = some ([some (.ref 121), some (.int x3)], []) from rfl)) hq5 ?_
        exact dt182_85 hd hk15 ih hq5.1  h
      · rw [if_neg hc4] at h
        refine Q.map (A.bT (gI_of zm182 (e := (134, 3, .if_icmp .ne 8, [85])) rfl) (decide_eq_true hc4)) ?_
        exact dt182_85 hd hk15 ih hl  h
def dm182_61 (k15 : Int32 → Int32 → aS → Option (aS)) (x1 : Int32) (x2 : Int32) (y1 : Int32) (y2 : Int32) (s : aS) : Option (aS) :=
  if aB y1 8 then
    nx (wI s 126 (jN y1) y2) fun s2 =>
    dm182_66 k15 5000 x1 x2 (128 * x2) s2
  else none
set_option maxRecDepth 100000 in
theorem dt182_61 {sio : Bool} {tt : Nat} {cc : Nat → Nat → Int32} {d : Nat} (hd : 1 ≤ d) {k15 : Int32 → Int32 → aS → Option (aS)} (hk15 : ∀ {x1 : Int32} {x2 : Int32} {g3 : Option Value} {s : aS}, Ly tt cc s → ∀ {o : aS}, k15 x1 x2 s = some o → Q 2 sio tt cc d 182 15 [some (.ref 121), some (.int x1), some (.int x2), g3] [] s (.inl none, o)) {x1 : Int32} {x2 : Int32} {y1 : Int32} {y2 : Int32} {g3 : Option Value} {s : aS} (hl : Ly tt cc s) {o : aS} (h : dm182_61 k15 x1 x2 y1 y2 s = some o) : Q 2 sio tt cc d 182 61 [some (.ref 121), some (.int x1), some (.int x2), g3] [.int y2, .int y1, .ref 126] s (.inl none, o) := by
  unfold dm182_61 at h
  obtain ⟨d, rfl⟩ : ∃ e, d = e + 1 := ⟨d - 1, by omega⟩
  obtain ⟨hc1, h⟩ := ite_so h
  obtain ⟨s2, hs3, h⟩ := nx_so h
  refine Q.is hs3 rfl (gI_of zm182 (e := (104, 1, .iastore, [])) rfl) (hl.lt (a := 126) (by decide)) (by decide) (hl.T (a := 126) (p := (100, 8)) 48 rfl rfl) hc1 ?_
  have hl4 : Ly tt cc s2 := by rw [hs3]; exact hl.wId (by decide)
  refine Q.run zm182 4 (i' := 66) (ls' := [some (.ref 121), some (.int x1), some (.int x2), some (.int (128 * x2))]) (st' := []) rfl ?_
  exact dt182_66 hd hk15 _ hl4  h
def dm182_35 (k15 : Int32 → Int32 → aS → Option (aS)) (x1 : Int32) (x2 : Int32) (y1 : Int32) (y2 : Int32) (s : aS) : Option (aS) :=
  if aB y1 8 then
    nx (wI s 125 (jN y1) (y2 &&& 1)) fun s2 =>
    if aB x2 8 then
      if (sI s2 125 (jN x2)) = 0 then
        dm182_108 k15 x1 x2 s2
      else
        if aB x2 8 then
          if (sI s2 126 (jN x2)) ≤ x1 then
            if aB x2 8 then
              dm182_61 k15 x1 x2 x2 (sI s2 126 (jN x2)) s2
            else none
          else
            if aB x2 8 then
              dm182_61 k15 x1 x2 x2 ((sI s2 126 (jN x2)) - 1) s2
            else none
        else none
    else none
  else none
set_option maxRecDepth 100000 in
theorem dt182_35 {sio : Bool} {tt : Nat} {cc : Nat → Nat → Int32} {d : Nat} (hd : 1 ≤ d) {k15 : Int32 → Int32 → aS → Option (aS)} (hk15 : ∀ {x1 : Int32} {x2 : Int32} {g3 : Option Value} {s : aS}, Ly tt cc s → ∀ {o : aS}, k15 x1 x2 s = some o → Q 2 sio tt cc d 182 15 [some (.ref 121), some (.int x1), some (.int x2), g3] [] s (.inl none, o)) {x1 : Int32} {x2 : Int32} {y1 : Int32} {y2 : Int32} {g3 : Option Value} {s : aS} (hl : Ly tt cc s) {o : aS} (h : dm182_35 k15 x1 x2 y1 y2 s = some o) : Q 2 sio tt cc d 182 35 [some (.ref 121), some (.int x1), some (.int x2), g3] [.int y2, .int y1, .ref 125] s (.inl none, o) := by
  unfold dm182_35 at h
  obtain ⟨d, rfl⟩ : ∃ e, d = e + 1 := ⟨d - 1, by omega⟩
  obtain ⟨hc1, h⟩ := ite_so h
  obtain ⟨s2, hs3, h⟩ := nx_so h
  refine Q.bs hs3 rfl (gI_of zm182 (e := (62, 1, .bastore, [])) rfl) (hl.lt (a := 125) (by decide)) (by decide) (hl.T (a := 125) (p := (103, 8)) 47 rfl rfl) hc1 ?_
  have hl4 : Ly tt cc s2 := by rw [hs3]; exact hl.wId (by decide)
  refine Q.run zm182 1 (i' := 37) (ls' := [some (.ref 121), some (.int x1), some (.int x2), g3]) (st' := [.ref 121]) rfl ?_
  refine Q.map (A.gf (gI_of zm182 (e := (64, 3, .getfield 19, [9, 6])) rfl) (hl4.lt (a := 121) (by decide)) (hl4.T (a := 121) (p := (9, 45)) 43 rfl rfl) (by decide) (hl4.R 26 rfl)) ?_
  refine Q.run zm182 1 (i' := 39) (ls' := [some (.ref 121), some (.int x1), some (.int x2), g3]) (st' := [.int x2, .ref 125]) rfl ?_
  obtain ⟨hc5, h⟩ := ite_so h
  refine Q.map (A.ba (gI_of zm182 (e := (68, 1, .baload, [])) rfl) (hl4.lt (a := 125) (by decide)) (hl4.T (a := 125) (p := (103, 8)) 47 rfl rfl) (by decide) hc5) ?_
  by_cases hc6 : (sI s2 125 (jN x2)) = 0
  · rw [if_pos hc6] at h
    refine Q.map (A.zT (gI_of zm182 (e := (69, 3, .ifCond .eq 112, [108])) rfl) (decide_eq_true hc6)) ?_
    exact dt182_108 hd hk15 hl4  h
  · rw [if_neg hc6] at h
    refine Q.map (A.zF (gI_of zm182 (e := (69, 3, .ifCond .eq 112, [108])) rfl) (fun q => hc6 (of_decide_eq_true q))) ?_
    refine Q.run zm182 1 (i' := 42) (ls' := [some (.ref 121), some (.int x1), some (.int x2), g3]) (st' := [.ref 121]) rfl ?_
    refine Q.map (A.gf (gI_of zm182 (e := (73, 3, .getfield 23, [9, 7])) rfl) (hl4.lt (a := 121) (by decide)) (hl4.T (a := 121) (p := (9, 45)) 43 rfl rfl) (by decide) (hl4.R 27 rfl)) ?_
    refine Q.run zm182 2 (i' := 45) (ls' := [some (.ref 121), some (.int x1), some (.int x2), g3]) (st' := [.ref 121, .int x2, .ref 126]) rfl ?_
    refine Q.map (A.gf (gI_of zm182 (e := (78, 3, .getfield 23, [9, 7])) rfl) (hl4.lt (a := 121) (by decide)) (hl4.T (a := 121) (p := (9, 45)) 43 rfl rfl) (by decide) (hl4.R 27 rfl)) ?_
    refine Q.run zm182 1 (i' := 47) (ls' := [some (.ref 121), some (.int x1), some (.int x2), g3]) (st' := [.int x2, .ref 126, .int x2, .ref 126]) rfl ?_
    obtain ⟨hc7, h⟩ := ite_so h
    refine Q.map (A.ia (gI_of zm182 (e := (82, 1, .iaload, [])) rfl) (hl4.lt (a := 126) (by decide)) (hl4.T (a := 126) (p := (100, 8)) 48 rfl rfl) hc7) ?_
    refine Q.run zm182 1 (i' := 49) (ls' := [some (.ref 121), some (.int x1), some (.int x2), g3]) (st' := [.int x1, .int (sI s2 126 (jN x2)), .int x2, .ref 126]) rfl ?_
    by_cases hc8 : (sI s2 126 (jN x2)) ≤ x1
    · rw [if_pos hc8] at h
      refine Q.map (A.bT (gI_of zm182 (e := (84, 3, .if_icmp .le 14, [57])) rfl) (decide_eq_true hc8)) ?_
      refine Q.run zm182 1 (i' := 58) (ls' := [some (.ref 121), some (.int x1), some (.int x2), g3]) (st' := [.ref 121, .int x2, .ref 126]) rfl ?_
      refine Q.map (A.gf (gI_of zm182 (e := (99, 3, .getfield 23, [9, 7])) rfl) (hl4.lt (a := 121) (by decide)) (hl4.T (a := 121) (p := (9, 45)) 43 rfl rfl) (by decide) (hl4.R 27 rfl)) ?_
      refine Q.run zm182 1 (i' := 60) (ls' := [some (.ref 121), some (.int x1), some (.int x2), g3]) (st' := [.int x2, .ref 126, .int x2, .ref 126]) rfl ?_
      obtain ⟨hc9, h⟩ := ite_so h
      refine Q.map (A.ia (gI_of zm182 (e := (103, 1, .iaload, [])) rfl) (hl4.lt (a := 126) (by decide)) (hl4.T (a := 126) (p := (100, 8)) 48 rfl rfl) hc9) ?_
      exact dt182_61 hd hk15 hl4  h
    · rw [if_neg hc8] at h
      refine Q.map (A.bF (gI_of zm182 (e := (84, 3, .if_icmp .le 14, [57])) rfl) (fun q => hc8 (of_decide_eq_true q))) ?_
      refine Q.run zm182 1 (i' := 51) (ls' := [some (.ref 121), some (.int x1), some (.int x2), g3]) (st' := [.ref 121, .int x2, .ref 126]) rfl ?_
      refine Q.map (A.gf (gI_of zm182 (e := (88, 3, .getfield 23, [9, 7])) rfl) (hl4.lt (a := 121) (by decide)) (hl4.T (a := 121) (p := (9, 45)) 43 rfl rfl) (by decide) (hl4.R 27 rfl)) ?_
      refine Q.run zm182 1 (i' := 53) (ls' := [some (.ref 121), some (.int x1), some (.int x2), g3]) (st' := [.int x2, .ref 126, .int x2, .ref 126]) rfl ?_
      obtain ⟨hc10, h⟩ := ite_so h
      refine Q.map (A.ia (gI_of zm182 (e := (92, 1, .iaload, [])) rfl) (hl4.lt (a := 126) (by decide)) (hl4.T (a := 126) (p := (100, 8)) 48 rfl rfl) hc10) ?_
      refine Q.run zm182 3 (i' := 61) (ls' := [some (.ref 121), some (.int x1), some (.int x2), g3]) (st' := [.int ((sI s2 126 (jN x2)) - 1), .int x2, .ref 126]) rfl ?_
      exact dt182_61 hd hk15 hl4  h
def dm182_34 (k15 : Int32 → Int32 → aS → Option (aS)) (x1 : Int32) (x2 : Int32) (y1 : Int32) (s : aS) : Option (aS) :=
  dm182_35 k15 x1 x2 y1 0 s
set_option maxRecDepth 100000 in
theorem dt182_34 {sio : Bool} {tt : Nat} {cc : Nat → Nat → Int32} {d : Nat} (hd : 1 ≤ d) {k15 : Int32 → Int32 → aS → Option (aS)} (hk15 : ∀ {x1 : Int32} {x2 : Int32} {g3 : Option Value} {s : aS}, Ly tt cc s → ∀ {o : aS}, k15 x1 x2 s = some o → Q 2 sio tt cc d 182 15 [some (.ref 121), some (.int x1), some (.int x2), g3] [] s (.inl none, o)) {x1 : Int32} {x2 : Int32} {y1 : Int32} {g3 : Option Value} {s : aS} (hl : Ly tt cc s) {o : aS} (h : dm182_34 k15 x1 x2 y1 s = some o) : Q 2 sio tt cc d 182 34 [some (.ref 121), some (.int x1), some (.int x2), g3] [.int y1, .ref 125] s (.inl none, o) := by
  unfold dm182_34 at h
  obtain ⟨d, rfl⟩ : ∃ e, d = e + 1 := ⟨d - 1, by omega⟩
  refine Q.run zm182 1 (i' := 35) (ls' := [some (.ref 121), some (.int x1), some (.int x2), g3]) (st' := [.int 0, .int y1, .ref 125]) rfl ?_
  exact dt182_35 hd hk15 hl  h
def dm182_15 : Nat → Int32 → Int32 → aS → Option (aS)
  | 0, _, _, _ => none
  | n + 1, x1, x2, s =>
    if 8 ≤ x2 then
      dm182_112 5000 x1 s
    else
      if aB x2 8 then
        if (sI s 125 (jN x2)) = 0 then
          dm182_34 (dm182_15 n) x1 x2 x2 s
        else
          if aB x2 8 then
            if (sI s 126 (jN x2)) = x1 then
              dm182_34 (dm182_15 n) x1 x2 x2 s
            else
              dm182_35 (dm182_15 n) x1 x2 x2 1 s
          else none
      else none
set_option maxRecDepth 100000 in
theorem dt182_15 {sio : Bool} {tt : Nat} {cc : Nat → Nat → Int32} {d : Nat} (hd : 1 ≤ d) : ∀ (n : Nat) {x1 : Int32} {x2 : Int32} {g3 : Option Value} {s : aS} (_ : Ly tt cc s) {o : aS} (_ : dm182_15  n x1 x2 s = some o), Q 2 sio tt cc d 182 15 [some (.ref 121), some (.int x1), some (.int x2), g3] [] s (.inl none, o) := by
  obtain ⟨d, rfl⟩ : ∃ e, d = e + 1 := ⟨d - 1, by omega⟩
  intro n
  induction n with
  | zero => intro x1 x2 g3 s hl o h; rw [dm182_15] at h; cases h
  | succ n ih =>
    intro x1 x2 g3 s hl o h
    rw [dm182_15] at h
    refine Q.run zm182 2 (i' := 17) (ls' := [some (.ref 121), some (.int x1), some (.int x2), g3]) (st' := [.int 8, .int x2]) rfl ?_
    by_cases hc1 : 8 ≤ x2
    · rw [if_pos hc1] at h
      refine Q.map (A.bT (gI_of zm182 (e := (30, 3, .if_icmp .ge 157, [110])) rfl) (decide_eq_true hc1)) ?_
      refine Q.run zm182 2 (i' := 112) (ls' := [some (.ref 121), some (.int x1), some (.int x1), g3]) (st' := []) rfl ?_
      exact dt182_112 hd _ hl  h
    · rw [if_neg hc1] at h
      refine Q.map (A.bF (gI_of zm182 (e := (30, 3, .if_icmp .ge 157, [110])) rfl) (fun q => hc1 (of_decide_eq_true q))) ?_
      refine Q.run zm182 1 (i' := 19) (ls' := [some (.ref 121), some (.int x1), some (.int x2), g3]) (st' := [.ref 121]) rfl ?_
      refine Q.map (A.gf (gI_of zm182 (e := (34, 3, .getfield 19, [9, 6])) rfl) (hl.lt (a := 121) (by decide)) (hl.T (a := 121) (p := (9, 45)) 43 rfl rfl) (by decide) (hl.R 26 rfl)) ?_
      refine Q.run zm182 2 (i' := 22) (ls' := [some (.ref 121), some (.int x1), some (.int x2), g3]) (st' := [.ref 121, .int x2, .ref 125]) rfl ?_
      refine Q.map (A.gf (gI_of zm182 (e := (39, 3, .getfield 19, [9, 6])) rfl) (hl.lt (a := 121) (by decide)) (hl.T (a := 121) (p := (9, 45)) 43 rfl rfl) (by decide) (hl.R 26 rfl)) ?_
      refine Q.run zm182 1 (i' := 24) (ls' := [some (.ref 121), some (.int x1), some (.int x2), g3]) (st' := [.int x2, .ref 125, .int x2, .ref 125]) rfl ?_
      obtain ⟨hc2, h⟩ := ite_so h
      refine Q.map (A.ba (gI_of zm182 (e := (43, 1, .baload, [])) rfl) (hl.lt (a := 125) (by decide)) (hl.T (a := 125) (p := (103, 8)) 47 rfl rfl) (by decide) hc2) ?_
      by_cases hc3 : (sI s 125 (jN x2)) = 0
      · rw [if_pos hc3] at h
        refine Q.map (A.zT (gI_of zm182 (e := (44, 3, .ifCond .eq 17, [34])) rfl) (decide_eq_true hc3)) ?_
        exact dt182_34 hd ih hl  h
      · rw [if_neg hc3] at h
        refine Q.map (A.zF (gI_of zm182 (e := (44, 3, .ifCond .eq 17, [34])) rfl) (fun q => hc3 (of_decide_eq_true q))) ?_
        refine Q.run zm182 1 (i' := 27) (ls' := [some (.ref 121), some (.int x1), some (.int x2), g3]) (st' := [.ref 121, .int x2, .ref 125]) rfl ?_
        refine Q.map (A.gf (gI_of zm182 (e := (48, 3, .getfield 23, [9, 7])) rfl) (hl.lt (a := 121) (by decide)) (hl.T (a := 121) (p := (9, 45)) 43 rfl rfl) (by decide) (hl.R 27 rfl)) ?_
        refine Q.run zm182 1 (i' := 29) (ls' := [some (.ref 121), some (.int x1), some (.int x2), g3]) (st' := [.int x2, .ref 126, .int x2, .ref 125]) rfl ?_
        obtain ⟨hc4, h⟩ := ite_so h
        refine Q.map (A.ia (gI_of zm182 (e := (52, 1, .iaload, [])) rfl) (hl.lt (a := 126) (by decide)) (hl.T (a := 126) (p := (100, 8)) 48 rfl rfl) hc4) ?_
        refine Q.run zm182 1 (i' := 31) (ls' := [some (.ref 121), some (.int x1), some (.int x2), g3]) (st' := [.int x1, .int (sI s 126 (jN x2)), .int x2, .ref 125]) rfl ?_
        by_cases hc5 : (sI s 126 (jN x2)) = x1
        · rw [if_pos hc5] at h
          refine Q.map (A.bT (gI_of zm182 (e := (54, 3, .if_icmp .eq 7, [34])) rfl) (decide_eq_true hc5)) ?_
          exact dt182_34 hd ih hl  h
        · rw [if_neg hc5] at h
          refine Q.map (A.bF (gI_of zm182 (e := (54, 3, .if_icmp .eq 7, [34])) rfl) (fun q => hc5 (of_decide_eq_true q))) ?_
          refine Q.run zm182 2 (i' := 35) (ls' := [some (.ref 121), some (.int x1), some (.int x2), g3]) (st' := [.int 1, .int x2, .ref 125]) rfl ?_
          exact dt182_35 hd ih hl  h
def dm182_8 (x1 : Int32) (y1 : Int32) (s : aS) : Option (aS) :=
  nx (wI s 121 0 y1) fun s1 =>
  if (sI s1 121 0) ≤ 0 then
    dm182_15 5000 x1 0 s1
  else
    some s1
set_option maxRecDepth 100000 in
theorem dt182_8 {sio : Bool} {tt : Nat} {cc : Nat → Nat → Int32} {d : Nat} (hd : 1 ≤ d) {x1 : Int32} {y1 : Int32} {s : aS} (hl : Ly tt cc s) {o : aS} (h : dm182_8  x1 y1 s = some o) : Q 2 sio tt cc d 182 8 [some (.ref 121), some (.int x1), none, none] [.int y1, .ref 121] s (.inl none, o) := by
  unfold dm182_8 at h
  obtain ⟨d, rfl⟩ : ∃ e, d = e + 1 := ⟨d - 1, by omega⟩
  obtain ⟨s1, hs2, h⟩ := nx_so h
  refine Q.pf hs2 rfl (gI_of zm182 (e := (14, 3, .putfield 89, [9, 0, 0])) rfl) (hl.lt (a := 121) (by decide)) (by decide) (hl.T (a := 121) (p := (9, 45)) 43 rfl rfl) (by decide) rfl rfl ?_
  have hl3 : Ly tt cc s1 := by rw [hs2]; exact hl.wId (by decide)
  refine Q.run zm182 1 (i' := 10) (ls' := [some (.ref 121), some (.int x1), none, none]) (st' := [.ref 121]) rfl ?_
  refine Q.map (A.gf (gI_of zm182 (e := (18, 3, .getfield 89, [9, 0])) rfl) (hl3.lt (a := 121) (by decide)) (hl3.T (a := 121) (p := (9, 45)) 43 rfl rfl) (by decide) rfl) ?_
  by_cases hc4 : (sI s1 121 0) ≤ 0
  · rw [if_pos hc4] at h
    refine Q.map (A.zT (gI_of zm182 (e := (21, 3, .ifCond .le 4, [13])) rfl) (decide_eq_true hc4)) ?_
    refine Q.run zm182 2 (i' := 15) (ls' := [some (.ref 121), some (.int x1), some (.int 0), none]) (st' := []) rfl ?_
    exact dt182_15 hd _ hl3  h
  · rw [if_neg hc4] at h
    refine Q.map (A.zF (gI_of zm182 (e := (21, 3, .ifCond .le 4, [13])) rfl) (fun q => hc4 (of_decide_eq_true q))) ?_
    cases h
    exact Q.ret (A.rv zm182 (show zM182.2.2.2.2.2[12]? = some (24, 1, .return_, []) from rfl) rfl) hl3
def dm182 (x1 : Int32) (s : aS) : Option (aS) :=
  bu (dm181 x1 s) fun r3 =>
  if r3 = 0 then
    dm182_8 x1 0 s
  else
    dm182_8 x1 1 s
set_option maxRecDepth 100000 in
theorem dt182 {sio : Bool} {tt : Nat} {cc : Nat → Nat → Int32} {d : Nat} (hd : 1 ≤ d) {x1 : Int32} {s : aS} (hl : Ly tt cc s) {o : aS} (h : dm182  x1 s = some o) : Q 2 sio tt cc d 182 0 [some (.ref 121), some (.int x1), none, none] [] s (.inl none, o) := by
  unfold dm182 at h
  obtain ⟨d, rfl⟩ : ∃ e, d = e + 1 := ⟨d - 1, by omega⟩
  refine Q.run zm182 3 (i' := 3) (ls' := [some (.ref 121), some (.int x1), none, none]) (st' := [.int x1, .ref 121, .ref 121]) rfl ?_
  obtain ⟨r3, hc2, h⟩ := bu_so h
  have hq1 : Q 2 sio tt cc d 181 0 [some (.ref 121), some (.int x1)] [] s (.inl (some (.int r3)), s) := dt181 (by omega) hl  hc2
  refine Q.callI (gC_vi zm182 (show zM182.2.2.2.2.2[3]? = some (3, 3, .invokevirtual 128, [0, 181, 1, 9]) from rfl) zm181 (hl.lt (a := 121) (by decide)) (hl.T (a := 121) (p := (9, 45)) 43 rfl rfl) rfl (show aCr 1 121 [.int x1, .ref 121, .ref 121] 2 = some ([some (.ref 121), some (.int x1)], [.ref 121]) from rfl)) hq1 ?_
  by_cases hc4 : r3 = 0
  · rw [if_pos hc4] at h
    refine Q.map (A.zT (gI_of zm182 (e := (6, 3, .ifCond .eq 7, [7])) rfl) (decide_eq_true hc4)) ?_
    refine Q.run zm182 1 (i' := 8) (ls' := [some (.ref 121), some (.int x1), none, none]) (st' := [.int 0, .ref 121]) rfl ?_
    exact dt182_8 hd hl  h
  · rw [if_neg hc4] at h
    refine Q.map (A.zF (gI_of zm182 (e := (6, 3, .ifCond .eq 7, [7])) rfl) (fun q => hc4 (of_decide_eq_true q))) ?_
    refine Q.run zm182 2 (i' := 8) (ls' := [some (.ref 121), some (.int x1), none, none]) (st' := [.int 1, .ref 121]) rfl ?_
    exact dt182_8 hd hl  h
/-! 171 FormulaTreesModel.thrown()I -/
set_option maxRecDepth 100000 in
theorem zm171 : zP[171]? = some zM171 := rfl
def dm171 (s : aS) : Option (Int32) :=
  some (sI s 121 0)
set_option maxRecDepth 100000 in
theorem dt171 {sio : Bool} {tt : Nat} {cc : Nat → Nat → Int32} {d : Nat} (hd : 0 ≤ d) {s : aS} (hl : Ly tt cc s) {o : Int32} (h : dm171  s = some o) : Q 2 sio tt cc d 171 0 [some (.ref 121)] [] s (.inl (some (.int o)), s) := by
  unfold dm171 at h
  refine Q.run zm171 1 (i' := 1) (ls' := [some (.ref 121)]) (st' := [.ref 121]) rfl ?_
  refine Q.map (A.gf (gI_of zm171 (e := (1, 3, .getfield 89, [9, 0])) rfl) (hl.lt (a := 121) (by decide)) (hl.T (a := 121) (p := (9, 45)) 43 rfl rfl) (by decide) rfl) ?_
  cases h
  exact Q.ret (A.ri zm171 (show zM171.2.2.2.2.2[2]? = some (4, 1, .ireturn, []) from rfl) rfl rfl) hl
/-! 64 FormulaTrees$Tree.clear()V -/
set_option maxRecDepth 100000 in
theorem zm64 : zP[64]? = some zM64 := rfl
def dm64 (b0 : Nat) (s : aS) : Option (aS) :=
  nx (wI s b0 2 0) fun s1 =>
  bu (dm26 (b0 + 2) s1) fun s7 =>
  some s7
set_option maxRecDepth 100000 in
theorem dt64 {sio : Bool} {tt : Nat} {cc : Nat → Nat → Int32} {d : Nat} (hd : 1 ≤ d) {b0 : Nat} {s : aS} (hl : Ly tt cc s) (hk_b0 : aK s b0 3) {o : aS} (h : dm64  b0 s = some o) : Q 1 sio tt cc d 64 0 [some (.ref b0)] [] s (.inl none, o) := by
  unfold dm64 at h
  obtain ⟨d, rfl⟩ : ∃ e, d = e + 1 := ⟨d - 1, by omega⟩
  refine Q.run zm64 2 (i' := 2) (ls' := [some (.ref b0)]) (st' := [.int 0, .ref b0]) rfl ?_
  obtain ⟨s1, hs2, h⟩ := nx_so h
  refine Q.pf hs2 (hl.g3 hk_b0) (gI_of zm64 (e := (2, 3, .putfield 24, [3, 2, 0])) rfl) hk_b0.1 (hl.tr hk_b0).2.2.2.2.2.2.2 (hl.tr hk_b0).1 (by decide) rfl rfl ?_
  have hl3 : Ly tt cc s1 := by rw [hs2]; exact hl.wId (hl.tr hk_b0).2.2.2.2.2.2.2
  have hr4 : aK s1 b0 3 := by rw [hs2]; exact hk_b0
  refine Q.run zm64 1 (i' := 4) (ls' := [some (.ref b0)]) (st' := [.ref b0]) rfl ?_
  refine Q.map (A.gf (gI_of zm64 (e := (6, 3, .getfield 20, [3, 1])) rfl) hr4.1 (hl3.tr hr4).1 (by decide) (hl3.tr hr4).2.2.1) ?_
  obtain ⟨s7, hc6, h⟩ := bu_so h
  have hq5 : Q 1 sio tt cc d 26 0 [some (.ref (b0 + 2))] [] s1 (.inl none, s7) := dt26 (by omega) hl3 (hl3.leK hr4) hc6
  refine Q.callV (gC_vi zm64 (show zM64.2.2.2.2.2[5]? = some (9, 3, .invokevirtual 36, [0, 26, 0, 1]) from rfl) zm26 (by have := (hl3.tr hr4).2.2.2.1; omega) (hl3.tr hr4).2.2.2.2.2.1 rfl (show aCr 0 (b0 + 2) [.ref (b0 + 2)] 1 = some ([some (.ref (b0 + 2))], []) from rfl)) hq5 ?_
  have hr8 : aK s7 b0 3 := hq5.2.1.k hr4
  cases h
  exact Q.ret (A.rv zm64 (show zM64.2.2.2.2.2[6]? = some (12, 1, .return_, []) from rfl) rfl) hq5.1
/-! 65 FormulaTrees$Pending.cutTo(I)V -/
set_option maxRecDepth 100000 in
theorem zm65 : zP[65]? = some zM65 := rfl
def dm65 (x1 : Int32) (s : aS) : Option (aS) :=
  if x1 < 0 then
    some s
  else
    if (sI s 110 2) ≤ x1 then
      some s
    else
      nx (wI s 110 2 x1) fun s3 =>
      some s3
set_option maxRecDepth 100000 in
theorem dt65 {sio : Bool} {tt : Nat} {cc : Nat → Nat → Int32} {d : Nat} (hd : 0 ≤ d) {x1 : Int32} {s : aS} (hl : Ly tt cc s) {o : aS} (h : dm65  x1 s = some o) : Q 1 sio tt cc d 65 0 [some (.ref 110), some (.int x1)] [] s (.inl none, o) := by
  unfold dm65 at h
  refine Q.run zm65 1 (i' := 1) (ls' := [some (.ref 110), some (.int x1)]) (st' := [.int x1]) rfl ?_
  by_cases hc1 : x1 < 0
  · rw [if_pos hc1] at h
    refine Q.map (A.zT (gI_of zm65 (e := (1, 3, .ifCond .lt 16, [9])) rfl) (decide_eq_true hc1)) ?_
    cases h
    exact Q.ret (A.rv zm65 (show zM65.2.2.2.2.2[9]? = some (17, 1, .return_, []) from rfl) rfl) hl
  · rw [if_neg hc1] at h
    refine Q.map (A.zF (gI_of zm65 (e := (1, 3, .ifCond .lt 16, [9])) rfl) (fun q => hc1 (of_decide_eq_true q))) ?_
    refine Q.run zm65 2 (i' := 4) (ls' := [some (.ref 110), some (.int x1)]) (st' := [.ref 110, .int x1]) rfl ?_
    refine Q.map (A.gf (gI_of zm65 (e := (6, 3, .getfield 18, [6, 2])) rfl) (hl.lt (a := 110) (by decide)) (hl.T (a := 110) (p := (6, 3)) 32 rfl rfl) (by decide) rfl) ?_
    by_cases hc2 : (sI s 110 2) ≤ x1
    · rw [if_pos hc2] at h
      refine Q.map (A.bT (gI_of zm65 (e := (9, 3, .if_icmp .ge 8, [9])) rfl) (decide_eq_true hc2)) ?_
      cases h
      exact Q.ret (A.rv zm65 (show zM65.2.2.2.2.2[9]? = some (17, 1, .return_, []) from rfl) rfl) hl
    · rw [if_neg hc2] at h
      refine Q.map (A.bF (gI_of zm65 (e := (9, 3, .if_icmp .ge 8, [9])) rfl) (fun q => hc2 (of_decide_eq_true q))) ?_
      refine Q.run zm65 2 (i' := 8) (ls' := [some (.ref 110), some (.int x1)]) (st' := [.int x1, .ref 110]) rfl ?_
      obtain ⟨s3, hs4, h⟩ := nx_so h
      refine Q.pf hs4 rfl (gI_of zm65 (e := (14, 3, .putfield 18, [6, 2, 0])) rfl) (hl.lt (a := 110) (by decide)) (by decide) (hl.T (a := 110) (p := (6, 3)) 32 rfl rfl) (by decide) rfl rfl ?_
      have hl5 : Ly tt cc s3 := by rw [hs4]; exact hl.wId (by decide)
      cases h
      exact Q.ret (A.rv zm65 (show zM65.2.2.2.2.2[9]? = some (17, 1, .return_, []) from rfl) rfl) hl5
/-! 66 FormulaTrees$Brackets.clear()V -/
set_option maxRecDepth 100000 in
theorem zm66 : zP[66]? = some zM66 := rfl
def dm66 (s : aS) : Option (aS) :=
  nx (wI s 113 3 0) fun s1 =>
  some s1
set_option maxRecDepth 100000 in
theorem dt66 {sio : Bool} {tt : Nat} {cc : Nat → Nat → Int32} {d : Nat} (hd : 0 ≤ d) {s : aS} (hl : Ly tt cc s) {o : aS} (h : dm66  s = some o) : Q 1 sio tt cc d 66 0 [some (.ref 113)] [] s (.inl none, o) := by
  unfold dm66 at h
  refine Q.run zm66 2 (i' := 2) (ls' := [some (.ref 113)]) (st' := [.int 0, .ref 113]) rfl ?_
  obtain ⟨s1, hs2, h⟩ := nx_so h
  refine Q.pf hs2 rfl (gI_of zm66 (e := (2, 3, .putfield 21, [7, 3, 0])) rfl) (hl.lt (a := 113) (by decide)) (by decide) (hl.T (a := 113) (p := (7, 4)) 35 rfl rfl) (by decide) rfl rfl ?_
  have hl3 : Ly tt cc s1 := by rw [hs2]; exact hl.wId (by decide)
  cases h
  exact Q.ret (A.rv zm66 (show zM66.2.2.2.2.2[3]? = some (5, 1, .return_, []) from rfl) rfl) hl3
/-! 67 FormulaTrees$Reader.skipSpaces()V -/
set_option maxRecDepth 100000 in
theorem zm67 : zP[67]? = some zM67 := rfl
def dm67_0 : Nat → aS → Option (aS)
  | 0, _ => none
  | n + 1, s =>
    bu (dm28 79 s) fun r3 =>
    if r3 ≤ (sI s 106 7) then
      some s
    else
      bu (dm34 79 (sI s 106 7) s) fun r7 =>
      if r7 = 32 then
        nx (wI s 106 7 ((sI s 106 7) + 1)) fun s9 =>
        dm67_0 n s9
      else
        some s
set_option maxRecDepth 100000 in
theorem dt67_0 {sio : Bool} {tt : Nat} {cc : Nat → Nat → Int32} {d : Nat} (hd : 1 ≤ d) : ∀ (n : Nat) {s : aS} (_ : Ly tt cc s) {o : aS} (_ : dm67_0  n s = some o), Q 1 sio tt cc d 67 0 [some (.ref 106)] [] s (.inl none, o) := by
  obtain ⟨d, rfl⟩ : ∃ e, d = e + 1 := ⟨d - 1, by omega⟩
  intro n
  induction n with
  | zero => intro s hl o h; rw [dm67_0] at h; cases h
  | succ n ih =>
    intro s hl o h
    rw [dm67_0] at h
    refine Q.run zm67 1 (i' := 1) (ls' := [some (.ref 106)]) (st' := [.ref 106]) rfl ?_
    refine Q.map (A.gf (gI_of zm67 (e := (1, 3, .getfield 61, [4, 7])) rfl) (hl.lt (a := 106) (by decide)) (hl.T (a := 106) (p := (4, 13)) 28 rfl rfl) (by decide) rfl) ?_
    refine Q.run zm67 1 (i' := 3) (ls' := [some (.ref 106)]) (st' := [.ref 106, .int (sI s 106 7)]) rfl ?_
    refine Q.map (A.gf (gI_of zm67 (e := (5, 3, .getfield 41, [4, 0])) rfl) (hl.lt (a := 106) (by decide)) (hl.T (a := 106) (p := (4, 13)) 28 rfl rfl) (by decide) (hl.R 8 rfl)) ?_
    obtain ⟨r3, hc2, h⟩ := bu_so h
    have hq1 : Q 1 sio tt cc d 28 0 [some (.ref 79)] [] s (.inl (some (.int r3)), s) := dt28 (by omega) hl (hl.Kd (a := 79) (c := 1) (n := 2) 1 rfl rfl (by decide)) hc2
    refine Q.callI (gC_vi zm67 (show zM67.2.2.2.2.2[4]? = some (8, 3, .invokevirtual 74, [0, 28, 0, 1]) from rfl) zm28 (hl.lt (a := 79) (by decide)) (hl.T (a := 79) (p := (1, 2)) 1 rfl rfl) rfl (show aCr 0 79 [.ref 79, .int (sI s 106 7)] 1 = some ([some (.ref 79)], [.int (sI s 106 7)]) from rfl)) hq1 ?_
    by_cases hc4 : r3 ≤ (sI s 106 7)
    · rw [if_pos hc4] at h
      refine Q.map (A.bT (gI_of zm67 (e := (11, 3, .if_icmp .ge 32, [20])) rfl) (decide_eq_true hc4)) ?_
      cases h
      exact Q.ret (A.rv zm67 (show zM67.2.2.2.2.2[20]? = some (43, 1, .return_, []) from rfl) rfl) hl
    · rw [if_neg hc4] at h
      refine Q.map (A.bF (gI_of zm67 (e := (11, 3, .if_icmp .ge 32, [20])) rfl) (fun q => hc4 (of_decide_eq_true q))) ?_
      refine Q.run zm67 1 (i' := 7) (ls' := [some (.ref 106)]) (st' := [.ref 106]) rfl ?_
      refine Q.map (A.gf (gI_of zm67 (e := (15, 3, .getfield 41, [4, 0])) rfl) (hl.lt (a := 106) (by decide)) (hl.T (a := 106) (p := (4, 13)) 28 rfl rfl) (by decide) (hl.R 8 rfl)) ?_
      refine Q.run zm67 1 (i' := 9) (ls' := [some (.ref 106)]) (st' := [.ref 106, .ref 79]) rfl ?_
      refine Q.map (A.gf (gI_of zm67 (e := (19, 3, .getfield 61, [4, 7])) rfl) (hl.lt (a := 106) (by decide)) (hl.T (a := 106) (p := (4, 13)) 28 rfl rfl) (by decide) rfl) ?_
      obtain ⟨r7, hc6, h⟩ := bu_so h
      have hq5 : Q 1 sio tt cc d 34 0 [some (.ref 79), some (.int (sI s 106 7))] [] s (.inl (some (.int r7)), s) := dt34 (by omega) hl (hl.Kd (a := 79) (c := 1) (n := 2) 1 rfl rfl (by decide)) hc6
      refine Q.callI (gC_vi zm67 (show zM67.2.2.2.2.2[10]? = some (22, 3, .invokevirtual 78, [0, 34, 1, 1]) from rfl) zm34 (hl.lt (a := 79) (by decide)) (hl.T (a := 79) (p := (1, 2)) 1 rfl rfl) rfl (show aCr 1 79 [.int (sI s 106 7), .ref 79] 2 = some ([some (.ref 79), some (.int (sI s 106 7))], []) from rfl)) hq5 ?_
      refine Q.run zm67 1 (i' := 12) (ls' := [some (.ref 106)]) (st' := [.int 32, .int r7]) rfl ?_
      by_cases hc8 : r7 = 32
      · rw [if_pos hc8] at h
        refine Q.map (A.bF (gI_of zm67 (e := (27, 3, .if_icmp .ne 16, [20])) rfl) (fun q => of_decide_eq_true q hc8)) ?_
        refine Q.run zm67 2 (i' := 15) (ls' := [some (.ref 106)]) (st' := [.ref 106, .ref 106]) rfl ?_
        refine Q.map (A.gf (gI_of zm67 (e := (32, 3, .getfield 61, [4, 7])) rfl) (hl.lt (a := 106) (by decide)) (hl.T (a := 106) (p := (4, 13)) 28 rfl rfl) (by decide) rfl) ?_
        refine Q.run zm67 2 (i' := 18) (ls' := [some (.ref 106)]) (st' := [.int ((sI s 106 7) + 1), .ref 106]) rfl ?_
        obtain ⟨s9, hs10, h⟩ := nx_so h
        refine Q.pf hs10 rfl (gI_of zm67 (e := (37, 3, .putfield 61, [4, 7, 0])) rfl) (hl.lt (a := 106) (by decide)) (by decide) (hl.T (a := 106) (p := (4, 13)) 28 rfl rfl) (by decide) rfl rfl ?_
        have hl11 : Ly tt cc s9 := by rw [hs10]; exact hl.wId (by decide)
        refine Q.run zm67 1 (i' := 0) (ls' := [some (.ref 106)]) (st' := []) rfl ?_
        exact ih hl11  h
      · rw [if_neg hc8] at h
        refine Q.map (A.bT (gI_of zm67 (e := (27, 3, .if_icmp .ne 16, [20])) rfl) (decide_eq_true hc8)) ?_
        cases h
        exact Q.ret (A.rv zm67 (show zM67.2.2.2.2.2[20]? = some (43, 1, .return_, []) from rfl) rfl) hl
def dm67 (s : aS) : Option (aS) :=
  dm67_0 5000 s
set_option maxRecDepth 100000 in
theorem dt67 {sio : Bool} {tt : Nat} {cc : Nat → Nat → Int32} {d : Nat} (hd : 1 ≤ d) {s : aS} (hl : Ly tt cc s) {o : aS} (h : dm67  s = some o) : Q 1 sio tt cc d 67 0 [some (.ref 106)] [] s (.inl none, o) := by
  unfold dm67 at h
  obtain ⟨d, rfl⟩ : ∃ e, d = e + 1 := ⟨d - 1, by omega⟩
  exact dt67_0 hd _ hl  h
/-! 71 FormulaTrees$Tree.isFull()Z -/
set_option maxRecDepth 100000 in
theorem zm71 : zP[71]? = some zM71 := rfl
def dm71 (b0 : Nat) (s : aS) : Option (Int32) :=
  if (sI s b0 2) < 128 then
    some 0
  else
    some 1
set_option maxRecDepth 100000 in
theorem dt71 {sio : Bool} {tt : Nat} {cc : Nat → Nat → Int32} {d : Nat} (hd : 0 ≤ d) {b0 : Nat} {s : aS} (hl : Ly tt cc s) (hk_b0 : aK s b0 3) {o : Int32} (h : dm71  b0 s = some o) : Q 1 sio tt cc d 71 0 [some (.ref b0)] [] s (.inl (some (.int o)), s) := by
  unfold dm71 at h
  refine Q.run zm71 1 (i' := 1) (ls' := [some (.ref b0)]) (st' := [.ref b0]) rfl ?_
  refine Q.map (A.gf (gI_of zm71 (e := (1, 3, .getfield 24, [3, 2])) rfl) hk_b0.1 (hl.tr hk_b0).1 (by decide) rfl) ?_
  refine Q.run zm71 1 (i' := 3) (ls' := [some (.ref b0)]) (st' := [.int 128, .int (sI s b0 2)]) rfl ?_
  by_cases hc1 : (sI s b0 2) < 128
  · rw [if_pos hc1] at h
    refine Q.map (A.bT (gI_of zm71 (e := (7, 3, .if_icmp .lt 7, [6])) rfl) (decide_eq_true hc1)) ?_
    refine Q.run zm71 1 (i' := 7) (ls' := [some (.ref b0)]) (st' := [.int 0]) rfl ?_
    cases h
    exact Q.ret (A.ri zm71 (show zM71.2.2.2.2.2[7]? = some (15, 1, .ireturn, []) from rfl) rfl rfl) hl
  · rw [if_neg hc1] at h
    refine Q.map (A.bF (gI_of zm71 (e := (7, 3, .if_icmp .lt 7, [6])) rfl) (fun q => hc1 (of_decide_eq_true q))) ?_
    refine Q.run zm71 2 (i' := 7) (ls' := [some (.ref b0)]) (st' := [.int 1]) rfl ?_
    cases h
    exact Q.ret (A.ri zm71 (show zM71.2.2.2.2.2[7]? = some (15, 1, .ireturn, []) from rfl) rfl rfl) hl
/-! 70 FormulaTrees$Reader.hasRoom(I)Z -/
set_option maxRecDepth 100000 in
theorem zm70 : zP[70]? = some zM70 := rfl
def dm70_7 (x1 : Int32) (y0 : Int32) (s : aS) : Option (Int32 × aS) :=
  if y0 = 0 then
    nx (wI s 106 8 x1) fun s2 =>
    if y0 = 0 ∨ y0 = 1 then
      some (y0, s2)
    else none
  else
    if y0 = 0 ∨ y0 = 1 then
      some (y0, s)
    else none
set_option maxRecDepth 100000 in
theorem dt70_7 {sio : Bool} {tt : Nat} {cc : Nat → Nat → Int32} {d : Nat} (hd : 1 ≤ d) {x1 : Int32} {y0 : Int32} {s : aS} (hl : Ly tt cc s) {o : Int32 × aS} (h : dm70_7  x1 y0 s = some o) : Q 1 sio tt cc d 70 7 [some (.ref 106), some (.int x1), none] [.int y0] s (.inl (some (.int o.1)), o.2) := by
  unfold dm70_7 at h
  obtain ⟨d, rfl⟩ : ∃ e, d = e + 1 := ⟨d - 1, by omega⟩
  refine Q.run zm70 2 (i' := 9) (ls' := [some (.ref 106), some (.int x1), some (.int y0)]) (st' := [.int y0]) rfl ?_
  by_cases hc1 : y0 = 0
  · rw [if_pos hc1] at h
    refine Q.map (A.zF (gI_of zm70 (e := (17, 3, .ifCond .ne 8, [13])) rfl) (fun q => of_decide_eq_true q hc1)) ?_
    refine Q.run zm70 2 (i' := 12) (ls' := [some (.ref 106), some (.int x1), some (.int y0)]) (st' := [.int x1, .ref 106]) rfl ?_
    obtain ⟨s2, hs3, h⟩ := nx_so h
    refine Q.pf hs3 rfl (gI_of zm70 (e := (22, 3, .putfield 65, [4, 8, 0])) rfl) (hl.lt (a := 106) (by decide)) (by decide) (hl.T (a := 106) (p := (4, 13)) 28 rfl rfl) (by decide) rfl rfl ?_
    have hl4 : Ly tt cc s2 := by rw [hs3]; exact hl.wId (by decide)
    refine Q.run zm70 1 (i' := 14) (ls' := [some (.ref 106), some (.int x1), some (.int y0)]) (st' := [.int y0]) rfl ?_
    obtain ⟨hc5, h⟩ := ite_so h
    cases h
    exact Q.ret (A.ri zm70 (show zM70.2.2.2.2.2[14]? = some (26, 1, .ireturn, []) from rfl) rfl (fit1 hc5)) hl4
  · rw [if_neg hc1] at h
    refine Q.map (A.zT (gI_of zm70 (e := (17, 3, .ifCond .ne 8, [13])) rfl) (decide_eq_true hc1)) ?_
    refine Q.run zm70 1 (i' := 14) (ls' := [some (.ref 106), some (.int x1), some (.int y0)]) (st' := [.int y0]) rfl ?_
    obtain ⟨hc6, h⟩ := ite_so h
    cases h
    exact Q.ret (A.ri zm70 (show zM70.2.2.2.2.2[14]? = some (26, 1, .ireturn, []) from rfl) rfl (fit1 hc6)) hl
def dm70 (x1 : Int32) (s : aS) : Option (Int32 × aS) :=
  vN (sR s 106 6) (
    none
  ) fun b2 =>
    if aK s b2 3 then
      bu (dm71 b2 s) fun r6 =>
      if r6 = 0 then
        dm70_7 x1 1 s
      else
        dm70_7 x1 0 s
    else none
set_option maxRecDepth 100000 in
theorem dt70 {sio : Bool} {tt : Nat} {cc : Nat → Nat → Int32} {d : Nat} (hd : 1 ≤ d) {x1 : Int32} {s : aS} (hl : Ly tt cc s) {o : Int32 × aS} (h : dm70  x1 s = some o) : Q 1 sio tt cc d 70 0 [some (.ref 106), some (.int x1), none] [] s (.inl (some (.int o.1)), o.2) := by
  unfold dm70 at h
  obtain ⟨d, rfl⟩ : ∃ e, d = e + 1 := ⟨d - 1, by omega⟩
  refine Q.run zm70 1 (i' := 1) (ls' := [some (.ref 106), some (.int x1), none]) (st' := [.ref 106]) rfl ?_
  rcases vN_so h with ⟨hv1, h⟩ | ⟨b2, hv1, h⟩
  · refine Q.map (A.gf (gI_of zm70 (e := (1, 3, .getfield 48, [4, 6])) rfl) (hl.lt (a := 106) (by decide)) (hl.T (a := 106) (p := (4, 13)) 28 rfl rfl) (by decide) hv1) ?_
    cases h
  · obtain ⟨hr3, h⟩ := ite_so h
    refine Q.map (A.gf (gI_of zm70 (e := (1, 3, .getfield 48, [4, 6])) rfl) (hl.lt (a := 106) (by decide)) (hl.T (a := 106) (p := (4, 13)) 28 rfl rfl) (by decide) hv1) ?_
    obtain ⟨r6, hc5, h⟩ := bu_so h
    have hq4 : Q 1 sio tt cc d 71 0 [some (.ref b2)] [] s (.inl (some (.int r6)), s) := dt71 (by omega) hl hr3 hc5
    refine Q.callI (gC_vi zm70 (show zM70.2.2.2.2.2[2]? = some (4, 3, .invokevirtual 96, [0, 71, 0, 3]) from rfl) zm71 hr3.1 (hl.tr hr3).1 rfl (show aCr 0 b2 [.ref b2] 1 = some ([some (.ref b2)], []) from rfl)) hq4 ?_
    by_cases hc7 : r6 = 0
    · rw [if_pos hc7] at h
      refine Q.map (A.zF (gI_of zm70 (e := (7, 3, .ifCond .ne 7, [6])) rfl) (fun q => of_decide_eq_true q hc7)) ?_
      refine Q.run zm70 2 (i' := 7) (ls' := [some (.ref 106), some (.int x1), none]) (st' := [.int 1]) rfl ?_
      exact dt70_7 hd hl  h
    · rw [if_neg hc7] at h
      refine Q.map (A.zT (gI_of zm70 (e := (7, 3, .ifCond .ne 7, [6])) rfl) (decide_eq_true hc7)) ?_
      refine Q.run zm70 1 (i' := 7) (ls' := [some (.ref 106), some (.int x1), none]) (st' := [.int 0]) rfl ?_
      exact dt70_7 hd hl  h
/-! 72 FormulaTrees$Tree.insert(III)V -/
set_option maxRecDepth 100000 in
theorem zm72 : zP[72]? = some zM72 := rfl
def dm72_17 : Nat → Nat → Int32 → Int32 → Int32 → Int32 → aS → Option (aS)
  | 0, _, _, _, _, _, _ => none
  | n + 1, b0, x1, x2, x3, x4, s =>
    if x4 < (x1 * 11) then
      nx (wI s b0 2 ((sI s b0 2) + 1)) fun s2 =>
      bu (dm59 b0 x1 x2 x3 s2) fun s8 =>
      some s8
    else
      if aB x4 1408 then
        if aB (x4 + 11) 1408 then
          nx (wI s (b0 + 1) (jN (x4 + 11)) (sI s (b0 + 1) (jN x4))) fun s12 =>
          dm72_17 n b0 x1 x2 x3 (x4 + (-1)) s12
        else none
      else none
set_option maxRecDepth 100000 in
theorem dt72_17 {sio : Bool} {tt : Nat} {cc : Nat → Nat → Int32} {d : Nat} (hd : 1 ≤ d) : ∀ (n : Nat) {b0 : Nat} {x1 : Int32} {x2 : Int32} {x3 : Int32} {x4 : Int32} {s : aS} (_ : Ly tt cc s) (_ : aK s b0 3) {o : aS} (_ : dm72_17  n b0 x1 x2 x3 x4 s = some o), Q 1 sio tt cc d 72 17 [some (.ref b0), some (.int x1), some (.int x2), some (.int x3), some (.int x4)] [] s (.inl none, o) := by
  obtain ⟨d, rfl⟩ : ∃ e, d = e + 1 := ⟨d - 1, by omega⟩
  intro n
  induction n with
  | zero => intro b0 x1 x2 x3 x4 s hl hk_b0 o h; rw [dm72_17] at h; cases h
  | succ n ih =>
    intro b0 x1 x2 x3 x4 s hl hk_b0 o h
    rw [dm72_17] at h
    refine Q.run zm72 4 (i' := 21) (ls' := [some (.ref b0), some (.int x1), some (.int x2), some (.int x3), some (.int x4)]) (st' := [.int (x1 * 11), .int x4]) rfl ?_
    by_cases hc1 : x4 < (x1 * 11)
    · rw [if_pos hc1] at h
      refine Q.map (A.bT (gI_of zm72 (e := (37, 3, .if_icmp .lt 26, [34])) rfl) (decide_eq_true hc1)) ?_
      refine Q.run zm72 2 (i' := 36) (ls' := [some (.ref b0), some (.int x1), some (.int x2), some (.int x3), some (.int x4)]) (st' := [.ref b0, .ref b0]) rfl ?_
      refine Q.map (A.gf (gI_of zm72 (e := (65, 3, .getfield 24, [3, 2])) rfl) hk_b0.1 (hl.tr hk_b0).1 (by decide) rfl) ?_
      refine Q.run zm72 2 (i' := 39) (ls' := [some (.ref b0), some (.int x1), some (.int x2), some (.int x3), some (.int x4)]) (st' := [.int ((sI s b0 2) + 1), .ref b0]) rfl ?_
      obtain ⟨s2, hs3, h⟩ := nx_so h
      refine Q.pf hs3 (hl.g3 hk_b0) (gI_of zm72 (e := (70, 3, .putfield 24, [3, 2, 0])) rfl) hk_b0.1 (hl.tr hk_b0).2.2.2.2.2.2.2 (hl.tr hk_b0).1 (by decide) rfl rfl ?_
      have hl4 : Ly tt cc s2 := by rw [hs3]; exact hl.wId (hl.tr hk_b0).2.2.2.2.2.2.2
      have hr5 : aK s2 b0 3 := by rw [hs3]; exact hk_b0
      refine Q.run zm72 4 (i' := 44) (ls' := [some (.ref b0), some (.int x1), some (.int x2), some (.int x3), some (.int x4)]) (st' := [.int x3, .int x2, .int x1, .ref b0]) rfl ?_
      obtain ⟨s8, hc7, h⟩ := bu_so h
      have hq6 : Q 1 sio tt cc d 59 0 [some (.ref b0), some (.int x1), some (.int x2), some (.int x3), none, none] [] s2 (.inl none, s8) := dt59 (by omega) hl4 hr5 hc7
      refine Q.callV (gC_vi zm72 (show zM72.2.2.2.2.2[44]? = some (77, 3, .invokevirtual 43, [0, 59, 3, 3]) from rfl) zm59 hr5.1 (hl4.tr hr5).1 rfl (show aCr 3 b0 [.int x3, .int x2, .int x1, .ref b0] 6 = some ([some (.ref b0), some (.int x1), some (.int x2), some (.int x3), none, none], []) from rfl)) hq6 ?_
      have hr9 : aK s8 b0 3 := hq6.2.1.k hr5
      cases h
      exact Q.ret (A.rv zm72 (show zM72.2.2.2.2.2[45]? = some (80, 1, .return_, []) from rfl) rfl) hq6.1
    · rw [if_neg hc1] at h
      refine Q.map (A.bF (gI_of zm72 (e := (37, 3, .if_icmp .lt 26, [34])) rfl) (fun q => hc1 (of_decide_eq_true q))) ?_
      refine Q.run zm72 1 (i' := 23) (ls' := [some (.ref b0), some (.int x1), some (.int x2), some (.int x3), some (.int x4)]) (st' := [.ref b0]) rfl ?_
      refine Q.map (A.gf (gI_of zm72 (e := (41, 3, .getfield 9, [3, 0])) rfl) hk_b0.1 (hl.tr hk_b0).1 (by decide) (hl.tr hk_b0).2.1) ?_
      refine Q.run zm72 4 (i' := 28) (ls' := [some (.ref b0), some (.int x1), some (.int x2), some (.int x3), some (.int x4)]) (st' := [.ref b0, .int (x4 + 11), .ref (b0 + 1)]) rfl ?_
      refine Q.map (A.gf (gI_of zm72 (e := (50, 3, .getfield 9, [3, 0])) rfl) hk_b0.1 (hl.tr hk_b0).1 (by decide) (hl.tr hk_b0).2.1) ?_
      refine Q.run zm72 1 (i' := 30) (ls' := [some (.ref b0), some (.int x1), some (.int x2), some (.int x3), some (.int x4)]) (st' := [.int x4, .ref (b0 + 1), .int (x4 + 11), .ref (b0 + 1)]) rfl ?_
      obtain ⟨hc10, h⟩ := ite_so h
      refine Q.map (A.ia (gI_of zm72 (e := (55, 1, .iaload, [])) rfl) (by have := (hl.tr hk_b0).2.2.2.1; omega) (hl.tr hk_b0).2.2.2.2.1 hc10) ?_
      obtain ⟨hc11, h⟩ := ite_so h
      obtain ⟨s12, hs13, h⟩ := nx_so h
      refine Q.is hs13 (hl.g3a hk_b0) (gI_of zm72 (e := (56, 1, .iastore, [])) rfl) (by have := (hl.tr hk_b0).2.2.2.1; omega) (by have := (hl.tr hk_b0).2.2.2.2.2.2.2; omega) (hl.tr hk_b0).2.2.2.2.1 hc11 ?_
      have hl14 : Ly tt cc s12 := by rw [hs13]; exact hl.wId (by have := (hl.tr hk_b0).2.2.2.2.2.2.2; omega)
      have hr15 : aK s12 b0 3 := by rw [hs13]; exact hk_b0
      refine Q.run zm72 2 (i' := 17) (ls' := [some (.ref b0), some (.int x1), some (.int x2), some (.int x3), some (.int (x4 + (-1)))]) (st' := []) rfl ?_
      exact ih hl14 hr15 h
def dm72 (b0 : Nat) (x1 : Int32) (x2 : Int32) (x3 : Int32) (s : aS) : Option (aS) :=
  bu (dm71 b0 s) fun r3 =>
  if r3 = 0 then
    if x1 < 0 then
      some s
    else
      if x1 ≤ (sI s b0 2) then
        dm72_17 5000 b0 x1 x2 x3 (((sI s b0 2) * 11) - 1) s
      else
        some s
  else
    some s
set_option maxRecDepth 100000 in
theorem dt72 {sio : Bool} {tt : Nat} {cc : Nat → Nat → Int32} {d : Nat} (hd : 1 ≤ d) {b0 : Nat} {x1 : Int32} {x2 : Int32} {x3 : Int32} {s : aS} (hl : Ly tt cc s) (hk_b0 : aK s b0 3) {o : aS} (h : dm72  b0 x1 x2 x3 s = some o) : Q 1 sio tt cc d 72 0 [some (.ref b0), some (.int x1), some (.int x2), some (.int x3), none] [] s (.inl none, o) := by
  unfold dm72 at h
  obtain ⟨d, rfl⟩ : ∃ e, d = e + 1 := ⟨d - 1, by omega⟩
  refine Q.run zm72 1 (i' := 1) (ls' := [some (.ref b0), some (.int x1), some (.int x2), some (.int x3), none]) (st' := [.ref b0]) rfl ?_
  obtain ⟨r3, hc2, h⟩ := bu_so h
  have hq1 : Q 1 sio tt cc d 71 0 [some (.ref b0)] [] s (.inl (some (.int r3)), s) := dt71 (by omega) hl hk_b0 hc2
  refine Q.callI (gC_vi zm72 (show zM72.2.2.2.2.2[1]? = some (1, 3, .invokevirtual 39, [0, 71, 0, 3]) from rfl) zm71 hk_b0.1 (hl.tr hk_b0).1 rfl (show aCr 0 b0 [.ref b0] 1 = some ([some (.ref b0)], []) from rfl)) hq1 ?_
  by_cases hc4 : r3 = 0
  · rw [if_pos hc4] at h
    refine Q.map (A.zF (gI_of zm72 (e := (4, 3, .ifCond .ne 15, [9])) rfl) (fun q => of_decide_eq_true q hc4)) ?_
    refine Q.run zm72 1 (i' := 4) (ls' := [some (.ref b0), some (.int x1), some (.int x2), some (.int x3), none]) (st' := [.int x1]) rfl ?_
    by_cases hc5 : x1 < 0
    · rw [if_pos hc5] at h
      refine Q.map (A.zT (gI_of zm72 (e := (8, 3, .ifCond .lt 11, [9])) rfl) (decide_eq_true hc5)) ?_
      cases h
      exact Q.ret (A.rv zm72 (show zM72.2.2.2.2.2[9]? = some (19, 1, .return_, []) from rfl) rfl) hl
    · rw [if_neg hc5] at h
      refine Q.map (A.zF (gI_of zm72 (e := (8, 3, .ifCond .lt 11, [9])) rfl) (fun q => hc5 (of_decide_eq_true q))) ?_
      refine Q.run zm72 2 (i' := 7) (ls' := [some (.ref b0), some (.int x1), some (.int x2), some (.int x3), none]) (st' := [.ref b0, .int x1]) rfl ?_
      refine Q.map (A.gf (gI_of zm72 (e := (13, 3, .getfield 24, [3, 2])) rfl) hk_b0.1 (hl.tr hk_b0).1 (by decide) rfl) ?_
      by_cases hc6 : x1 ≤ (sI s b0 2)
      · rw [if_pos hc6] at h
        refine Q.map (A.bT (gI_of zm72 (e := (16, 3, .if_icmp .le 4, [10])) rfl) (decide_eq_true hc6)) ?_
        refine Q.run zm72 1 (i' := 11) (ls' := [some (.ref b0), some (.int x1), some (.int x2), some (.int x3), none]) (st' := [.ref b0]) rfl ?_
        refine Q.map (A.gf (gI_of zm72 (e := (21, 3, .getfield 24, [3, 2])) rfl) hk_b0.1 (hl.tr hk_b0).1 (by decide) rfl) ?_
        refine Q.run zm72 5 (i' := 17) (ls' := [some (.ref b0), some (.int x1), some (.int x2), some (.int x3), some (.int (((sI s b0 2) * 11) - 1))]) (st' := []) rfl ?_
        exact dt72_17 hd _ hl hk_b0 h
      · rw [if_neg hc6] at h
        refine Q.map (A.bF (gI_of zm72 (e := (16, 3, .if_icmp .le 4, [10])) rfl) (fun q => hc6 (of_decide_eq_true q))) ?_
        cases h
        exact Q.ret (A.rv zm72 (show zM72.2.2.2.2.2[9]? = some (19, 1, .return_, []) from rfl) rfl) hl
  · rw [if_neg hc4] at h
    refine Q.map (A.zT (gI_of zm72 (e := (4, 3, .ifCond .ne 15, [9])) rfl) (decide_eq_true hc4)) ?_
    cases h
    exact Q.ret (A.rv zm72 (show zM72.2.2.2.2.2[9]? = some (19, 1, .return_, []) from rfl) rfl) hl
end
section
/-! 69 FormulaTrees$Reader.readPercent()V -/
set_option maxRecDepth 100000 in
theorem zm69 : zP[69]? = some zM69 := rfl
def dm69 (s : aS) : Option (aS) :=
  bv (dm70 (sI s 106 7) s) fun r4 s3 =>
  if r4 = 0 then
    some s3
  else
    vN (sR s3 106 6) (
      none
    ) fun b7 =>
      if aK s3 b7 3 then
        bu (dm72 b7 (sI s3 106 10) 9 1 s3) fun s11 =>
        nx (wI s11 106 9 4) fun s13 =>
        nx (wI s13 106 7 ((sI s13 106 7) + 1)) fun s17 =>
        some s17
      else none
set_option maxRecDepth 100000 in
theorem dt69 {sio : Bool} {tt : Nat} {cc : Nat → Nat → Int32} {d : Nat} (hd : 2 ≤ d) {s : aS} (hl : Ly tt cc s) {o : aS} (h : dm69  s = some o) : Q 1 sio tt cc d 69 0 [some (.ref 106)] [] s (.inl none, o) := by
  unfold dm69 at h
  obtain ⟨d, rfl⟩ : ∃ e, d = e + 1 := ⟨d - 1, by omega⟩
  refine Q.run zm69 2 (i' := 2) (ls' := [some (.ref 106)]) (st' := [.ref 106, .ref 106]) rfl ?_
  refine Q.map (A.gf (gI_of zm69 (e := (2, 3, .getfield 61, [4, 7])) rfl) (hl.lt (a := 106) (by decide)) (hl.T (a := 106) (p := (4, 13)) 28 rfl rfl) (by decide) rfl) ?_
  obtain ⟨r4, s3, hc2, h⟩ := bv_so h
  have hq1 : Q 1 sio tt cc d 70 0 [some (.ref 106), some (.int (sI s 106 7)), none] [] s (.inl (some (.int r4)), s3) := dt70 (by omega) hl  hc2
  refine Q.callI (gC_vi zm69 (show zM69.2.2.2.2.2[3]? = some (5, 3, .invokevirtual 144, [0, 70, 1, 4]) from rfl) zm70 (hl.lt (a := 106) (by decide)) (hl.T (a := 106) (p := (4, 13)) 28 rfl rfl) rfl (show aCr 1 106 [.int (sI s 106 7), .ref 106] 3 = some ([some (.ref 106), some (.int (sI s 106 7)), none], []) from rfl)) hq1 ?_
  by_cases hc5 : r4 = 0
  · rw [if_pos hc5] at h
    refine Q.map (A.zT (gI_of zm69 (e := (8, 3, .ifCond .eq 32, [21])) rfl) (decide_eq_true hc5)) ?_
    cases h
    exact Q.ret (A.rv zm69 (show zM69.2.2.2.2.2[21]? = some (40, 1, .return_, []) from rfl) rfl) hq1.1
  · rw [if_neg hc5] at h
    refine Q.map (A.zF (gI_of zm69 (e := (8, 3, .ifCond .eq 32, [21])) rfl) (fun q => hc5 (of_decide_eq_true q))) ?_
    refine Q.run zm69 1 (i' := 6) (ls' := [some (.ref 106)]) (st' := [.ref 106]) rfl ?_
    rcases vN_so h with ⟨hv6, h⟩ | ⟨b7, hv6, h⟩
    · refine Q.map (A.gf (gI_of zm69 (e := (12, 3, .getfield 48, [4, 6])) rfl) (hq1.1.lt (a := 106) (by decide)) (hq1.1.T (a := 106) (p := (4, 13)) 28 rfl rfl) (by decide) hv6) ?_
      refine Q.run zm69 1 (i' := 8) (ls' := [some (.ref 106)]) (st' := [.ref 106, .null]) rfl ?_
      refine Q.map (A.gf (gI_of zm69 (e := (16, 3, .getfield 100, [4, 10])) rfl) (hq1.1.lt (a := 106) (by decide)) (hq1.1.T (a := 106) (p := (4, 13)) 28 rfl rfl) (by decide) rfl) ?_
      refine Q.run zm69 2 (i' := 11) (ls' := [some (.ref 106)]) (st' := [.int 1, .int 9, .int (sI s3 106 10), .null]) rfl ?_
      cases h
    · obtain ⟨hr8, h⟩ := ite_so h
      refine Q.map (A.gf (gI_of zm69 (e := (12, 3, .getfield 48, [4, 6])) rfl) (hq1.1.lt (a := 106) (by decide)) (hq1.1.T (a := 106) (p := (4, 13)) 28 rfl rfl) (by decide) hv6) ?_
      refine Q.run zm69 1 (i' := 8) (ls' := [some (.ref 106)]) (st' := [.ref 106, .ref b7]) rfl ?_
      refine Q.map (A.gf (gI_of zm69 (e := (16, 3, .getfield 100, [4, 10])) rfl) (hq1.1.lt (a := 106) (by decide)) (hq1.1.T (a := 106) (p := (4, 13)) 28 rfl rfl) (by decide) rfl) ?_
      refine Q.run zm69 2 (i' := 11) (ls' := [some (.ref 106)]) (st' := [.int 1, .int 9, .int (sI s3 106 10), .ref b7]) rfl ?_
      obtain ⟨s11, hc10, h⟩ := bu_so h
      have hq9 : Q 1 sio tt cc d 72 0 [some (.ref b7), some (.int (sI s3 106 10)), some (.int 9), some (.int 1), none] [] s3 (.inl none, s11) := dt72 (by omega) hq1.1 hr8 hc10
      refine Q.callV (gC_vi zm69 (show zM69.2.2.2.2.2[11]? = some (22, 3, .invokevirtual 150, [0, 72, 3, 3]) from rfl) zm72 hr8.1 (hq1.1.tr hr8).1 rfl (show aCr 3 b7 [.int 1, .int 9, .int (sI s3 106 10), .ref b7] 5 = some ([some (.ref b7), some (.int (sI s3 106 10)), some (.int 9), some (.int 1), none], []) from rfl)) hq9 ?_
      have hr12 : aK s11 b7 3 := hq9.2.1.k hr8
      refine Q.run zm69 2 (i' := 14) (ls' := [some (.ref 106)]) (st' := [.int 4, .ref 106]) rfl ?_
      obtain ⟨s13, hs14, h⟩ := nx_so h
      refine Q.pf hs14 rfl (gI_of zm69 (e := (27, 3, .putfield 68, [4, 9, 0])) rfl) (hq9.1.lt (a := 106) (by decide)) (by decide) (hq9.1.T (a := 106) (p := (4, 13)) 28 rfl rfl) (by decide) rfl rfl ?_
      have hl15 : Ly tt cc s13 := by rw [hs14]; exact hq9.1.wId (by decide)
      have hr16 : aK s13 b7 3 := by rw [hs14]; exact hr12
      refine Q.run zm69 2 (i' := 17) (ls' := [some (.ref 106)]) (st' := [.ref 106, .ref 106]) rfl ?_
      refine Q.map (A.gf (gI_of zm69 (e := (32, 3, .getfield 61, [4, 7])) rfl) (hl15.lt (a := 106) (by decide)) (hl15.T (a := 106) (p := (4, 13)) 28 rfl rfl) (by decide) rfl) ?_
      refine Q.run zm69 2 (i' := 20) (ls' := [some (.ref 106)]) (st' := [.int ((sI s13 106 7) + 1), .ref 106]) rfl ?_
      obtain ⟨s17, hs18, h⟩ := nx_so h
      refine Q.pf hs18 rfl (gI_of zm69 (e := (37, 3, .putfield 61, [4, 7, 0])) rfl) (hl15.lt (a := 106) (by decide)) (by decide) (hl15.T (a := 106) (p := (4, 13)) 28 rfl rfl) (by decide) rfl rfl ?_
      have hl19 : Ly tt cc s17 := by rw [hs18]; exact hl15.wId (by decide)
      have hr20 : aK s17 b7 3 := by rw [hs18]; exact hr16
      cases h
      exact Q.ret (A.rv zm69 (show zM69.2.2.2.2.2[21]? = some (40, 1, .return_, []) from rfl) rfl) hl19
/-! 74 FormulaTrees$Brackets.arguments()I -/
set_option maxRecDepth 100000 in
theorem zm74 : zP[74]? = some zM74 := rfl
def dm74 (s : aS) : Option (Int32) :=
  if (sI s 113 3) ≤ 0 then
    some (-1)
  else
    if aB ((sI s 113 3) - 1) 32 then
      some (sI s 115 (jN ((sI s 113 3) - 1)))
    else none
set_option maxRecDepth 100000 in
theorem dt74 {sio : Bool} {tt : Nat} {cc : Nat → Nat → Int32} {d : Nat} (hd : 0 ≤ d) {s : aS} (hl : Ly tt cc s) {o : Int32} (h : dm74  s = some o) : Q 1 sio tt cc d 74 0 [some (.ref 113)] [] s (.inl (some (.int o)), s) := by
  unfold dm74 at h
  refine Q.run zm74 1 (i' := 1) (ls' := [some (.ref 113)]) (st' := [.ref 113]) rfl ?_
  refine Q.map (A.gf (gI_of zm74 (e := (1, 3, .getfield 21, [7, 3])) rfl) (hl.lt (a := 113) (by decide)) (hl.T (a := 113) (p := (7, 4)) 35 rfl rfl) (by decide) rfl) ?_
  by_cases hc1 : (sI s 113 3) ≤ 0
  · rw [if_pos hc1] at h
    refine Q.map (A.zT (gI_of zm74 (e := (4, 3, .ifCond .le 17, [11])) rfl) (decide_eq_true hc1)) ?_
    refine Q.run zm74 1 (i' := 12) (ls' := [some (.ref 113)]) (st' := [.int (-1)]) rfl ?_
    cases h
    exact Q.ret (A.ri zm74 (show zM74.2.2.2.2.2[12]? = some (22, 1, .ireturn, []) from rfl) rfl rfl) hl
  · rw [if_neg hc1] at h
    refine Q.map (A.zF (gI_of zm74 (e := (4, 3, .ifCond .le 17, [11])) rfl) (fun q => hc1 (of_decide_eq_true q))) ?_
    refine Q.run zm74 1 (i' := 4) (ls' := [some (.ref 113)]) (st' := [.ref 113]) rfl ?_
    refine Q.map (A.gf (gI_of zm74 (e := (8, 3, .getfield 15, [7, 1])) rfl) (hl.lt (a := 113) (by decide)) (hl.T (a := 113) (p := (7, 4)) 35 rfl rfl) (by decide) (hl.R 17 rfl)) ?_
    refine Q.run zm74 1 (i' := 6) (ls' := [some (.ref 113)]) (st' := [.ref 113, .ref 115]) rfl ?_
    refine Q.map (A.gf (gI_of zm74 (e := (12, 3, .getfield 21, [7, 3])) rfl) (hl.lt (a := 113) (by decide)) (hl.T (a := 113) (p := (7, 4)) 35 rfl rfl) (by decide) rfl) ?_
    refine Q.run zm74 2 (i' := 9) (ls' := [some (.ref 113)]) (st' := [.int ((sI s 113 3) - 1), .ref 115]) rfl ?_
    obtain ⟨hc2, h⟩ := ite_so h
    refine Q.map (A.ia (gI_of zm74 (e := (17, 1, .iaload, [])) rfl) (hl.lt (a := 115) (by decide)) (hl.T (a := 115) (p := (100, 32)) 37 rfl rfl) hc2) ?_
    refine Q.run zm74 1 (i' := 12) (ls' := [some (.ref 113)]) (st' := [.int (sI s 115 (jN ((sI s 113 3) - 1)))]) rfl ?_
    cases h
    exact Q.ret (A.ri zm74 (show zM74.2.2.2.2.2[12]? = some (22, 1, .ireturn, []) from rfl) rfl rfl) hl
/-! 73 FormulaTrees$Brackets.areOfCall()Z -/
set_option maxRecDepth 100000 in
theorem zm73 : zP[73]? = some zM73 := rfl
def dm73 (s : aS) : Option (Int32) :=
  bu (dm74 s) fun r3 =>
  if r3 = (-1) then
    some 0
  else
    some 1
set_option maxRecDepth 100000 in
theorem dt73 {sio : Bool} {tt : Nat} {cc : Nat → Nat → Int32} {d : Nat} (hd : 1 ≤ d) {s : aS} (hl : Ly tt cc s) {o : Int32} (h : dm73  s = some o) : Q 1 sio tt cc d 73 0 [some (.ref 113)] [] s (.inl (some (.int o)), s) := by
  unfold dm73 at h
  obtain ⟨d, rfl⟩ : ∃ e, d = e + 1 := ⟨d - 1, by omega⟩
  refine Q.run zm73 1 (i' := 1) (ls' := [some (.ref 113)]) (st' := [.ref 113]) rfl ?_
  obtain ⟨r3, hc2, h⟩ := bu_so h
  have hq1 : Q 1 sio tt cc d 74 0 [some (.ref 113)] [] s (.inl (some (.int r3)), s) := dt74 (by omega) hl  hc2
  refine Q.callI (gC_vi zm73 (show zM73.2.2.2.2.2[1]? = some (1, 3, .invokevirtual 25, [0, 74, 0, 7]) from rfl) zm74 (hl.lt (a := 113) (by decide)) (hl.T (a := 113) (p := (7, 4)) 35 rfl rfl) rfl (show aCr 0 113 [.ref 113] 1 = some ([some (.ref 113)], []) from rfl)) hq1 ?_
  refine Q.run zm73 1 (i' := 3) (ls' := [some (.ref 113)]) (st' := [.int (-1), .int r3]) rfl ?_
  by_cases hc4 : r3 = (-1)
  · rw [if_pos hc4] at h
    refine Q.map (A.bT (gI_of zm73 (e := (5, 3, .if_icmp .eq 7, [6])) rfl) (decide_eq_true hc4)) ?_
    refine Q.run zm73 1 (i' := 7) (ls' := [some (.ref 113)]) (st' := [.int 0]) rfl ?_
    cases h
    exact Q.ret (A.ri zm73 (show zM73.2.2.2.2.2[7]? = some (13, 1, .ireturn, []) from rfl) rfl rfl) hl
  · rw [if_neg hc4] at h
    refine Q.map (A.bF (gI_of zm73 (e := (5, 3, .if_icmp .eq 7, [6])) rfl) (fun q => hc4 (of_decide_eq_true q))) ?_
    refine Q.run zm73 2 (i' := 7) (ls' := [some (.ref 113)]) (st' := [.int 1]) rfl ?_
    cases h
    exact Q.ret (A.ri zm73 (show zM73.2.2.2.2.2[7]? = some (13, 1, .ireturn, []) from rfl) rfl rfl) hl
/-! 76 FormulaTrees$Brackets.addArgument()V -/
set_option maxRecDepth 100000 in
theorem zm76 : zP[76]? = some zM76 := rfl
def dm76 (s : aS) : Option (aS) :=
  if (sI s 113 3) ≤ 0 then
    some s
  else
    if aB ((sI s 113 3) - 1) 32 then
      if aB ((sI s 113 3) - 1) 32 then
        nx (wI s 115 (jN ((sI s 113 3) - 1)) ((sI s 115 (jN ((sI s 113 3) - 1))) + 1)) fun s4 =>
        some s4
      else none
    else none
set_option maxRecDepth 100000 in
theorem dt76 {sio : Bool} {tt : Nat} {cc : Nat → Nat → Int32} {d : Nat} (hd : 0 ≤ d) {s : aS} (hl : Ly tt cc s) {o : aS} (h : dm76  s = some o) : Q 1 sio tt cc d 76 0 [some (.ref 113)] [] s (.inl none, o) := by
  unfold dm76 at h
  refine Q.run zm76 1 (i' := 1) (ls' := [some (.ref 113)]) (st' := [.ref 113]) rfl ?_
  refine Q.map (A.gf (gI_of zm76 (e := (1, 3, .getfield 21, [7, 3])) rfl) (hl.lt (a := 113) (by decide)) (hl.T (a := 113) (p := (7, 4)) 35 rfl rfl) (by decide) rfl) ?_
  by_cases hc1 : (sI s 113 3) ≤ 0
  · rw [if_pos hc1] at h
    refine Q.map (A.zT (gI_of zm76 (e := (4, 3, .ifCond .le 18, [14])) rfl) (decide_eq_true hc1)) ?_
    cases h
    exact Q.ret (A.rv zm76 (show zM76.2.2.2.2.2[14]? = some (22, 1, .return_, []) from rfl) rfl) hl
  · rw [if_neg hc1] at h
    refine Q.map (A.zF (gI_of zm76 (e := (4, 3, .ifCond .le 18, [14])) rfl) (fun q => hc1 (of_decide_eq_true q))) ?_
    refine Q.run zm76 1 (i' := 4) (ls' := [some (.ref 113)]) (st' := [.ref 113]) rfl ?_
    refine Q.map (A.gf (gI_of zm76 (e := (8, 3, .getfield 15, [7, 1])) rfl) (hl.lt (a := 113) (by decide)) (hl.T (a := 113) (p := (7, 4)) 35 rfl rfl) (by decide) (hl.R 17 rfl)) ?_
    refine Q.run zm76 1 (i' := 6) (ls' := [some (.ref 113)]) (st' := [.ref 113, .ref 115]) rfl ?_
    refine Q.map (A.gf (gI_of zm76 (e := (12, 3, .getfield 21, [7, 3])) rfl) (hl.lt (a := 113) (by decide)) (hl.T (a := 113) (p := (7, 4)) 35 rfl rfl) (by decide) rfl) ?_
    refine Q.run zm76 3 (i' := 10) (ls' := [some (.ref 113)]) (st' := [.int ((sI s 113 3) - 1), .ref 115, .int ((sI s 113 3) - 1), .ref 115]) rfl ?_
    obtain ⟨hc2, h⟩ := ite_so h
    refine Q.map (A.ia (gI_of zm76 (e := (18, 1, .iaload, [])) rfl) (hl.lt (a := 115) (by decide)) (hl.T (a := 115) (p := (100, 32)) 37 rfl rfl) hc2) ?_
    refine Q.run zm76 2 (i' := 13) (ls' := [some (.ref 113)]) (st' := [.int ((sI s 115 (jN ((sI s 113 3) - 1))) + 1), .int ((sI s 113 3) - 1), .ref 115]) rfl ?_
    obtain ⟨hc3, h⟩ := ite_so h
    obtain ⟨s4, hs5, h⟩ := nx_so h
    refine Q.is hs5 rfl (gI_of zm76 (e := (21, 1, .iastore, [])) rfl) (hl.lt (a := 115) (by decide)) (by decide) (hl.T (a := 115) (p := (100, 32)) 37 rfl rfl) hc3 ?_
    have hl6 : Ly tt cc s4 := by rw [hs5]; exact hl.wId (by decide)
    cases h
    exact Q.ret (A.rv zm76 (show zM76.2.2.2.2.2[14]? = some (22, 1, .return_, []) from rfl) rfl) hl6
/-! 78 FormulaTrees$Brackets.place()I -/
set_option maxRecDepth 100000 in
theorem zm78 : zP[78]? = some zM78 := rfl
def dm78 (s : aS) : Option (Int32) :=
  if (sI s 113 3) ≤ 0 then
    some 0
  else
    if aB ((sI s 113 3) - 1) 32 then
      some (sI s 114 (jN ((sI s 113 3) - 1)))
    else none
set_option maxRecDepth 100000 in
theorem dt78 {sio : Bool} {tt : Nat} {cc : Nat → Nat → Int32} {d : Nat} (hd : 0 ≤ d) {s : aS} (hl : Ly tt cc s) {o : Int32} (h : dm78  s = some o) : Q 1 sio tt cc d 78 0 [some (.ref 113)] [] s (.inl (some (.int o)), s) := by
  unfold dm78 at h
  refine Q.run zm78 1 (i' := 1) (ls' := [some (.ref 113)]) (st' := [.ref 113]) rfl ?_
  refine Q.map (A.gf (gI_of zm78 (e := (1, 3, .getfield 21, [7, 3])) rfl) (hl.lt (a := 113) (by decide)) (hl.T (a := 113) (p := (7, 4)) 35 rfl rfl) (by decide) rfl) ?_
  by_cases hc1 : (sI s 113 3) ≤ 0
  · rw [if_pos hc1] at h
    refine Q.map (A.zT (gI_of zm78 (e := (4, 3, .ifCond .le 17, [11])) rfl) (decide_eq_true hc1)) ?_
    refine Q.run zm78 1 (i' := 12) (ls' := [some (.ref 113)]) (st' := [.int 0]) rfl ?_
    cases h
    exact Q.ret (A.ri zm78 (show zM78.2.2.2.2.2[12]? = some (22, 1, .ireturn, []) from rfl) rfl rfl) hl
  · rw [if_neg hc1] at h
    refine Q.map (A.zF (gI_of zm78 (e := (4, 3, .ifCond .le 17, [11])) rfl) (fun q => hc1 (of_decide_eq_true q))) ?_
    refine Q.run zm78 1 (i' := 4) (ls' := [some (.ref 113)]) (st' := [.ref 113]) rfl ?_
    refine Q.map (A.gf (gI_of zm78 (e := (8, 3, .getfield 9, [7, 0])) rfl) (hl.lt (a := 113) (by decide)) (hl.T (a := 113) (p := (7, 4)) 35 rfl rfl) (by decide) (hl.R 16 rfl)) ?_
    refine Q.run zm78 1 (i' := 6) (ls' := [some (.ref 113)]) (st' := [.ref 113, .ref 114]) rfl ?_
    refine Q.map (A.gf (gI_of zm78 (e := (12, 3, .getfield 21, [7, 3])) rfl) (hl.lt (a := 113) (by decide)) (hl.T (a := 113) (p := (7, 4)) 35 rfl rfl) (by decide) rfl) ?_
    refine Q.run zm78 2 (i' := 9) (ls' := [some (.ref 113)]) (st' := [.int ((sI s 113 3) - 1), .ref 114]) rfl ?_
    obtain ⟨hc2, h⟩ := ite_so h
    refine Q.map (A.ia (gI_of zm78 (e := (17, 1, .iaload, [])) rfl) (hl.lt (a := 114) (by decide)) (hl.T (a := 114) (p := (100, 32)) 36 rfl rfl) hc2) ?_
    refine Q.run zm78 1 (i' := 12) (ls' := [some (.ref 113)]) (st' := [.int (sI s 114 (jN ((sI s 113 3) - 1)))]) rfl ?_
    cases h
    exact Q.ret (A.ri zm78 (show zM78.2.2.2.2.2[12]? = some (22, 1, .ireturn, []) from rfl) rfl rfl) hl
/-! 79 FormulaTrees$Brackets.base()I -/
set_option maxRecDepth 100000 in
theorem zm79 : zP[79]? = some zM79 := rfl
def dm79 (s : aS) : Option (Int32) :=
  if (sI s 113 3) ≤ 0 then
    some 0
  else
    if aB ((sI s 113 3) - 1) 32 then
      some (sI s 116 (jN ((sI s 113 3) - 1)))
    else none
set_option maxRecDepth 100000 in
theorem dt79 {sio : Bool} {tt : Nat} {cc : Nat → Nat → Int32} {d : Nat} (hd : 0 ≤ d) {s : aS} (hl : Ly tt cc s) {o : Int32} (h : dm79  s = some o) : Q 1 sio tt cc d 79 0 [some (.ref 113)] [] s (.inl (some (.int o)), s) := by
  unfold dm79 at h
  refine Q.run zm79 1 (i' := 1) (ls' := [some (.ref 113)]) (st' := [.ref 113]) rfl ?_
  refine Q.map (A.gf (gI_of zm79 (e := (1, 3, .getfield 21, [7, 3])) rfl) (hl.lt (a := 113) (by decide)) (hl.T (a := 113) (p := (7, 4)) 35 rfl rfl) (by decide) rfl) ?_
  by_cases hc1 : (sI s 113 3) ≤ 0
  · rw [if_pos hc1] at h
    refine Q.map (A.zT (gI_of zm79 (e := (4, 3, .ifCond .le 17, [11])) rfl) (decide_eq_true hc1)) ?_
    refine Q.run zm79 1 (i' := 12) (ls' := [some (.ref 113)]) (st' := [.int 0]) rfl ?_
    cases h
    exact Q.ret (A.ri zm79 (show zM79.2.2.2.2.2[12]? = some (22, 1, .ireturn, []) from rfl) rfl rfl) hl
  · rw [if_neg hc1] at h
    refine Q.map (A.zF (gI_of zm79 (e := (4, 3, .ifCond .le 17, [11])) rfl) (fun q => hc1 (of_decide_eq_true q))) ?_
    refine Q.run zm79 1 (i' := 4) (ls' := [some (.ref 113)]) (st' := [.ref 113]) rfl ?_
    refine Q.map (A.gf (gI_of zm79 (e := (8, 3, .getfield 18, [7, 2])) rfl) (hl.lt (a := 113) (by decide)) (hl.T (a := 113) (p := (7, 4)) 35 rfl rfl) (by decide) (hl.R 18 rfl)) ?_
    refine Q.run zm79 1 (i' := 6) (ls' := [some (.ref 113)]) (st' := [.ref 113, .ref 116]) rfl ?_
    refine Q.map (A.gf (gI_of zm79 (e := (12, 3, .getfield 21, [7, 3])) rfl) (hl.lt (a := 113) (by decide)) (hl.T (a := 113) (p := (7, 4)) 35 rfl rfl) (by decide) rfl) ?_
    refine Q.run zm79 2 (i' := 9) (ls' := [some (.ref 113)]) (st' := [.int ((sI s 113 3) - 1), .ref 116]) rfl ?_
    obtain ⟨hc2, h⟩ := ite_so h
    refine Q.map (A.ia (gI_of zm79 (e := (17, 1, .iaload, [])) rfl) (hl.lt (a := 116) (by decide)) (hl.T (a := 116) (p := (100, 32)) 38 rfl rfl) hc2) ?_
    refine Q.run zm79 1 (i' := 12) (ls' := [some (.ref 113)]) (st' := [.int (sI s 116 (jN ((sI s 113 3) - 1)))]) rfl ?_
    cases h
    exact Q.ret (A.ri zm79 (show zM79.2.2.2.2.2[12]? = some (22, 1, .ireturn, []) from rfl) rfl rfl) hl
/-! 80 FormulaTrees$Brackets.close()V -/
set_option maxRecDepth 100000 in
theorem zm80 : zP[80]? = some zM80 := rfl
def dm80 (s : aS) : Option (aS) :=
  if (sI s 113 3) ≤ 0 then
    some s
  else
    nx (wI s 113 3 ((sI s 113 3) - 1)) fun s2 =>
    some s2
set_option maxRecDepth 100000 in
theorem dt80 {sio : Bool} {tt : Nat} {cc : Nat → Nat → Int32} {d : Nat} (hd : 0 ≤ d) {s : aS} (hl : Ly tt cc s) {o : aS} (h : dm80  s = some o) : Q 1 sio tt cc d 80 0 [some (.ref 113)] [] s (.inl none, o) := by
  unfold dm80 at h
  refine Q.run zm80 1 (i' := 1) (ls' := [some (.ref 113)]) (st' := [.ref 113]) rfl ?_
  refine Q.map (A.gf (gI_of zm80 (e := (1, 3, .getfield 21, [7, 3])) rfl) (hl.lt (a := 113) (by decide)) (hl.T (a := 113) (p := (7, 4)) 35 rfl rfl) (by decide) rfl) ?_
  by_cases hc1 : (sI s 113 3) ≤ 0
  · rw [if_pos hc1] at h
    refine Q.map (A.zT (gI_of zm80 (e := (4, 3, .ifCond .le 13, [9])) rfl) (decide_eq_true hc1)) ?_
    cases h
    exact Q.ret (A.rv zm80 (show zM80.2.2.2.2.2[9]? = some (17, 1, .return_, []) from rfl) rfl) hl
  · rw [if_neg hc1] at h
    refine Q.map (A.zF (gI_of zm80 (e := (4, 3, .ifCond .le 13, [9])) rfl) (fun q => hc1 (of_decide_eq_true q))) ?_
    refine Q.run zm80 2 (i' := 5) (ls' := [some (.ref 113)]) (st' := [.ref 113, .ref 113]) rfl ?_
    refine Q.map (A.gf (gI_of zm80 (e := (9, 3, .getfield 21, [7, 3])) rfl) (hl.lt (a := 113) (by decide)) (hl.T (a := 113) (p := (7, 4)) 35 rfl rfl) (by decide) rfl) ?_
    refine Q.run zm80 2 (i' := 8) (ls' := [some (.ref 113)]) (st' := [.int ((sI s 113 3) - 1), .ref 113]) rfl ?_
    obtain ⟨s2, hs3, h⟩ := nx_so h
    refine Q.pf hs3 rfl (gI_of zm80 (e := (14, 3, .putfield 21, [7, 3, 0])) rfl) (hl.lt (a := 113) (by decide)) (by decide) (hl.T (a := 113) (p := (7, 4)) 35 rfl rfl) (by decide) rfl rfl ?_
    have hl4 : Ly tt cc s2 := by rw [hs3]; exact hl.wId (by decide)
    cases h
    exact Q.ret (A.rv zm80 (show zM80.2.2.2.2.2[9]? = some (17, 1, .return_, []) from rfl) rfl) hl4
/-! 81 FormulaTrees$Reader.endOperand(I)V -/
set_option maxRecDepth 100000 in
theorem zm81 : zP[81]? = some zM81 := rfl
def dm81 (x1 : Int32) (s : aS) : Option (aS) :=
  nx (wI s 106 10 x1) fun s1 =>
  nx (wI s1 106 9 4) fun s4 =>
  some s4
set_option maxRecDepth 100000 in
theorem dt81 {sio : Bool} {tt : Nat} {cc : Nat → Nat → Int32} {d : Nat} (hd : 0 ≤ d) {x1 : Int32} {s : aS} (hl : Ly tt cc s) {o : aS} (h : dm81  x1 s = some o) : Q 1 sio tt cc d 81 0 [some (.ref 106), some (.int x1)] [] s (.inl none, o) := by
  unfold dm81 at h
  refine Q.run zm81 2 (i' := 2) (ls' := [some (.ref 106), some (.int x1)]) (st' := [.int x1, .ref 106]) rfl ?_
  obtain ⟨s1, hs2, h⟩ := nx_so h
  refine Q.pf hs2 rfl (gI_of zm81 (e := (2, 3, .putfield 100, [4, 10, 0])) rfl) (hl.lt (a := 106) (by decide)) (by decide) (hl.T (a := 106) (p := (4, 13)) 28 rfl rfl) (by decide) rfl rfl ?_
  have hl3 : Ly tt cc s1 := by rw [hs2]; exact hl.wId (by decide)
  refine Q.run zm81 2 (i' := 5) (ls' := [some (.ref 106), some (.int x1)]) (st' := [.int 4, .ref 106]) rfl ?_
  obtain ⟨s4, hs5, h⟩ := nx_so h
  refine Q.pf hs5 rfl (gI_of zm81 (e := (7, 3, .putfield 68, [4, 9, 0])) rfl) (hl3.lt (a := 106) (by decide)) (by decide) (hl3.T (a := 106) (p := (4, 13)) 28 rfl rfl) (by decide) rfl rfl ?_
  have hl6 : Ly tt cc s4 := by rw [hs5]; exact hl3.wId (by decide)
  cases h
  exact Q.ret (A.rv zm81 (show zM81.2.2.2.2.2[6]? = some (10, 1, .return_, []) from rfl) rfl) hl6
/-! 77 FormulaTrees$Reader.closeBrackets()V -/
set_option maxRecDepth 100000 in
theorem zm77 : zP[77]? = some zM77 := rfl
def dm77_16 (x1 : Int32) (s : aS) : Option (aS) :=
  bu (dm79 s) fun r3 =>
  bu (dm65 r3 s) fun s6 =>
  bu (dm80 s6) fun s9 =>
  bu (dm81 x1 s9) fun s12 =>
  nx (wI s12 106 7 ((sI s12 106 7) + 1)) fun s13 =>
  some s13
set_option maxRecDepth 100000 in
theorem dt77_16 {sio : Bool} {tt : Nat} {cc : Nat → Nat → Int32} {d : Nat} (hd : 2 ≤ d) {x1 : Int32} {s : aS} (hl : Ly tt cc s) {o : aS} (h : dm77_16  x1 s = some o) : Q 1 sio tt cc d 77 16 [some (.ref 106), some (.int x1)] [] s (.inl none, o) := by
  unfold dm77_16 at h
  obtain ⟨d, rfl⟩ : ∃ e, d = e + 1 := ⟨d - 1, by omega⟩
  refine Q.run zm77 1 (i' := 17) (ls' := [some (.ref 106), some (.int x1)]) (st' := [.ref 106]) rfl ?_
  refine Q.map (A.gf (gI_of zm77 (e := (35, 3, .getfield 30, [4, 4])) rfl) (hl.lt (a := 106) (by decide)) (hl.T (a := 106) (p := (4, 13)) 28 rfl rfl) (by decide) (hl.R 12 rfl)) ?_
  refine Q.run zm77 1 (i' := 19) (ls' := [some (.ref 106), some (.int x1)]) (st' := [.ref 106, .ref 110]) rfl ?_
  refine Q.map (A.gf (gI_of zm77 (e := (39, 3, .getfield 37, [4, 5])) rfl) (hl.lt (a := 106) (by decide)) (hl.T (a := 106) (p := (4, 13)) 28 rfl rfl) (by decide) (hl.R 13 rfl)) ?_
  obtain ⟨r3, hc2, h⟩ := bu_so h
  have hq1 : Q 1 sio tt cc d 79 0 [some (.ref 113)] [] s (.inl (some (.int r3)), s) := dt79 (by omega) hl  hc2
  refine Q.callI (gC_vi zm77 (show zM77.2.2.2.2.2[20]? = some (42, 3, .invokevirtual 171, [0, 79, 0, 7]) from rfl) zm79 (hl.lt (a := 113) (by decide)) (hl.T (a := 113) (p := (7, 4)) 35 rfl rfl) rfl (show aCr 0 113 [.ref 113, .ref 110] 1 = some ([some (.ref 113)], [.ref 110]) from rfl)) hq1 ?_
  obtain ⟨s6, hc5, h⟩ := bu_so h
  have hq4 : Q 1 sio tt cc d 65 0 [some (.ref 110), some (.int r3)] [] s (.inl none, s6) := dt65 (by omega) hl  hc5
  refine Q.callV (gC_vi zm77 (show zM77.2.2.2.2.2[21]? = some (45, 3, .invokevirtual 57, [0, 65, 1, 6]) from rfl) zm65 (hl.lt (a := 110) (by decide)) (hl.T (a := 110) (p := (6, 3)) 32 rfl rfl) rfl (show aCr 1 110 [.int r3, .ref 110] 2 = some ([some (.ref 110), some (.int r3)], []) from rfl)) hq4 ?_
  refine Q.run zm77 1 (i' := 23) (ls' := [some (.ref 106), some (.int x1)]) (st' := [.ref 106]) rfl ?_
  refine Q.map (A.gf (gI_of zm77 (e := (49, 3, .getfield 37, [4, 5])) rfl) (hq4.1.lt (a := 106) (by decide)) (hq4.1.T (a := 106) (p := (4, 13)) 28 rfl rfl) (by decide) (hq4.1.R 13 rfl)) ?_
  obtain ⟨s9, hc8, h⟩ := bu_so h
  have hq7 : Q 1 sio tt cc d 80 0 [some (.ref 113)] [] s6 (.inl none, s9) := dt80 (by omega) hq4.1  hc8
  refine Q.callV (gC_vi zm77 (show zM77.2.2.2.2.2[24]? = some (52, 3, .invokevirtual 183, [0, 80, 0, 7]) from rfl) zm80 (hq4.1.lt (a := 113) (by decide)) (hq4.1.T (a := 113) (p := (7, 4)) 35 rfl rfl) rfl (show aCr 0 113 [.ref 113] 1 = some ([some (.ref 113)], []) from rfl)) hq7 ?_
  refine Q.run zm77 2 (i' := 27) (ls' := [some (.ref 106), some (.int x1)]) (st' := [.int x1, .ref 106]) rfl ?_
  obtain ⟨s12, hc11, h⟩ := bu_so h
  have hq10 : Q 1 sio tt cc d 81 0 [some (.ref 106), some (.int x1)] [] s9 (.inl none, s12) := dt81 (by omega) hq7.1  hc11
  refine Q.callV (gC_vi zm77 (show zM77.2.2.2.2.2[27]? = some (57, 3, .invokevirtual 186, [0, 81, 1, 4]) from rfl) zm81 (hq7.1.lt (a := 106) (by decide)) (hq7.1.T (a := 106) (p := (4, 13)) 28 rfl rfl) rfl (show aCr 1 106 [.int x1, .ref 106] 2 = some ([some (.ref 106), some (.int x1)], []) from rfl)) hq10 ?_
  refine Q.run zm77 2 (i' := 30) (ls' := [some (.ref 106), some (.int x1)]) (st' := [.ref 106, .ref 106]) rfl ?_
  refine Q.map (A.gf (gI_of zm77 (e := (62, 3, .getfield 61, [4, 7])) rfl) (hq10.1.lt (a := 106) (by decide)) (hq10.1.T (a := 106) (p := (4, 13)) 28 rfl rfl) (by decide) rfl) ?_
  refine Q.run zm77 2 (i' := 33) (ls' := [some (.ref 106), some (.int x1)]) (st' := [.int ((sI s12 106 7) + 1), .ref 106]) rfl ?_
  obtain ⟨s13, hs14, h⟩ := nx_so h
  refine Q.pf hs14 rfl (gI_of zm77 (e := (67, 3, .putfield 61, [4, 7, 0])) rfl) (hq10.1.lt (a := 106) (by decide)) (by decide) (hq10.1.T (a := 106) (p := (4, 13)) 28 rfl rfl) (by decide) rfl rfl ?_
  have hl15 : Ly tt cc s13 := by rw [hs14]; exact hq10.1.wId (by decide)
  cases h
  exact Q.ret (A.rv zm77 (show zM77.2.2.2.2.2[34]? = some (70, 1, .return_, []) from rfl) rfl) hl15
def dm77 (s : aS) : Option (aS) :=
  bu (dm78 s) fun r3 =>
  bu (dm73 s) fun r6 =>
  if r6 = 0 then
    dm77_16 r3 s
  else
    vN (sR s 106 6) (
      bu (dm74 s) fun r13 =>
      none
    ) fun b9 =>
      if aK s b9 3 then
        bu (dm74 s) fun r16 =>
        bu (dm60 b9 r3 1 r16 s) fun s19 =>
        dm77_16 r3 s19
      else none
set_option maxRecDepth 100000 in
theorem dt77 {sio : Bool} {tt : Nat} {cc : Nat → Nat → Int32} {d : Nat} (hd : 2 ≤ d) {s : aS} (hl : Ly tt cc s) {o : aS} (h : dm77  s = some o) : Q 1 sio tt cc d 77 0 [some (.ref 106), none] [] s (.inl none, o) := by
  unfold dm77 at h
  obtain ⟨d, rfl⟩ : ∃ e, d = e + 1 := ⟨d - 1, by omega⟩
  refine Q.run zm77 1 (i' := 1) (ls' := [some (.ref 106), none]) (st' := [.ref 106]) rfl ?_
  refine Q.map (A.gf (gI_of zm77 (e := (1, 3, .getfield 37, [4, 5])) rfl) (hl.lt (a := 106) (by decide)) (hl.T (a := 106) (p := (4, 13)) 28 rfl rfl) (by decide) (hl.R 13 rfl)) ?_
  obtain ⟨r3, hc2, h⟩ := bu_so h
  have hq1 : Q 1 sio tt cc d 78 0 [some (.ref 113)] [] s (.inl (some (.int r3)), s) := dt78 (by omega) hl  hc2
  refine Q.callI (gC_vi zm77 (show zM77.2.2.2.2.2[2]? = some (4, 3, .invokevirtual 174, [0, 78, 0, 7]) from rfl) zm78 (hl.lt (a := 113) (by decide)) (hl.T (a := 113) (p := (7, 4)) 35 rfl rfl) rfl (show aCr 0 113 [.ref 113] 1 = some ([some (.ref 113)], []) from rfl)) hq1 ?_
  refine Q.run zm77 2 (i' := 5) (ls' := [some (.ref 106), some (.int r3)]) (st' := [.ref 106]) rfl ?_
  refine Q.map (A.gf (gI_of zm77 (e := (9, 3, .getfield 37, [4, 5])) rfl) (hl.lt (a := 106) (by decide)) (hl.T (a := 106) (p := (4, 13)) 28 rfl rfl) (by decide) (hl.R 13 rfl)) ?_
  obtain ⟨r6, hc5, h⟩ := bu_so h
  have hq4 : Q 1 sio tt cc d 73 0 [some (.ref 113)] [] s (.inl (some (.int r6)), s) := dt73 (by omega) hl  hc5
  refine Q.callI (gC_vi zm77 (show zM77.2.2.2.2.2[6]? = some (12, 3, .invokevirtual 177, [0, 73, 0, 7]) from rfl) zm73 (hl.lt (a := 113) (by decide)) (hl.T (a := 113) (p := (7, 4)) 35 rfl rfl) rfl (show aCr 0 113 [.ref 113] 1 = some ([some (.ref 113)], []) from rfl)) hq4 ?_
  by_cases hc7 : r6 = 0
  · rw [if_pos hc7] at h
    refine Q.map (A.zT (gI_of zm77 (e := (15, 3, .ifCond .eq 19, [16])) rfl) (decide_eq_true hc7)) ?_
    exact dt77_16 hd hl  h
  · rw [if_neg hc7] at h
    refine Q.map (A.zF (gI_of zm77 (e := (15, 3, .ifCond .eq 19, [16])) rfl) (fun q => hc7 (of_decide_eq_true q))) ?_
    refine Q.run zm77 1 (i' := 9) (ls' := [some (.ref 106), some (.int r3)]) (st' := [.ref 106]) rfl ?_
    rcases vN_so h with ⟨hv8, h⟩ | ⟨b9, hv8, h⟩
    · refine Q.map (A.gf (gI_of zm77 (e := (19, 3, .getfield 48, [4, 6])) rfl) (hl.lt (a := 106) (by decide)) (hl.T (a := 106) (p := (4, 13)) 28 rfl rfl) (by decide) hv8) ?_
      refine Q.run zm77 3 (i' := 13) (ls' := [some (.ref 106), some (.int r3)]) (st' := [.ref 106, .int 1, .int r3, .null]) rfl ?_
      refine Q.map (A.gf (gI_of zm77 (e := (25, 3, .getfield 37, [4, 5])) rfl) (hl.lt (a := 106) (by decide)) (hl.T (a := 106) (p := (4, 13)) 28 rfl rfl) (by decide) (hl.R 13 rfl)) ?_
      obtain ⟨r13, hc12, h⟩ := bu_so h
      have hq11 : Q 1 sio tt cc d 74 0 [some (.ref 113)] [] s (.inl (some (.int r13)), s) := dt74 (by omega) hl  hc12
      refine Q.callI (gC_vi zm77 (show zM77.2.2.2.2.2[14]? = some (28, 3, .invokevirtual 159, [0, 74, 0, 7]) from rfl) zm74 (hl.lt (a := 113) (by decide)) (hl.T (a := 113) (p := (7, 4)) 35 rfl rfl) rfl (show aCr 0 113 [.ref 113, .int 1, .int r3, .null] 1 = some ([some (.ref 113)], [.int 1, .int r3, .null]) from rfl)) hq11 ?_
      cases h
    · obtain ⟨hr10, h⟩ := ite_so h
      refine Q.map (A.gf (gI_of zm77 (e := (19, 3, .getfield 48, [4, 6])) rfl) (hl.lt (a := 106) (by decide)) (hl.T (a := 106) (p := (4, 13)) 28 rfl rfl) (by decide) hv8) ?_
      refine Q.run zm77 3 (i' := 13) (ls' := [some (.ref 106), some (.int r3)]) (st' := [.ref 106, .int 1, .int r3, .ref b9]) rfl ?_
      refine Q.map (A.gf (gI_of zm77 (e := (25, 3, .getfield 37, [4, 5])) rfl) (hl.lt (a := 106) (by decide)) (hl.T (a := 106) (p := (4, 13)) 28 rfl rfl) (by decide) (hl.R 13 rfl)) ?_
      obtain ⟨r16, hc15, h⟩ := bu_so h
      have hq14 : Q 1 sio tt cc d 74 0 [some (.ref 113)] [] s (.inl (some (.int r16)), s) := dt74 (by omega) hl  hc15
      refine Q.callI (gC_vi zm77 (show zM77.2.2.2.2.2[14]? = some (28, 3, .invokevirtual 159, [0, 74, 0, 7]) from rfl) zm74 (hl.lt (a := 113) (by decide)) (hl.T (a := 113) (p := (7, 4)) 35 rfl rfl) rfl (show aCr 0 113 [.ref 113, .int 1, .int r3, .ref b9] 1 = some ([some (.ref 113)], [.int 1, .int r3, .ref b9]) from rfl)) hq14 ?_
      obtain ⟨s19, hc18, h⟩ := bu_so h
      have hq17 : Q 1 sio tt cc d 60 0 [some (.ref b9), some (.int r3), some (.int 1), some (.int r16)] [] s (.inl none, s19) := dt60 (by omega) hl hr10 hc18
      refine Q.callV (gC_vi zm77 (show zM77.2.2.2.2.2[15]? = some (31, 3, .invokevirtual 180, [0, 60, 3, 3]) from rfl) zm60 hr10.1 (hl.tr hr10).1 rfl (show aCr 3 b9 [.int r16, .int 1, .int r3, .ref b9] 4 = some ([some (.ref b9), some (.int r3), some (.int 1), some (.int r16)], []) from rfl)) hq17 ?_
      have hr20 : aK s19 b9 3 := hq17.2.1.k hr10
      exact dt77_16 hd hq17.1  h
/-! 75 FormulaTrees$Reader.endArgument(Z)V -/
set_option maxRecDepth 100000 in
theorem zm75 : zP[75]? = some zM75 := rfl
def dm75_14 (x1 : Int32) (s : aS) : Option (aS) :=
  bu (dm76 s) fun s3 =>
  if x1 = 0 then
    bu (dm79 s3) fun r7 =>
    bu (dm65 r7 s3) fun s10 =>
    nx (wI s10 106 9 0) fun s11 =>
    nx (wI s11 106 7 ((sI s11 106 7) + 1)) fun s14 =>
    some s14
  else
    bu (dm77 s3) fun s19 =>
    some s19
set_option maxRecDepth 100000 in
theorem dt75_14 {sio : Bool} {tt : Nat} {cc : Nat → Nat → Int32} {d : Nat} (hd : 3 ≤ d) {x1 : Int32} {s : aS} (hl : Ly tt cc s) {o : aS} (h : dm75_14  x1 s = some o) : Q 1 sio tt cc d 75 14 [some (.ref 106), some (.int x1)] [] s (.inl none, o) := by
  unfold dm75_14 at h
  obtain ⟨d, rfl⟩ : ∃ e, d = e + 1 := ⟨d - 1, by omega⟩
  refine Q.run zm75 1 (i' := 15) (ls' := [some (.ref 106), some (.int x1)]) (st' := [.ref 106]) rfl ?_
  refine Q.map (A.gf (gI_of zm75 (e := (28, 3, .getfield 37, [4, 5])) rfl) (hl.lt (a := 106) (by decide)) (hl.T (a := 106) (p := (4, 13)) 28 rfl rfl) (by decide) (hl.R 13 rfl)) ?_
  obtain ⟨s3, hc2, h⟩ := bu_so h
  have hq1 : Q 1 sio tt cc d 76 0 [some (.ref 113)] [] s (.inl none, s3) := dt76 (by omega) hl  hc2
  refine Q.callV (gC_vi zm75 (show zM75.2.2.2.2.2[16]? = some (31, 3, .invokevirtual 168, [0, 76, 0, 7]) from rfl) zm76 (hl.lt (a := 113) (by decide)) (hl.T (a := 113) (p := (7, 4)) 35 rfl rfl) rfl (show aCr 0 113 [.ref 113] 1 = some ([some (.ref 113)], []) from rfl)) hq1 ?_
  refine Q.run zm75 1 (i' := 18) (ls' := [some (.ref 106), some (.int x1)]) (st' := [.int x1]) rfl ?_
  by_cases hc4 : x1 = 0
  · rw [if_pos hc4] at h
    refine Q.map (A.zT (gI_of zm75 (e := (35, 3, .ifCond .eq 10, [22])) rfl) (decide_eq_true hc4)) ?_
    refine Q.run zm75 1 (i' := 23) (ls' := [some (.ref 106), some (.int x1)]) (st' := [.ref 106]) rfl ?_
    refine Q.map (A.gf (gI_of zm75 (e := (46, 3, .getfield 30, [4, 4])) rfl) (hq1.1.lt (a := 106) (by decide)) (hq1.1.T (a := 106) (p := (4, 13)) 28 rfl rfl) (by decide) (hq1.1.R 12 rfl)) ?_
    refine Q.run zm75 1 (i' := 25) (ls' := [some (.ref 106), some (.int x1)]) (st' := [.ref 106, .ref 110]) rfl ?_
    refine Q.map (A.gf (gI_of zm75 (e := (50, 3, .getfield 37, [4, 5])) rfl) (hq1.1.lt (a := 106) (by decide)) (hq1.1.T (a := 106) (p := (4, 13)) 28 rfl rfl) (by decide) (hq1.1.R 13 rfl)) ?_
    obtain ⟨r7, hc6, h⟩ := bu_so h
    have hq5 : Q 1 sio tt cc d 79 0 [some (.ref 113)] [] s3 (.inl (some (.int r7)), s3) := dt79 (by omega) hq1.1  hc6
    refine Q.callI (gC_vi zm75 (show zM75.2.2.2.2.2[26]? = some (53, 3, .invokevirtual 171, [0, 79, 0, 7]) from rfl) zm79 (hq1.1.lt (a := 113) (by decide)) (hq1.1.T (a := 113) (p := (7, 4)) 35 rfl rfl) rfl (show aCr 0 113 [.ref 113, .ref 110] 1 = some ([some (.ref 113)], [.ref 110]) from rfl)) hq5 ?_
    obtain ⟨s10, hc9, h⟩ := bu_so h
    have hq8 : Q 1 sio tt cc d 65 0 [some (.ref 110), some (.int r7)] [] s3 (.inl none, s10) := dt65 (by omega) hq1.1  hc9
    refine Q.callV (gC_vi zm75 (show zM75.2.2.2.2.2[27]? = some (56, 3, .invokevirtual 57, [0, 65, 1, 6]) from rfl) zm65 (hq1.1.lt (a := 110) (by decide)) (hq1.1.T (a := 110) (p := (6, 3)) 32 rfl rfl) rfl (show aCr 1 110 [.int r7, .ref 110] 2 = some ([some (.ref 110), some (.int r7)], []) from rfl)) hq8 ?_
    refine Q.run zm75 2 (i' := 30) (ls' := [some (.ref 106), some (.int x1)]) (st' := [.int 0, .ref 106]) rfl ?_
    obtain ⟨s11, hs12, h⟩ := nx_so h
    refine Q.pf hs12 rfl (gI_of zm75 (e := (61, 3, .putfield 68, [4, 9, 0])) rfl) (hq8.1.lt (a := 106) (by decide)) (by decide) (hq8.1.T (a := 106) (p := (4, 13)) 28 rfl rfl) (by decide) rfl rfl ?_
    have hl13 : Ly tt cc s11 := by rw [hs12]; exact hq8.1.wId (by decide)
    refine Q.run zm75 2 (i' := 33) (ls' := [some (.ref 106), some (.int x1)]) (st' := [.ref 106, .ref 106]) rfl ?_
    refine Q.map (A.gf (gI_of zm75 (e := (66, 3, .getfield 61, [4, 7])) rfl) (hl13.lt (a := 106) (by decide)) (hl13.T (a := 106) (p := (4, 13)) 28 rfl rfl) (by decide) rfl) ?_
    refine Q.run zm75 2 (i' := 36) (ls' := [some (.ref 106), some (.int x1)]) (st' := [.int ((sI s11 106 7) + 1), .ref 106]) rfl ?_
    obtain ⟨s14, hs15, h⟩ := nx_so h
    refine Q.pf hs15 rfl (gI_of zm75 (e := (71, 3, .putfield 61, [4, 7, 0])) rfl) (hl13.lt (a := 106) (by decide)) (by decide) (hl13.T (a := 106) (p := (4, 13)) 28 rfl rfl) (by decide) rfl rfl ?_
    have hl16 : Ly tt cc s14 := by rw [hs15]; exact hl13.wId (by decide)
    cases h
    exact Q.ret (A.rv zm75 (show zM75.2.2.2.2.2[37]? = some (74, 1, .return_, []) from rfl) rfl) hl16
  · rw [if_neg hc4] at h
    refine Q.map (A.zF (gI_of zm75 (e := (35, 3, .ifCond .eq 10, [22])) rfl) (fun q => hc4 (of_decide_eq_true q))) ?_
    refine Q.run zm75 1 (i' := 20) (ls' := [some (.ref 106), some (.int x1)]) (st' := [.ref 106]) rfl ?_
    obtain ⟨s19, hc18, h⟩ := bu_so h
    have hq17 : Q 1 sio tt cc d 77 0 [some (.ref 106), none] [] s3 (.inl none, s19) := dt77 (by omega) hq1.1  hc18
    refine Q.callV (gC_vi zm75 (show zM75.2.2.2.2.2[20]? = some (39, 3, .invokevirtual 162, [0, 77, 0, 4]) from rfl) zm77 (hq1.1.lt (a := 106) (by decide)) (hq1.1.T (a := 106) (p := (4, 13)) 28 rfl rfl) rfl (show aCr 0 106 [.ref 106] 2 = some ([some (.ref 106), none], []) from rfl)) hq17 ?_
    refine Q.run zm75 1 (i' := 37) (ls' := [some (.ref 106), some (.int x1)]) (st' := []) rfl ?_
    cases h
    exact Q.ret (A.rv zm75 (show zM75.2.2.2.2.2[37]? = some (74, 1, .return_, []) from rfl) rfl) hq17.1
def dm75 (x1 : Int32) (s : aS) : Option (aS) :=
  if x1 = 0 then
    bu (dm74 s) fun r4 =>
    if (r4 + 2) ≤ 30 then
      dm75_14 x1 s
    else
      nx (wI s 106 8 (sI s 106 7)) fun s6 =>
      some s6
  else
    dm75_14 x1 s
set_option maxRecDepth 100000 in
theorem dt75 {sio : Bool} {tt : Nat} {cc : Nat → Nat → Int32} {d : Nat} (hd : 3 ≤ d) {x1 : Int32} {s : aS} (hl : Ly tt cc s) {o : aS} (h : dm75  x1 s = some o) : Q 1 sio tt cc d 75 0 [some (.ref 106), some (.int x1)] [] s (.inl none, o) := by
  unfold dm75 at h
  obtain ⟨d, rfl⟩ : ∃ e, d = e + 1 := ⟨d - 1, by omega⟩
  refine Q.run zm75 1 (i' := 1) (ls' := [some (.ref 106), some (.int x1)]) (st' := [.int x1]) rfl ?_
  by_cases hc1 : x1 = 0
  · rw [if_pos hc1] at h
    refine Q.map (A.zF (gI_of zm75 (e := (1, 3, .ifCond .ne 26, [14])) rfl) (fun q => of_decide_eq_true q hc1)) ?_
    refine Q.run zm75 1 (i' := 3) (ls' := [some (.ref 106), some (.int x1)]) (st' := [.ref 106]) rfl ?_
    refine Q.map (A.gf (gI_of zm75 (e := (5, 3, .getfield 37, [4, 5])) rfl) (hl.lt (a := 106) (by decide)) (hl.T (a := 106) (p := (4, 13)) 28 rfl rfl) (by decide) (hl.R 13 rfl)) ?_
    obtain ⟨r4, hc3, h⟩ := bu_so h
    have hq2 : Q 1 sio tt cc d 74 0 [some (.ref 113)] [] s (.inl (some (.int r4)), s) := dt74 (by omega) hl  hc3
    refine Q.callI (gC_vi zm75 (show zM75.2.2.2.2.2[4]? = some (8, 3, .invokevirtual 159, [0, 74, 0, 7]) from rfl) zm74 (hl.lt (a := 113) (by decide)) (hl.T (a := 113) (p := (7, 4)) 35 rfl rfl) rfl (show aCr 0 113 [.ref 113] 1 = some ([some (.ref 113)], []) from rfl)) hq2 ?_
    refine Q.run zm75 3 (i' := 8) (ls' := [some (.ref 106), some (.int x1)]) (st' := [.int 30, .int (r4 + 2)]) rfl ?_
    by_cases hc5 : (r4 + 2) ≤ 30
    · rw [if_pos hc5] at h
      refine Q.map (A.bT (gI_of zm75 (e := (15, 3, .if_icmp .le 12, [14])) rfl) (decide_eq_true hc5)) ?_
      exact dt75_14 hd hl  h
    · rw [if_neg hc5] at h
      refine Q.map (A.bF (gI_of zm75 (e := (15, 3, .if_icmp .le 12, [14])) rfl) (fun q => hc5 (of_decide_eq_true q))) ?_
      refine Q.run zm75 2 (i' := 11) (ls' := [some (.ref 106), some (.int x1)]) (st' := [.ref 106, .ref 106]) rfl ?_
      refine Q.map (A.gf (gI_of zm75 (e := (20, 3, .getfield 61, [4, 7])) rfl) (hl.lt (a := 106) (by decide)) (hl.T (a := 106) (p := (4, 13)) 28 rfl rfl) (by decide) rfl) ?_
      obtain ⟨s6, hs7, h⟩ := nx_so h
      refine Q.pf hs7 rfl (gI_of zm75 (e := (23, 3, .putfield 65, [4, 8, 0])) rfl) (hl.lt (a := 106) (by decide)) (by decide) (hl.T (a := 106) (p := (4, 13)) 28 rfl rfl) (by decide) rfl rfl ?_
      have hl8 : Ly tt cc s6 := by rw [hs7]; exact hl.wId (by decide)
      cases h
      exact Q.ret (A.rv zm75 (show zM75.2.2.2.2.2[13]? = some (26, 1, .return_, []) from rfl) rfl) hl8
  · rw [if_neg hc1] at h
    refine Q.map (A.zT (gI_of zm75 (e := (1, 3, .ifCond .ne 26, [14])) rfl) (decide_eq_true hc1)) ?_
    exact dt75_14 hd hl  h
/-! 82 FormulaTrees$Brackets.open()I -/
set_option maxRecDepth 100000 in
theorem zm82 : zP[82]? = some zM82 := rfl
def dm82 (s : aS) : Option (Int32) :=
  some (sI s 113 3)
set_option maxRecDepth 100000 in
theorem dt82 {sio : Bool} {tt : Nat} {cc : Nat → Nat → Int32} {d : Nat} (hd : 0 ≤ d) {s : aS} (hl : Ly tt cc s) {o : Int32} (h : dm82  s = some o) : Q 1 sio tt cc d 82 0 [some (.ref 113)] [] s (.inl (some (.int o)), s) := by
  unfold dm82 at h
  refine Q.run zm82 1 (i' := 1) (ls' := [some (.ref 113)]) (st' := [.ref 113]) rfl ?_
  refine Q.map (A.gf (gI_of zm82 (e := (1, 3, .getfield 21, [7, 3])) rfl) (hl.lt (a := 113) (by decide)) (hl.T (a := 113) (p := (7, 4)) 35 rfl rfl) (by decide) rfl) ?_
  cases h
  exact Q.ret (A.ri zm82 (show zM82.2.2.2.2.2[2]? = some (4, 1, .ireturn, []) from rfl) rfl rfl) hl
/-! 83 FormulaTrees$Reader.kindBetween(II)I -/
set_option maxRecDepth 100000 in
theorem zm83 : zP[83]? = some zM83 := rfl
def dm83 (x0 : Int32) (x1 : Int32) : Option (Int32) :=
  if x0 = 38 then
    some 16
  else
    if x0 = 42 then
      some 12
    else
      if x0 = 43 then
        some 14
      else
        if x0 = 45 then
          some 15
        else
          if x0 = 47 then
            some 13
          else
            if x0 = 60 then
              if x1 = 62 then
                some 18
              else
                if x1 = 61 then
                  some 21
                else
                  some 19
            else
              if x0 = 61 then
                some 17
              else
                if x0 = 62 then
                  if x1 = 61 then
                    some 22
                  else
                    some 20
                else
                  if x0 = 94 then
                    some 11
                  else
                    some (-1)
set_option maxRecDepth 100000 in
theorem dt83 {sio : Bool} {tt : Nat} {cc : Nat → Nat → Int32} {d : Nat} (hd : 0 ≤ d) {x0 : Int32} {x1 : Int32} {s : aS} (hl : Ly tt cc s) {o : Int32} (h : dm83  x0 x1 = some o) : Q 1 sio tt cc d 83 0 [some (.int x0), some (.int x1)] [] s (.inl (some (.int o)), s) := by
  unfold dm83 at h
  refine Q.run zm83 1 (i' := 1) (ls' := [some (.int x0), some (.int x1)]) (st' := [.int x0]) rfl ?_
  by_cases hc1 : x0 = 38
  · rw [if_pos hc1] at h
    refine Q.map (A.lk (gI_of zm83 (e := (1, 83, .lookupswitch 143 #[(38, 98), (42, 86), (43, 92), (45, 95), (47, 89), (60, 104), (61, 101), (62, 129), (94, 83)], [35, 12, 4, 8, 10, 6, 16, 14, 28, 2])) rfl) (t := 12) (by rw [hc1] <;> decide)) ?_
    refine Q.run zm83 1 (i' := 13) (ls' := [some (.int x0), some (.int x1)]) (st' := [.int 16]) rfl ?_
    cases h
    exact Q.ret (A.ri zm83 (show zM83.2.2.2.2.2[13]? = some (101, 1, .ireturn, []) from rfl) rfl rfl) hl
  · rw [if_neg hc1] at h
    by_cases hc2 : x0 = 42
    · rw [if_pos hc2] at h
      refine Q.map (A.lk (gI_of zm83 (e := (1, 83, .lookupswitch 143 #[(38, 98), (42, 86), (43, 92), (45, 95), (47, 89), (60, 104), (61, 101), (62, 129), (94, 83)], [35, 12, 4, 8, 10, 6, 16, 14, 28, 2])) rfl) (t := 4) (by rw [hc2] <;> decide)) ?_
      refine Q.run zm83 1 (i' := 5) (ls' := [some (.int x0), some (.int x1)]) (st' := [.int 12]) rfl ?_
      cases h
      exact Q.ret (A.ri zm83 (show zM83.2.2.2.2.2[5]? = some (89, 1, .ireturn, []) from rfl) rfl rfl) hl
    · rw [if_neg hc2] at h
      by_cases hc3 : x0 = 43
      · rw [if_pos hc3] at h
        refine Q.map (A.lk (gI_of zm83 (e := (1, 83, .lookupswitch 143 #[(38, 98), (42, 86), (43, 92), (45, 95), (47, 89), (60, 104), (61, 101), (62, 129), (94, 83)], [35, 12, 4, 8, 10, 6, 16, 14, 28, 2])) rfl) (t := 8) (by rw [hc3] <;> decide)) ?_
        refine Q.run zm83 1 (i' := 9) (ls' := [some (.int x0), some (.int x1)]) (st' := [.int 14]) rfl ?_
        cases h
        exact Q.ret (A.ri zm83 (show zM83.2.2.2.2.2[9]? = some (95, 1, .ireturn, []) from rfl) rfl rfl) hl
      · rw [if_neg hc3] at h
        by_cases hc4 : x0 = 45
        · rw [if_pos hc4] at h
          refine Q.map (A.lk (gI_of zm83 (e := (1, 83, .lookupswitch 143 #[(38, 98), (42, 86), (43, 92), (45, 95), (47, 89), (60, 104), (61, 101), (62, 129), (94, 83)], [35, 12, 4, 8, 10, 6, 16, 14, 28, 2])) rfl) (t := 10) (by rw [hc4] <;> decide)) ?_
          refine Q.run zm83 1 (i' := 11) (ls' := [some (.int x0), some (.int x1)]) (st' := [.int 15]) rfl ?_
          cases h
          exact Q.ret (A.ri zm83 (show zM83.2.2.2.2.2[11]? = some (98, 1, .ireturn, []) from rfl) rfl rfl) hl
        · rw [if_neg hc4] at h
          by_cases hc5 : x0 = 47
          · rw [if_pos hc5] at h
            refine Q.map (A.lk (gI_of zm83 (e := (1, 83, .lookupswitch 143 #[(38, 98), (42, 86), (43, 92), (45, 95), (47, 89), (60, 104), (61, 101), (62, 129), (94, 83)], [35, 12, 4, 8, 10, 6, 16, 14, 28, 2])) rfl) (t := 6) (by rw [hc5] <;> decide)) ?_
            refine Q.run zm83 1 (i' := 7) (ls' := [some (.int x0), some (.int x1)]) (st' := [.int 13]) rfl ?_
            cases h
            exact Q.ret (A.ri zm83 (show zM83.2.2.2.2.2[7]? = some (92, 1, .ireturn, []) from rfl) rfl rfl) hl
          · rw [if_neg hc5] at h
            by_cases hc6 : x0 = 60
            · rw [if_pos hc6] at h
              refine Q.map (A.lk (gI_of zm83 (e := (1, 83, .lookupswitch 143 #[(38, 98), (42, 86), (43, 92), (45, 95), (47, 89), (60, 104), (61, 101), (62, 129), (94, 83)], [35, 12, 4, 8, 10, 6, 16, 14, 28, 2])) rfl) (t := 16) (by rw [hc6] <;> decide)) ?_
              refine Q.run zm83 2 (i' := 18) (ls' := [some (.int x0), some (.int x1)]) (st' := [.int 62, .int x1]) rfl ?_
              by_cases hc7 : x1 = 62
              · rw [if_pos hc7] at h
                refine Q.map (A.bF (gI_of zm83 (e := (108, 3, .if_icmp .ne 8, [21])) rfl) (fun q => of_decide_eq_true q hc7)) ?_
                refine Q.run zm83 2 (i' := 27) (ls' := [some (.int x0), some (.int x1)]) (st' := [.int 18]) rfl ?_
                cases h
                exact Q.ret (A.ri zm83 (show zM83.2.2.2.2.2[27]? = some (129, 1, .ireturn, []) from rfl) rfl rfl) hl
              · rw [if_neg hc7] at h
                refine Q.map (A.bT (gI_of zm83 (e := (108, 3, .if_icmp .ne 8, [21])) rfl) (decide_eq_true hc7)) ?_
                refine Q.run zm83 2 (i' := 23) (ls' := [some (.int x0), some (.int x1)]) (st' := [.int 61, .int x1]) rfl ?_
                by_cases hc8 : x1 = 61
                · rw [if_pos hc8] at h
                  refine Q.map (A.bF (gI_of zm83 (e := (119, 3, .if_icmp .ne 8, [26])) rfl) (fun q => of_decide_eq_true q hc8)) ?_
                  refine Q.run zm83 2 (i' := 27) (ls' := [some (.int x0), some (.int x1)]) (st' := [.int 21]) rfl ?_
                  cases h
                  exact Q.ret (A.ri zm83 (show zM83.2.2.2.2.2[27]? = some (129, 1, .ireturn, []) from rfl) rfl rfl) hl
                · rw [if_neg hc8] at h
                  refine Q.map (A.bT (gI_of zm83 (e := (119, 3, .if_icmp .ne 8, [26])) rfl) (decide_eq_true hc8)) ?_
                  refine Q.run zm83 1 (i' := 27) (ls' := [some (.int x0), some (.int x1)]) (st' := [.int 19]) rfl ?_
                  cases h
                  exact Q.ret (A.ri zm83 (show zM83.2.2.2.2.2[27]? = some (129, 1, .ireturn, []) from rfl) rfl rfl) hl
            · rw [if_neg hc6] at h
              by_cases hc9 : x0 = 61
              · rw [if_pos hc9] at h
                refine Q.map (A.lk (gI_of zm83 (e := (1, 83, .lookupswitch 143 #[(38, 98), (42, 86), (43, 92), (45, 95), (47, 89), (60, 104), (61, 101), (62, 129), (94, 83)], [35, 12, 4, 8, 10, 6, 16, 14, 28, 2])) rfl) (t := 14) (by rw [hc9] <;> decide)) ?_
                refine Q.run zm83 1 (i' := 15) (ls' := [some (.int x0), some (.int x1)]) (st' := [.int 17]) rfl ?_
                cases h
                exact Q.ret (A.ri zm83 (show zM83.2.2.2.2.2[15]? = some (104, 1, .ireturn, []) from rfl) rfl rfl) hl
              · rw [if_neg hc9] at h
                by_cases hc10 : x0 = 62
                · rw [if_pos hc10] at h
                  refine Q.map (A.lk (gI_of zm83 (e := (1, 83, .lookupswitch 143 #[(38, 98), (42, 86), (43, 92), (45, 95), (47, 89), (60, 104), (61, 101), (62, 129), (94, 83)], [35, 12, 4, 8, 10, 6, 16, 14, 28, 2])) rfl) (t := 28) (by rw [hc10] <;> decide)) ?_
                  refine Q.run zm83 2 (i' := 30) (ls' := [some (.int x0), some (.int x1)]) (st' := [.int 61, .int x1]) rfl ?_
                  by_cases hc11 : x1 = 61
                  · rw [if_pos hc11] at h
                    refine Q.map (A.bF (gI_of zm83 (e := (133, 3, .if_icmp .ne 8, [33])) rfl) (fun q => of_decide_eq_true q hc11)) ?_
                    refine Q.run zm83 2 (i' := 34) (ls' := [some (.int x0), some (.int x1)]) (st' := [.int 22]) rfl ?_
                    cases h
                    exact Q.ret (A.ri zm83 (show zM83.2.2.2.2.2[34]? = some (143, 1, .ireturn, []) from rfl) rfl rfl) hl
                  · rw [if_neg hc11] at h
                    refine Q.map (A.bT (gI_of zm83 (e := (133, 3, .if_icmp .ne 8, [33])) rfl) (decide_eq_true hc11)) ?_
                    refine Q.run zm83 1 (i' := 34) (ls' := [some (.int x0), some (.int x1)]) (st' := [.int 20]) rfl ?_
                    cases h
                    exact Q.ret (A.ri zm83 (show zM83.2.2.2.2.2[34]? = some (143, 1, .ireturn, []) from rfl) rfl rfl) hl
                · rw [if_neg hc10] at h
                  by_cases hc12 : x0 = 94
                  · rw [if_pos hc12] at h
                    refine Q.map (A.lk (gI_of zm83 (e := (1, 83, .lookupswitch 143 #[(38, 98), (42, 86), (43, 92), (45, 95), (47, 89), (60, 104), (61, 101), (62, 129), (94, 83)], [35, 12, 4, 8, 10, 6, 16, 14, 28, 2])) rfl) (t := 2) (by rw [hc12] <;> decide)) ?_
                    refine Q.run zm83 1 (i' := 3) (ls' := [some (.int x0), some (.int x1)]) (st' := [.int 11]) rfl ?_
                    cases h
                    exact Q.ret (A.ri zm83 (show zM83.2.2.2.2.2[3]? = some (86, 1, .ireturn, []) from rfl) rfl rfl) hl
                  · rw [if_neg hc12] at h
                    refine Q.map (A.lk (gI_of zm83 (e := (1, 83, .lookupswitch 143 #[(38, 98), (42, 86), (43, 92), (45, 95), (47, 89), (60, 104), (61, 101), (62, 129), (94, 83)], [35, 12, 4, 8, 10, 6, 16, 14, 28, 2])) rfl) (t := 35) (by have := (show x0.toInt ≠ 38 ∧ x0.toInt ≠ 42 ∧ x0.toInt ≠ 43 ∧ x0.toInt ≠ 45 ∧ x0.toInt ≠ 47 ∧ x0.toInt ≠ 60 ∧ x0.toInt ≠ 61 ∧ x0.toInt ≠ 62 ∧ x0.toInt ≠ 94 from ⟨i32_ne (n := 38) hc1 (by decide), i32_ne (n := 42) hc2 (by decide), i32_ne (n := 43) hc3 (by decide), i32_ne (n := 45) hc4 (by decide), i32_ne (n := 47) hc5 (by decide), i32_ne (n := 60) hc6 (by decide), i32_ne (n := 61) hc9 (by decide), i32_ne (n := 62) hc10 (by decide), i32_ne (n := 94) hc12 (by decide)⟩); simp [xlk, this])) ?_
                    refine Q.run zm83 1 (i' := 36) (ls' := [some (.int x0), some (.int x1)]) (st' := [.int (-1)]) rfl ?_
                    cases h
                    exact Q.ret (A.ri zm83 (show zM83.2.2.2.2.2[36]? = some (145, 1, .ireturn, []) from rfl) rfl rfl) hl
/-! 85 FormulaTrees.rankOf(I)I -/
set_option maxRecDepth 100000 in
theorem zm85 : zP[85]? = some zM85 := rfl
def dm85 (x0 : Int32) : Option (Int32) :=
  if x0 = 9 then
    some 7
  else
    if x0 = 10 then
      some 6
    else
      if x0 = 11 then
        some 5
      else
        if x0 = 12 then
          some 4
        else
          if x0 = 13 then
            some 4
          else
            if x0 = 14 then
              some 3
            else
              if x0 = 15 then
                some 3
              else
                if x0 = 16 then
                  some 2
                else
                  if x0 < 17 then
                    some 8
                  else
                    if 22 < x0 then
                      some 8
                    else
                      some 1
set_option maxRecDepth 100000 in
theorem dt85 {sio : Bool} {tt : Nat} {cc : Nat → Nat → Int32} {d : Nat} (hd : 0 ≤ d) {x0 : Int32} {s : aS} (hl : Ly tt cc s) {o : Int32} (h : dm85  x0 = some o) : Q 1 sio tt cc d 85 0 [some (.int x0)] [] s (.inl (some (.int o)), s) := by
  unfold dm85 at h
  refine Q.run zm85 1 (i' := 1) (ls' := [some (.int x0)]) (st' := [.int x0]) rfl ?_
  by_cases hc1 : x0 = 9
  · rw [if_pos hc1] at h
    refine Q.map (A.ts (gI_of zm85 (e := (1, 47, .tableswitch 61 9 16 #[47, 50, 53, 55, 55, 57, 57, 59], [14, 2, 4, 6, 8, 8, 10, 10, 12])) rfl) (t := 2) (by rw [hc1] <;> decide)) ?_
    refine Q.run zm85 1 (i' := 3) (ls' := [some (.int x0)]) (st' := [.int 7]) rfl ?_
    cases h
    exact Q.ret (A.ri zm85 (show zM85.2.2.2.2.2[3]? = some (50, 1, .ireturn, []) from rfl) rfl rfl) hl
  · rw [if_neg hc1] at h
    by_cases hc2 : x0 = 10
    · rw [if_pos hc2] at h
      refine Q.map (A.ts (gI_of zm85 (e := (1, 47, .tableswitch 61 9 16 #[47, 50, 53, 55, 55, 57, 57, 59], [14, 2, 4, 6, 8, 8, 10, 10, 12])) rfl) (t := 4) (by rw [hc2] <;> decide)) ?_
      refine Q.run zm85 1 (i' := 5) (ls' := [some (.int x0)]) (st' := [.int 6]) rfl ?_
      cases h
      exact Q.ret (A.ri zm85 (show zM85.2.2.2.2.2[5]? = some (53, 1, .ireturn, []) from rfl) rfl rfl) hl
    · rw [if_neg hc2] at h
      by_cases hc3 : x0 = 11
      · rw [if_pos hc3] at h
        refine Q.map (A.ts (gI_of zm85 (e := (1, 47, .tableswitch 61 9 16 #[47, 50, 53, 55, 55, 57, 57, 59], [14, 2, 4, 6, 8, 8, 10, 10, 12])) rfl) (t := 6) (by rw [hc3] <;> decide)) ?_
        refine Q.run zm85 1 (i' := 7) (ls' := [some (.int x0)]) (st' := [.int 5]) rfl ?_
        cases h
        exact Q.ret (A.ri zm85 (show zM85.2.2.2.2.2[7]? = some (55, 1, .ireturn, []) from rfl) rfl rfl) hl
      · rw [if_neg hc3] at h
        by_cases hc4 : x0 = 12
        · rw [if_pos hc4] at h
          refine Q.map (A.ts (gI_of zm85 (e := (1, 47, .tableswitch 61 9 16 #[47, 50, 53, 55, 55, 57, 57, 59], [14, 2, 4, 6, 8, 8, 10, 10, 12])) rfl) (t := 8) (by rw [hc4] <;> decide)) ?_
          refine Q.run zm85 1 (i' := 9) (ls' := [some (.int x0)]) (st' := [.int 4]) rfl ?_
          cases h
          exact Q.ret (A.ri zm85 (show zM85.2.2.2.2.2[9]? = some (57, 1, .ireturn, []) from rfl) rfl rfl) hl
        · rw [if_neg hc4] at h
          by_cases hc5 : x0 = 13
          · rw [if_pos hc5] at h
            refine Q.map (A.ts (gI_of zm85 (e := (1, 47, .tableswitch 61 9 16 #[47, 50, 53, 55, 55, 57, 57, 59], [14, 2, 4, 6, 8, 8, 10, 10, 12])) rfl) (t := 8) (by rw [hc5] <;> decide)) ?_
            refine Q.run zm85 1 (i' := 9) (ls' := [some (.int x0)]) (st' := [.int 4]) rfl ?_
            cases h
            exact Q.ret (A.ri zm85 (show zM85.2.2.2.2.2[9]? = some (57, 1, .ireturn, []) from rfl) rfl rfl) hl
          · rw [if_neg hc5] at h
            by_cases hc6 : x0 = 14
            · rw [if_pos hc6] at h
              refine Q.map (A.ts (gI_of zm85 (e := (1, 47, .tableswitch 61 9 16 #[47, 50, 53, 55, 55, 57, 57, 59], [14, 2, 4, 6, 8, 8, 10, 10, 12])) rfl) (t := 10) (by rw [hc6] <;> decide)) ?_
              refine Q.run zm85 1 (i' := 11) (ls' := [some (.int x0)]) (st' := [.int 3]) rfl ?_
              cases h
              exact Q.ret (A.ri zm85 (show zM85.2.2.2.2.2[11]? = some (59, 1, .ireturn, []) from rfl) rfl rfl) hl
            · rw [if_neg hc6] at h
              by_cases hc7 : x0 = 15
              · rw [if_pos hc7] at h
                refine Q.map (A.ts (gI_of zm85 (e := (1, 47, .tableswitch 61 9 16 #[47, 50, 53, 55, 55, 57, 57, 59], [14, 2, 4, 6, 8, 8, 10, 10, 12])) rfl) (t := 10) (by rw [hc7] <;> decide)) ?_
                refine Q.run zm85 1 (i' := 11) (ls' := [some (.int x0)]) (st' := [.int 3]) rfl ?_
                cases h
                exact Q.ret (A.ri zm85 (show zM85.2.2.2.2.2[11]? = some (59, 1, .ireturn, []) from rfl) rfl rfl) hl
              · rw [if_neg hc7] at h
                by_cases hc8 : x0 = 16
                · rw [if_pos hc8] at h
                  refine Q.map (A.ts (gI_of zm85 (e := (1, 47, .tableswitch 61 9 16 #[47, 50, 53, 55, 55, 57, 57, 59], [14, 2, 4, 6, 8, 8, 10, 10, 12])) rfl) (t := 12) (by rw [hc8] <;> decide)) ?_
                  refine Q.run zm85 1 (i' := 13) (ls' := [some (.int x0)]) (st' := [.int 2]) rfl ?_
                  cases h
                  exact Q.ret (A.ri zm85 (show zM85.2.2.2.2.2[13]? = some (61, 1, .ireturn, []) from rfl) rfl rfl) hl
                · rw [if_neg hc8] at h
                  refine Q.map (A.ts (gI_of zm85 (e := (1, 47, .tableswitch 61 9 16 #[47, 50, 53, 55, 55, 57, 57, 59], [14, 2, 4, 6, 8, 8, 10, 10, 12])) rfl) (t := 14) (by have := (show x0.toInt ≠ 9 ∧ x0.toInt ≠ 10 ∧ x0.toInt ≠ 11 ∧ x0.toInt ≠ 12 ∧ x0.toInt ≠ 13 ∧ x0.toInt ≠ 14 ∧ x0.toInt ≠ 15 ∧ x0.toInt ≠ 16 from ⟨i32_ne (n := 9) hc1 (by decide), i32_ne (n := 10) hc2 (by decide), i32_ne (n := 11) hc3 (by decide), i32_ne (n := 12) hc4 (by decide), i32_ne (n := 13) hc5 (by decide), i32_ne (n := 14) hc6 (by decide), i32_ne (n := 15) hc7 (by decide), i32_ne (n := 16) hc8 (by decide)⟩); rw [if_pos]; omega)) ?_
                  refine Q.run zm85 2 (i' := 16) (ls' := [some (.int x0)]) (st' := [.int 17, .int x0]) rfl ?_
                  by_cases hc9 : x0 < 17
                  · rw [if_pos hc9] at h
                    refine Q.map (A.bT (gI_of zm85 (e := (65, 3, .if_icmp .lt 13, [22])) rfl) (decide_eq_true hc9)) ?_
                    refine Q.run zm85 1 (i' := 23) (ls' := [some (.int x0)]) (st' := [.int 8]) rfl ?_
                    cases h
                    exact Q.ret (A.ri zm85 (show zM85.2.2.2.2.2[23]? = some (80, 1, .ireturn, []) from rfl) rfl rfl) hl
                  · rw [if_neg hc9] at h
                    refine Q.map (A.bF (gI_of zm85 (e := (65, 3, .if_icmp .lt 13, [22])) rfl) (fun q => hc9 (of_decide_eq_true q))) ?_
                    refine Q.run zm85 2 (i' := 19) (ls' := [some (.int x0)]) (st' := [.int 22, .int x0]) rfl ?_
                    by_cases hc10 : 22 < x0
                    · rw [if_pos hc10] at h
                      refine Q.map (A.bT (gI_of zm85 (e := (71, 3, .if_icmp .gt 7, [22])) rfl) (decide_eq_true hc10)) ?_
                      refine Q.run zm85 1 (i' := 23) (ls' := [some (.int x0)]) (st' := [.int 8]) rfl ?_
                      cases h
                      exact Q.ret (A.ri zm85 (show zM85.2.2.2.2.2[23]? = some (80, 1, .ireturn, []) from rfl) rfl rfl) hl
                    · rw [if_neg hc10] at h
                      refine Q.map (A.bF (gI_of zm85 (e := (71, 3, .if_icmp .gt 7, [22])) rfl) (fun q => hc10 (of_decide_eq_true q))) ?_
                      refine Q.run zm85 2 (i' := 23) (ls' := [some (.int x0)]) (st' := [.int 1]) rfl ?_
                      cases h
                      exact Q.ret (A.ri zm85 (show zM85.2.2.2.2.2[23]? = some (80, 1, .ireturn, []) from rfl) rfl rfl) hl
/-! 86 FormulaTrees$Pending.endFrom(III)I -/
set_option maxRecDepth 100000 in
theorem zm86 : zP[86]? = some zM86 := rfl
def dm86_2 : Nat → Int32 → Int32 → Int32 → aS → Option (Int32 × aS)
  | 0, _, _, _, _ => none
  | n + 1, x1, x2, x4, s =>
    if (sI s 110 2) ≤ x1 then
      some (x4, s)
    else
      if (sI s 110 2) ≤ 0 then
        some (x4, s)
      else
        if aB ((sI s 110 2) - 1) 128 then
          if (sI s 111 (jN ((sI s 110 2) - 1))) < x2 then
            some (x4, s)
          else
            nx (wI s 110 2 ((sI s 110 2) - 1)) fun s5 =>
            if aB (sI s5 110 2) 128 then
              dm86_2 n x1 x2 (sI s5 112 (jN (sI s5 110 2))) s5
            else none
        else none
set_option maxRecDepth 100000 in
theorem dt86_2 {sio : Bool} {tt : Nat} {cc : Nat → Nat → Int32} {d : Nat} (hd : 0 ≤ d) : ∀ (n : Nat) {x1 : Int32} {x2 : Int32} {x4 : Int32} {x3 : Int32} {s : aS} (_ : Ly tt cc s) {o : Int32 × aS} (_ : dm86_2  n x1 x2 x4 s = some o), Q 1 sio tt cc d 86 2 [some (.ref 110), some (.int x1), some (.int x2), some (.int x3), some (.int x4)] [] s (.inl (some (.int o.1)), o.2) := by
  intro n
  induction n with
  | zero => intro x1 x2 x4 x3 s hl o h; rw [dm86_2] at h; cases h
  | succ n ih =>
    intro x1 x2 x4 x3 s hl o h
    rw [dm86_2] at h
    refine Q.run zm86 1 (i' := 3) (ls' := [some (.ref 110), some (.int x1), some (.int x2), some (.int x3), some (.int x4)]) (st' := [.ref 110]) rfl ?_
    refine Q.map (A.gf (gI_of zm86 (e := (4, 3, .getfield 18, [6, 2])) rfl) (hl.lt (a := 110) (by decide)) (hl.T (a := 110) (p := (6, 3)) 32 rfl rfl) (by decide) rfl) ?_
    refine Q.run zm86 1 (i' := 5) (ls' := [some (.ref 110), some (.int x1), some (.int x2), some (.int x3), some (.int x4)]) (st' := [.int x1, .int (sI s 110 2)]) rfl ?_
    by_cases hc1 : (sI s 110 2) ≤ x1
    · rw [if_pos hc1] at h
      refine Q.map (A.bT (gI_of zm86 (e := (8, 3, .if_icmp .le 49, [31])) rfl) (decide_eq_true hc1)) ?_
      refine Q.run zm86 1 (i' := 32) (ls' := [some (.ref 110), some (.int x1), some (.int x2), some (.int x3), some (.int x4)]) (st' := [.int x4]) rfl ?_
      cases h
      exact Q.ret (A.ri zm86 (show zM86.2.2.2.2.2[32]? = some (59, 1, .ireturn, []) from rfl) rfl rfl) hl
    · rw [if_neg hc1] at h
      refine Q.map (A.bF (gI_of zm86 (e := (8, 3, .if_icmp .le 49, [31])) rfl) (fun q => hc1 (of_decide_eq_true q))) ?_
      refine Q.run zm86 1 (i' := 7) (ls' := [some (.ref 110), some (.int x1), some (.int x2), some (.int x3), some (.int x4)]) (st' := [.ref 110]) rfl ?_
      refine Q.map (A.gf (gI_of zm86 (e := (12, 3, .getfield 18, [6, 2])) rfl) (hl.lt (a := 110) (by decide)) (hl.T (a := 110) (p := (6, 3)) 32 rfl rfl) (by decide) rfl) ?_
      by_cases hc2 : (sI s 110 2) ≤ 0
      · rw [if_pos hc2] at h
        refine Q.map (A.zT (gI_of zm86 (e := (15, 3, .ifCond .le 42, [31])) rfl) (decide_eq_true hc2)) ?_
        refine Q.run zm86 1 (i' := 32) (ls' := [some (.ref 110), some (.int x1), some (.int x2), some (.int x3), some (.int x4)]) (st' := [.int x4]) rfl ?_
        cases h
        exact Q.ret (A.ri zm86 (show zM86.2.2.2.2.2[32]? = some (59, 1, .ireturn, []) from rfl) rfl rfl) hl
      · rw [if_neg hc2] at h
        refine Q.map (A.zF (gI_of zm86 (e := (15, 3, .ifCond .le 42, [31])) rfl) (fun q => hc2 (of_decide_eq_true q))) ?_
        refine Q.run zm86 1 (i' := 10) (ls' := [some (.ref 110), some (.int x1), some (.int x2), some (.int x3), some (.int x4)]) (st' := [.ref 110]) rfl ?_
        refine Q.map (A.gf (gI_of zm86 (e := (19, 3, .getfield 9, [6, 0])) rfl) (hl.lt (a := 110) (by decide)) (hl.T (a := 110) (p := (6, 3)) 32 rfl rfl) (by decide) (hl.R 14 rfl)) ?_
        refine Q.run zm86 1 (i' := 12) (ls' := [some (.ref 110), some (.int x1), some (.int x2), some (.int x3), some (.int x4)]) (st' := [.ref 110, .ref 111]) rfl ?_
        refine Q.map (A.gf (gI_of zm86 (e := (23, 3, .getfield 18, [6, 2])) rfl) (hl.lt (a := 110) (by decide)) (hl.T (a := 110) (p := (6, 3)) 32 rfl rfl) (by decide) rfl) ?_
        refine Q.run zm86 2 (i' := 15) (ls' := [some (.ref 110), some (.int x1), some (.int x2), some (.int x3), some (.int x4)]) (st' := [.int ((sI s 110 2) - 1), .ref 111]) rfl ?_
        obtain ⟨hc3, h⟩ := ite_so h
        refine Q.map (A.ia (gI_of zm86 (e := (28, 1, .iaload, [])) rfl) (hl.lt (a := 111) (by decide)) (hl.T (a := 111) (p := (100, 128)) 33 rfl rfl) hc3) ?_
        refine Q.run zm86 1 (i' := 17) (ls' := [some (.ref 110), some (.int x1), some (.int x2), some (.int x3), some (.int x4)]) (st' := [.int x2, .int (sI s 111 (jN ((sI s 110 2) - 1)))]) rfl ?_
        by_cases hc4 : (sI s 111 (jN ((sI s 110 2) - 1))) < x2
        · rw [if_pos hc4] at h
          refine Q.map (A.bT (gI_of zm86 (e := (30, 3, .if_icmp .lt 27, [31])) rfl) (decide_eq_true hc4)) ?_
          refine Q.run zm86 1 (i' := 32) (ls' := [some (.ref 110), some (.int x1), some (.int x2), some (.int x3), some (.int x4)]) (st' := [.int x4]) rfl ?_
          cases h
          exact Q.ret (A.ri zm86 (show zM86.2.2.2.2.2[32]? = some (59, 1, .ireturn, []) from rfl) rfl rfl) hl
        · rw [if_neg hc4] at h
          refine Q.map (A.bF (gI_of zm86 (e := (30, 3, .if_icmp .lt 27, [31])) rfl) (fun q => hc4 (of_decide_eq_true q))) ?_
          refine Q.run zm86 2 (i' := 20) (ls' := [some (.ref 110), some (.int x1), some (.int x2), some (.int x3), some (.int x4)]) (st' := [.ref 110, .ref 110]) rfl ?_
          refine Q.map (A.gf (gI_of zm86 (e := (35, 3, .getfield 18, [6, 2])) rfl) (hl.lt (a := 110) (by decide)) (hl.T (a := 110) (p := (6, 3)) 32 rfl rfl) (by decide) rfl) ?_
          refine Q.run zm86 2 (i' := 23) (ls' := [some (.ref 110), some (.int x1), some (.int x2), some (.int x3), some (.int x4)]) (st' := [.int ((sI s 110 2) - 1), .ref 110]) rfl ?_
          obtain ⟨s5, hs6, h⟩ := nx_so h
          refine Q.pf hs6 rfl (gI_of zm86 (e := (40, 3, .putfield 18, [6, 2, 0])) rfl) (hl.lt (a := 110) (by decide)) (by decide) (hl.T (a := 110) (p := (6, 3)) 32 rfl rfl) (by decide) rfl rfl ?_
          have hl7 : Ly tt cc s5 := by rw [hs6]; exact hl.wId (by decide)
          refine Q.run zm86 1 (i' := 25) (ls' := [some (.ref 110), some (.int x1), some (.int x2), some (.int x3), some (.int x4)]) (st' := [.ref 110]) rfl ?_
          refine Q.map (A.gf (gI_of zm86 (e := (44, 3, .getfield 15, [6, 1])) rfl) (hl7.lt (a := 110) (by decide)) (hl7.T (a := 110) (p := (6, 3)) 32 rfl rfl) (by decide) (hl7.R 15 rfl)) ?_
          refine Q.run zm86 1 (i' := 27) (ls' := [some (.ref 110), some (.int x1), some (.int x2), some (.int x3), some (.int x4)]) (st' := [.ref 110, .ref 112]) rfl ?_
          refine Q.map (A.gf (gI_of zm86 (e := (48, 3, .getfield 18, [6, 2])) rfl) (hl7.lt (a := 110) (by decide)) (hl7.T (a := 110) (p := (6, 3)) 32 rfl rfl) (by decide) rfl) ?_
          obtain ⟨hc8, h⟩ := ite_so h
          refine Q.map (A.ia (gI_of zm86 (e := (51, 1, .iaload, [])) rfl) (hl7.lt (a := 112) (by decide)) (hl7.T (a := 112) (p := (100, 128)) 34 rfl rfl) hc8) ?_
          refine Q.run zm86 2 (i' := 2) (ls' := [some (.ref 110), some (.int x1), some (.int x2), some (.int x3), some (.int (sI s5 112 (jN (sI s5 110 2))))]) (st' := []) rfl ?_
          exact ih hl7  h
def dm86 (x1 : Int32) (x2 : Int32) (x3 : Int32) (s : aS) : Option (Int32 × aS) :=
  dm86_2 5000 x1 x2 x3 s
set_option maxRecDepth 100000 in
theorem dt86 {sio : Bool} {tt : Nat} {cc : Nat → Nat → Int32} {d : Nat} (hd : 0 ≤ d) {x1 : Int32} {x2 : Int32} {x3 : Int32} {s : aS} (hl : Ly tt cc s) {o : Int32 × aS} (h : dm86  x1 x2 x3 s = some o) : Q 1 sio tt cc d 86 0 [some (.ref 110), some (.int x1), some (.int x2), some (.int x3), none] [] s (.inl (some (.int o.1)), o.2) := by
  unfold dm86 at h
  refine Q.run zm86 2 (i' := 2) (ls' := [some (.ref 110), some (.int x1), some (.int x2), some (.int x3), some (.int x3)]) (st' := []) rfl ?_
  exact dt86_2 hd _ hl  h
/-! 87 FormulaTrees$Pending.add(II)V -/
set_option maxRecDepth 100000 in
theorem zm87 : zP[87]? = some zM87 := rfl
def dm87 (x1 : Int32) (x2 : Int32) (s : aS) : Option (aS) :=
  if 128 ≤ (sI s 110 2) then
    some s
  else
    if aB (sI s 110 2) 128 then
      nx (wI s 111 (jN (sI s 110 2)) x1) fun s3 =>
      if aB (sI s3 110 2) 128 then
        nx (wI s3 112 (jN (sI s3 110 2)) x2) fun s7 =>
        nx (wI s7 110 2 ((sI s7 110 2) + 1)) fun s10 =>
        some s10
      else none
    else none
set_option maxRecDepth 100000 in
theorem dt87 {sio : Bool} {tt : Nat} {cc : Nat → Nat → Int32} {d : Nat} (hd : 0 ≤ d) {x1 : Int32} {x2 : Int32} {s : aS} (hl : Ly tt cc s) {o : aS} (h : dm87  x1 x2 s = some o) : Q 1 sio tt cc d 87 0 [some (.ref 110), some (.int x1), some (.int x2)] [] s (.inl none, o) := by
  unfold dm87 at h
  refine Q.run zm87 1 (i' := 1) (ls' := [some (.ref 110), some (.int x1), some (.int x2)]) (st' := [.ref 110]) rfl ?_
  refine Q.map (A.gf (gI_of zm87 (e := (1, 3, .getfield 18, [6, 2])) rfl) (hl.lt (a := 110) (by decide)) (hl.T (a := 110) (p := (6, 3)) 32 rfl rfl) (by decide) rfl) ?_
  refine Q.run zm87 1 (i' := 3) (ls' := [some (.ref 110), some (.int x1), some (.int x2)]) (st' := [.int 128, .int (sI s 110 2)]) rfl ?_
  by_cases hc1 : 128 ≤ (sI s 110 2)
  · rw [if_pos hc1] at h
    refine Q.map (A.bT (gI_of zm87 (e := (7, 3, .if_icmp .ge 33, [22])) rfl) (decide_eq_true hc1)) ?_
    cases h
    exact Q.ret (A.rv zm87 (show zM87.2.2.2.2.2[22]? = some (40, 1, .return_, []) from rfl) rfl) hl
  · rw [if_neg hc1] at h
    refine Q.map (A.bF (gI_of zm87 (e := (7, 3, .if_icmp .ge 33, [22])) rfl) (fun q => hc1 (of_decide_eq_true q))) ?_
    refine Q.run zm87 1 (i' := 5) (ls' := [some (.ref 110), some (.int x1), some (.int x2)]) (st' := [.ref 110]) rfl ?_
    refine Q.map (A.gf (gI_of zm87 (e := (11, 3, .getfield 9, [6, 0])) rfl) (hl.lt (a := 110) (by decide)) (hl.T (a := 110) (p := (6, 3)) 32 rfl rfl) (by decide) (hl.R 14 rfl)) ?_
    refine Q.run zm87 1 (i' := 7) (ls' := [some (.ref 110), some (.int x1), some (.int x2)]) (st' := [.ref 110, .ref 111]) rfl ?_
    refine Q.map (A.gf (gI_of zm87 (e := (15, 3, .getfield 18, [6, 2])) rfl) (hl.lt (a := 110) (by decide)) (hl.T (a := 110) (p := (6, 3)) 32 rfl rfl) (by decide) rfl) ?_
    refine Q.run zm87 1 (i' := 9) (ls' := [some (.ref 110), some (.int x1), some (.int x2)]) (st' := [.int x1, .int (sI s 110 2), .ref 111]) rfl ?_
    obtain ⟨hc2, h⟩ := ite_so h
    obtain ⟨s3, hs4, h⟩ := nx_so h
    refine Q.is hs4 rfl (gI_of zm87 (e := (19, 1, .iastore, [])) rfl) (hl.lt (a := 111) (by decide)) (by decide) (hl.T (a := 111) (p := (100, 128)) 33 rfl rfl) hc2 ?_
    have hl5 : Ly tt cc s3 := by rw [hs4]; exact hl.wId (by decide)
    refine Q.run zm87 1 (i' := 11) (ls' := [some (.ref 110), some (.int x1), some (.int x2)]) (st' := [.ref 110]) rfl ?_
    refine Q.map (A.gf (gI_of zm87 (e := (21, 3, .getfield 15, [6, 1])) rfl) (hl5.lt (a := 110) (by decide)) (hl5.T (a := 110) (p := (6, 3)) 32 rfl rfl) (by decide) (hl5.R 15 rfl)) ?_
    refine Q.run zm87 1 (i' := 13) (ls' := [some (.ref 110), some (.int x1), some (.int x2)]) (st' := [.ref 110, .ref 112]) rfl ?_
    refine Q.map (A.gf (gI_of zm87 (e := (25, 3, .getfield 18, [6, 2])) rfl) (hl5.lt (a := 110) (by decide)) (hl5.T (a := 110) (p := (6, 3)) 32 rfl rfl) (by decide) rfl) ?_
    refine Q.run zm87 1 (i' := 15) (ls' := [some (.ref 110), some (.int x1), some (.int x2)]) (st' := [.int x2, .int (sI s3 110 2), .ref 112]) rfl ?_
    obtain ⟨hc6, h⟩ := ite_so h
    obtain ⟨s7, hs8, h⟩ := nx_so h
    refine Q.is hs8 rfl (gI_of zm87 (e := (29, 1, .iastore, [])) rfl) (hl5.lt (a := 112) (by decide)) (by decide) (hl5.T (a := 112) (p := (100, 128)) 34 rfl rfl) hc6 ?_
    have hl9 : Ly tt cc s7 := by rw [hs8]; exact hl5.wId (by decide)
    refine Q.run zm87 2 (i' := 18) (ls' := [some (.ref 110), some (.int x1), some (.int x2)]) (st' := [.ref 110, .ref 110]) rfl ?_
    refine Q.map (A.gf (gI_of zm87 (e := (32, 3, .getfield 18, [6, 2])) rfl) (hl9.lt (a := 110) (by decide)) (hl9.T (a := 110) (p := (6, 3)) 32 rfl rfl) (by decide) rfl) ?_
    refine Q.run zm87 2 (i' := 21) (ls' := [some (.ref 110), some (.int x1), some (.int x2)]) (st' := [.int ((sI s7 110 2) + 1), .ref 110]) rfl ?_
    obtain ⟨s10, hs11, h⟩ := nx_so h
    refine Q.pf hs11 rfl (gI_of zm87 (e := (37, 3, .putfield 18, [6, 2, 0])) rfl) (hl9.lt (a := 110) (by decide)) (by decide) (hl9.T (a := 110) (p := (6, 3)) 32 rfl rfl) (by decide) rfl rfl ?_
    have hl12 : Ly tt cc s10 := by rw [hs11]; exact hl9.wId (by decide)
    cases h
    exact Q.ret (A.rv zm87 (show zM87.2.2.2.2.2[22]? = some (40, 1, .return_, []) from rfl) rfl) hl12
/-! 84 FormulaTrees$Reader.readBetween(I)V -/
set_option maxRecDepth 100000 in
theorem zm84 : zP[84]? = some zM84 := rfl
def dm84_61 (y1 : Int32) (y2 : Int32) (s : aS) : Option (aS) :=
  nx (wI s 106 7 (y1 + y2)) fun s1 =>
  some s1
set_option maxRecDepth 100000 in
theorem dt84_61 {sio : Bool} {tt : Nat} {cc : Nat → Nat → Int32} {d : Nat} (hd : 2 ≤ d) {y1 : Int32} {y2 : Int32} {x1 : Int32} {x2 : Int32} {x3 : Int32} {x4 : Int32} {s : aS} (hl : Ly tt cc s) {o : aS} (h : dm84_61  y1 y2 s = some o) : Q 1 sio tt cc d 84 61 [some (.ref 106), some (.int x1), some (.int x2), some (.int x3), some (.int x4)] [.int y2, .int y1, .ref 106] s (.inl none, o) := by
  unfold dm84_61 at h
  obtain ⟨d, rfl⟩ : ∃ e, d = e + 1 := ⟨d - 1, by omega⟩
  refine Q.run zm84 1 (i' := 62) (ls' := [some (.ref 106), some (.int x1), some (.int x2), some (.int x3), some (.int x4)]) (st' := [.int (y1 + y2), .ref 106]) rfl ?_
  obtain ⟨s1, hs2, h⟩ := nx_so h
  refine Q.pf hs2 rfl (gI_of zm84 (e := (117, 3, .putfield 61, [4, 7, 0])) rfl) (hl.lt (a := 106) (by decide)) (by decide) (hl.T (a := 106) (p := (4, 13)) 28 rfl rfl) (by decide) rfl rfl ?_
  have hl3 : Ly tt cc s1 := by rw [hs2]; exact hl.wId (by decide)
  cases h
  exact Q.ret (A.rv zm84 (show zM84.2.2.2.2.2[63]? = some (120, 1, .return_, []) from rfl) rfl) hl3
def dm84_52 (y0 : Int32) (s : aS) : Option (aS) :=
  if y0 = 0 then
    dm84_61 (sI s 106 7) 1 s
  else
    dm84_61 (sI s 106 7) 2 s
set_option maxRecDepth 100000 in
theorem dt84_52 {sio : Bool} {tt : Nat} {cc : Nat → Nat → Int32} {d : Nat} (hd : 2 ≤ d) {y0 : Int32} {x1 : Int32} {x2 : Int32} {x3 : Int32} {s : aS} (hl : Ly tt cc s) {o : aS} (h : dm84_52  y0 s = some o) : Q 1 sio tt cc d 84 52 [some (.ref 106), some (.int x1), some (.int x2), some (.int x3), none] [.int y0] s (.inl none, o) := by
  unfold dm84_52 at h
  obtain ⟨d, rfl⟩ : ∃ e, d = e + 1 := ⟨d - 1, by omega⟩
  refine Q.run zm84 3 (i' := 55) (ls' := [some (.ref 106), some (.int x1), some (.int x2), some (.int x3), some (.int y0)]) (st' := [.ref 106, .ref 106]) rfl ?_
  refine Q.map (A.gf (gI_of zm84 (e := (103, 3, .getfield 61, [4, 7])) rfl) (hl.lt (a := 106) (by decide)) (hl.T (a := 106) (p := (4, 13)) 28 rfl rfl) (by decide) rfl) ?_
  refine Q.run zm84 1 (i' := 57) (ls' := [some (.ref 106), some (.int x1), some (.int x2), some (.int x3), some (.int y0)]) (st' := [.int y0, .int (sI s 106 7), .ref 106]) rfl ?_
  by_cases hc1 : y0 = 0
  · rw [if_pos hc1] at h
    refine Q.map (A.zT (gI_of zm84 (e := (108, 3, .ifCond .eq 7, [60])) rfl) (decide_eq_true hc1)) ?_
    refine Q.run zm84 1 (i' := 61) (ls' := [some (.ref 106), some (.int x1), some (.int x2), some (.int x3), some (.int y0)]) (st' := [.int 1, .int (sI s 106 7), .ref 106]) rfl ?_
    exact dt84_61 hd hl  h
  · rw [if_neg hc1] at h
    refine Q.map (A.zF (gI_of zm84 (e := (108, 3, .ifCond .eq 7, [60])) rfl) (fun q => hc1 (of_decide_eq_true q))) ?_
    refine Q.run zm84 2 (i' := 61) (ls' := [some (.ref 106), some (.int x1), some (.int x2), some (.int x3), some (.int y0)]) (st' := [.int 2, .int (sI s 106 7), .ref 106]) rfl ?_
    exact dt84_61 hd hl  h
def dm84_49 (s : aS) : Option (aS) :=
  dm84_52 1 s
set_option maxRecDepth 100000 in
theorem dt84_49 {sio : Bool} {tt : Nat} {cc : Nat → Nat → Int32} {d : Nat} (hd : 2 ≤ d) {x1 : Int32} {x2 : Int32} {x3 : Int32} {s : aS} (hl : Ly tt cc s) {o : aS} (h : dm84_49  s = some o) : Q 1 sio tt cc d 84 49 [some (.ref 106), some (.int x1), some (.int x2), some (.int x3), none] [] s (.inl none, o) := by
  unfold dm84_49 at h
  obtain ⟨d, rfl⟩ : ∃ e, d = e + 1 := ⟨d - 1, by omega⟩
  refine Q.run zm84 2 (i' := 52) (ls' := [some (.ref 106), some (.int x1), some (.int x2), some (.int x3), none]) (st' := [.int 1]) rfl ?_
  exact dt84_52 hd hl  h
def dm84 (x1 : Int32) (s : aS) : Option (aS) :=
  if x1 = (-1) then
    nx (wI s 106 8 (sI s 106 7)) fun s2 =>
    some s2
  else
    bv (dm70 (sI s 106 7) s) fun r8 s7 =>
    if r8 = 0 then
      some s7
    else
      bu (dm85 x1) fun r12 =>
      bu (dm79 s7) fun r15 =>
      bv (dm86 r15 r12 (sI s7 106 10) s7) fun r19 s18 =>
      vN (sR s18 106 6) (
        none
      ) fun b21 =>
        if aK s18 b21 3 then
          bu (dm72 b21 r19 x1 2 s18) fun s25 =>
          bu (dm87 r12 r19 s25) fun s29 =>
          nx (wI s29 106 9 1) fun s31 =>
          if x1 = 18 then
            dm84_49 s31
          else
            if x1 = 21 then
              dm84_49 s31
            else
              if x1 = 22 then
                dm84_49 s31
              else
                dm84_52 0 s31
        else none
set_option maxRecDepth 100000 in
theorem dt84 {sio : Bool} {tt : Nat} {cc : Nat → Nat → Int32} {d : Nat} (hd : 2 ≤ d) {x1 : Int32} {s : aS} (hl : Ly tt cc s) {o : aS} (h : dm84  x1 s = some o) : Q 1 sio tt cc d 84 0 [some (.ref 106), some (.int x1), none, none, none] [] s (.inl none, o) := by
  unfold dm84 at h
  obtain ⟨d, rfl⟩ : ∃ e, d = e + 1 := ⟨d - 1, by omega⟩
  refine Q.run zm84 2 (i' := 2) (ls' := [some (.ref 106), some (.int x1), none, none, none]) (st' := [.int (-1), .int x1]) rfl ?_
  by_cases hc1 : x1 = (-1)
  · rw [if_pos hc1] at h
    refine Q.map (A.bF (gI_of zm84 (e := (2, 3, .if_icmp .ne 14, [8])) rfl) (fun q => of_decide_eq_true q hc1)) ?_
    refine Q.run zm84 2 (i' := 5) (ls' := [some (.ref 106), some (.int x1), none, none, none]) (st' := [.ref 106, .ref 106]) rfl ?_
    refine Q.map (A.gf (gI_of zm84 (e := (7, 3, .getfield 61, [4, 7])) rfl) (hl.lt (a := 106) (by decide)) (hl.T (a := 106) (p := (4, 13)) 28 rfl rfl) (by decide) rfl) ?_
    obtain ⟨s2, hs3, h⟩ := nx_so h
    refine Q.pf hs3 rfl (gI_of zm84 (e := (10, 3, .putfield 65, [4, 8, 0])) rfl) (hl.lt (a := 106) (by decide)) (by decide) (hl.T (a := 106) (p := (4, 13)) 28 rfl rfl) (by decide) rfl rfl ?_
    have hl4 : Ly tt cc s2 := by rw [hs3]; exact hl.wId (by decide)
    refine Q.run zm84 1 (i' := 63) (ls' := [some (.ref 106), some (.int x1), none, none, none]) (st' := []) rfl ?_
    cases h
    exact Q.ret (A.rv zm84 (show zM84.2.2.2.2.2[63]? = some (120, 1, .return_, []) from rfl) rfl) hl4
  · rw [if_neg hc1] at h
    refine Q.map (A.bT (gI_of zm84 (e := (2, 3, .if_icmp .ne 14, [8])) rfl) (decide_eq_true hc1)) ?_
    refine Q.run zm84 2 (i' := 10) (ls' := [some (.ref 106), some (.int x1), none, none, none]) (st' := [.ref 106, .ref 106]) rfl ?_
    refine Q.map (A.gf (gI_of zm84 (e := (18, 3, .getfield 61, [4, 7])) rfl) (hl.lt (a := 106) (by decide)) (hl.T (a := 106) (p := (4, 13)) 28 rfl rfl) (by decide) rfl) ?_
    obtain ⟨r8, s7, hc6, h⟩ := bv_so h
    have hq5 : Q 1 sio tt cc d 70 0 [some (.ref 106), some (.int (sI s 106 7)), none] [] s (.inl (some (.int r8)), s7) := dt70 (by omega) hl  hc6
    refine Q.callI (gC_vi zm84 (show zM84.2.2.2.2.2[11]? = some (21, 3, .invokevirtual 144, [0, 70, 1, 4]) from rfl) zm70 (hl.lt (a := 106) (by decide)) (hl.T (a := 106) (p := (4, 13)) 28 rfl rfl) rfl (show aCr 1 106 [.int (sI s 106 7), .ref 106] 3 = some ([some (.ref 106), some (.int (sI s 106 7)), none], []) from rfl)) hq5 ?_
    by_cases hc9 : r8 = 0
    · rw [if_pos hc9] at h
      refine Q.map (A.zT (gI_of zm84 (e := (24, 3, .ifCond .eq 96, [63])) rfl) (decide_eq_true hc9)) ?_
      cases h
      exact Q.ret (A.rv zm84 (show zM84.2.2.2.2.2[63]? = some (120, 1, .return_, []) from rfl) rfl) hq5.1
    · rw [if_neg hc9] at h
      refine Q.map (A.zF (gI_of zm84 (e := (24, 3, .ifCond .eq 96, [63])) rfl) (fun q => hc9 (of_decide_eq_true q))) ?_
      refine Q.run zm84 1 (i' := 14) (ls' := [some (.ref 106), some (.int x1), none, none, none]) (st' := [.int x1]) rfl ?_
      obtain ⟨r12, hc11, h⟩ := bu_so h
      have hq10 : Q 1 sio tt cc d 85 0 [some (.int x1)] [] s7 (.inl (some (.int r12)), s7) := dt85 (by omega) hq5.1  hc11
      refine Q.callI (gC_st zm84 (show zM84.2.2.2.2.2[14]? = some (28, 3, .invokestatic 199, [0, 85, 1]) from rfl) zm85 (show aC 1 [.int x1] 1 = some ([some (.int x1)], []) from rfl)) hq10 ?_
      refine Q.run zm84 2 (i' := 17) (ls' := [some (.ref 106), some (.int x1), some (.int r12), none, none]) (st' := [.ref 106]) rfl ?_
      refine Q.map (A.gf (gI_of zm84 (e := (33, 3, .getfield 30, [4, 4])) rfl) (hq5.1.lt (a := 106) (by decide)) (hq5.1.T (a := 106) (p := (4, 13)) 28 rfl rfl) (by decide) (hq5.1.R 12 rfl)) ?_
      refine Q.run zm84 1 (i' := 19) (ls' := [some (.ref 106), some (.int x1), some (.int r12), none, none]) (st' := [.ref 106, .ref 110]) rfl ?_
      refine Q.map (A.gf (gI_of zm84 (e := (37, 3, .getfield 37, [4, 5])) rfl) (hq5.1.lt (a := 106) (by decide)) (hq5.1.T (a := 106) (p := (4, 13)) 28 rfl rfl) (by decide) (hq5.1.R 13 rfl)) ?_
      obtain ⟨r15, hc14, h⟩ := bu_so h
      have hq13 : Q 1 sio tt cc d 79 0 [some (.ref 113)] [] s7 (.inl (some (.int r15)), s7) := dt79 (by omega) hq5.1  hc14
      refine Q.callI (gC_vi zm84 (show zM84.2.2.2.2.2[20]? = some (40, 3, .invokevirtual 171, [0, 79, 0, 7]) from rfl) zm79 (hq5.1.lt (a := 113) (by decide)) (hq5.1.T (a := 113) (p := (7, 4)) 35 rfl rfl) rfl (show aCr 0 113 [.ref 113, .ref 110] 1 = some ([some (.ref 113)], [.ref 110]) from rfl)) hq13 ?_
      refine Q.run zm84 2 (i' := 23) (ls' := [some (.ref 106), some (.int x1), some (.int r12), none, none]) (st' := [.ref 106, .int r12, .int r15, .ref 110]) rfl ?_
      refine Q.map (A.gf (gI_of zm84 (e := (45, 3, .getfield 100, [4, 10])) rfl) (hq5.1.lt (a := 106) (by decide)) (hq5.1.T (a := 106) (p := (4, 13)) 28 rfl rfl) (by decide) rfl) ?_
      obtain ⟨r19, s18, hc17, h⟩ := bv_so h
      have hq16 : Q 1 sio tt cc d 86 0 [some (.ref 110), some (.int r15), some (.int r12), some (.int (sI s7 106 10)), none] [] s7 (.inl (some (.int r19)), s18) := dt86 (by omega) hq5.1  hc17
      refine Q.callI (gC_vi zm84 (show zM84.2.2.2.2.2[24]? = some (48, 3, .invokevirtual 202, [0, 86, 3, 6]) from rfl) zm86 (hq5.1.lt (a := 110) (by decide)) (hq5.1.T (a := 110) (p := (6, 3)) 32 rfl rfl) rfl (show aCr 3 110 [.int (sI s7 106 10), .int r12, .int r15, .ref 110] 5 = some ([some (.ref 110), some (.int r15), some (.int r12), some (.int (sI s7 106 10)), none], []) from rfl)) hq16 ?_
      refine Q.run zm84 2 (i' := 27) (ls' := [some (.ref 106), some (.int x1), some (.int r12), some (.int r19), none]) (st' := [.ref 106]) rfl ?_
      rcases vN_so h with ⟨hv20, h⟩ | ⟨b21, hv20, h⟩
      · refine Q.map (A.gf (gI_of zm84 (e := (53, 3, .getfield 48, [4, 6])) rfl) (hq16.1.lt (a := 106) (by decide)) (hq16.1.T (a := 106) (p := (4, 13)) 28 rfl rfl) (by decide) hv20) ?_
        refine Q.run zm84 3 (i' := 31) (ls' := [some (.ref 106), some (.int x1), some (.int r12), some (.int r19), none]) (st' := [.int 2, .int x1, .int r19, .null]) rfl ?_
        cases h
      · obtain ⟨hr22, h⟩ := ite_so h
        refine Q.map (A.gf (gI_of zm84 (e := (53, 3, .getfield 48, [4, 6])) rfl) (hq16.1.lt (a := 106) (by decide)) (hq16.1.T (a := 106) (p := (4, 13)) 28 rfl rfl) (by decide) hv20) ?_
        refine Q.run zm84 3 (i' := 31) (ls' := [some (.ref 106), some (.int x1), some (.int r12), some (.int r19), none]) (st' := [.int 2, .int x1, .int r19, .ref b21]) rfl ?_
        obtain ⟨s25, hc24, h⟩ := bu_so h
        have hq23 : Q 1 sio tt cc d 72 0 [some (.ref b21), some (.int r19), some (.int x1), some (.int 2), none] [] s18 (.inl none, s25) := dt72 (by omega) hq16.1 hr22 hc24
        refine Q.callV (gC_vi zm84 (show zM84.2.2.2.2.2[31]? = some (59, 3, .invokevirtual 150, [0, 72, 3, 3]) from rfl) zm72 hr22.1 (hq16.1.tr hr22).1 rfl (show aCr 3 b21 [.int 2, .int x1, .int r19, .ref b21] 5 = some ([some (.ref b21), some (.int r19), some (.int x1), some (.int 2), none], []) from rfl)) hq23 ?_
        have hr26 : aK s25 b21 3 := hq23.2.1.k hr22
        refine Q.run zm84 1 (i' := 33) (ls' := [some (.ref 106), some (.int x1), some (.int r12), some (.int r19), none]) (st' := [.ref 106]) rfl ?_
        refine Q.map (A.gf (gI_of zm84 (e := (63, 3, .getfield 30, [4, 4])) rfl) (hq23.1.lt (a := 106) (by decide)) (hq23.1.T (a := 106) (p := (4, 13)) 28 rfl rfl) (by decide) (hq23.1.R 12 rfl)) ?_
        refine Q.run zm84 2 (i' := 36) (ls' := [some (.ref 106), some (.int x1), some (.int r12), some (.int r19), none]) (st' := [.int r19, .int r12, .ref 110]) rfl ?_
        obtain ⟨s29, hc28, h⟩ := bu_so h
        have hq27 : Q 1 sio tt cc d 87 0 [some (.ref 110), some (.int r12), some (.int r19)] [] s25 (.inl none, s29) := dt87 (by omega) hq23.1  hc28
        refine Q.callV (gC_vi zm84 (show zM84.2.2.2.2.2[36]? = some (68, 3, .invokevirtual 147, [0, 87, 2, 6]) from rfl) zm87 (hq23.1.lt (a := 110) (by decide)) (hq23.1.T (a := 110) (p := (6, 3)) 32 rfl rfl) rfl (show aCr 2 110 [.int r19, .int r12, .ref 110] 3 = some ([some (.ref 110), some (.int r12), some (.int r19)], []) from rfl)) hq27 ?_
        have hr30 : aK s29 b21 3 := hq27.2.1.k hr26
        refine Q.run zm84 2 (i' := 39) (ls' := [some (.ref 106), some (.int x1), some (.int r12), some (.int r19), none]) (st' := [.int 1, .ref 106]) rfl ?_
        obtain ⟨s31, hs32, h⟩ := nx_so h
        refine Q.pf hs32 rfl (gI_of zm84 (e := (73, 3, .putfield 68, [4, 9, 0])) rfl) (hq27.1.lt (a := 106) (by decide)) (by decide) (hq27.1.T (a := 106) (p := (4, 13)) 28 rfl rfl) (by decide) rfl rfl ?_
        have hl33 : Ly tt cc s31 := by rw [hs32]; exact hq27.1.wId (by decide)
        have hr34 : aK s31 b21 3 := by rw [hs32]; exact hr30
        refine Q.run zm84 2 (i' := 42) (ls' := [some (.ref 106), some (.int x1), some (.int r12), some (.int r19), none]) (st' := [.int 18, .int x1]) rfl ?_
        by_cases hc35 : x1 = 18
        · rw [if_pos hc35] at h
          refine Q.map (A.bT (gI_of zm84 (e := (79, 3, .if_icmp .eq 15, [49])) rfl) (decide_eq_true hc35)) ?_
          exact dt84_49 hd hl33  h
        · rw [if_neg hc35] at h
          refine Q.map (A.bF (gI_of zm84 (e := (79, 3, .if_icmp .eq 15, [49])) rfl) (fun q => hc35 (of_decide_eq_true q))) ?_
          refine Q.run zm84 2 (i' := 45) (ls' := [some (.ref 106), some (.int x1), some (.int r12), some (.int r19), none]) (st' := [.int 21, .int x1]) rfl ?_
          by_cases hc36 : x1 = 21
          · rw [if_pos hc36] at h
            refine Q.map (A.bT (gI_of zm84 (e := (85, 3, .if_icmp .eq 9, [49])) rfl) (decide_eq_true hc36)) ?_
            exact dt84_49 hd hl33  h
          · rw [if_neg hc36] at h
            refine Q.map (A.bF (gI_of zm84 (e := (85, 3, .if_icmp .eq 9, [49])) rfl) (fun q => hc36 (of_decide_eq_true q))) ?_
            refine Q.run zm84 2 (i' := 48) (ls' := [some (.ref 106), some (.int x1), some (.int r12), some (.int r19), none]) (st' := [.int 22, .int x1]) rfl ?_
            by_cases hc37 : x1 = 22
            · rw [if_pos hc37] at h
              refine Q.map (A.bF (gI_of zm84 (e := (91, 3, .if_icmp .ne 7, [51])) rfl) (fun q => of_decide_eq_true q hc37)) ?_
              exact dt84_49 hd hl33  h
            · rw [if_neg hc37] at h
              refine Q.map (A.bT (gI_of zm84 (e := (91, 3, .if_icmp .ne 7, [51])) rfl) (decide_eq_true hc37)) ?_
              refine Q.run zm84 1 (i' := 52) (ls' := [some (.ref 106), some (.int x1), some (.int r12), some (.int r19), none]) (st' := [.int 0]) rfl ?_
              exact dt84_52 hd hl33  h
end
section
/-! 68 FormulaTrees$Reader.readBehindOperand(I)V -/
set_option maxRecDepth 100000 in
theorem zm68 : zP[68]? = some zM68 := rfl
def dm68_52 (x1 : Int32) (s : aS) : Option (aS) :=
  bu (dm34 79 ((sI s 106 7) + 1) s) fun r3 =>
  bu (dm83 x1 r3) fun r6 =>
  bu (dm84 r6 s) fun s9 =>
  some s9
set_option maxRecDepth 100000 in
theorem dt68_52 {sio : Bool} {tt : Nat} {cc : Nat → Nat → Int32} {d : Nat} (hd : 4 ≤ d) {x1 : Int32} {s : aS} (hl : Ly tt cc s) {o : aS} (h : dm68_52  x1 s = some o) : Q 1 sio tt cc d 68 52 [some (.ref 106), some (.int x1)] [] s (.inl none, o) := by
  unfold dm68_52 at h
  obtain ⟨d, rfl⟩ : ∃ e, d = e + 1 := ⟨d - 1, by omega⟩
  refine Q.run zm68 3 (i' := 55) (ls' := [some (.ref 106), some (.int x1)]) (st' := [.ref 106, .int x1, .ref 106]) rfl ?_
  refine Q.map (A.gf (gI_of zm68 (e := (111, 3, .getfield 41, [4, 0])) rfl) (hl.lt (a := 106) (by decide)) (hl.T (a := 106) (p := (4, 13)) 28 rfl rfl) (by decide) (hl.R 8 rfl)) ?_
  refine Q.run zm68 1 (i' := 57) (ls' := [some (.ref 106), some (.int x1)]) (st' := [.ref 106, .ref 79, .int x1, .ref 106]) rfl ?_
  refine Q.map (A.gf (gI_of zm68 (e := (115, 3, .getfield 61, [4, 7])) rfl) (hl.lt (a := 106) (by decide)) (hl.T (a := 106) (p := (4, 13)) 28 rfl rfl) (by decide) rfl) ?_
  refine Q.run zm68 2 (i' := 60) (ls' := [some (.ref 106), some (.int x1)]) (st' := [.int ((sI s 106 7) + 1), .ref 79, .int x1, .ref 106]) rfl ?_
  obtain ⟨r3, hc2, h⟩ := bu_so h
  have hq1 : Q 1 sio tt cc d 34 0 [some (.ref 79), some (.int ((sI s 106 7) + 1))] [] s (.inl (some (.int r3)), s) := dt34 (by omega) hl (hl.Kd (a := 79) (c := 1) (n := 2) 1 rfl rfl (by decide)) hc2
  refine Q.callI (gC_vi zm68 (show zM68.2.2.2.2.2[60]? = some (120, 3, .invokevirtual 78, [0, 34, 1, 1]) from rfl) zm34 (hl.lt (a := 79) (by decide)) (hl.T (a := 79) (p := (1, 2)) 1 rfl rfl) rfl (show aCr 1 79 [.int ((sI s 106 7) + 1), .ref 79, .int x1, .ref 106] 2 = some ([some (.ref 79), some (.int ((sI s 106 7) + 1))], [.int x1, .ref 106]) from rfl)) hq1 ?_
  obtain ⟨r6, hc5, h⟩ := bu_so h
  have hq4 : Q 1 sio tt cc d 83 0 [some (.int x1), some (.int r3)] [] s (.inl (some (.int r6)), s) := dt83 (by omega) hl  hc5
  refine Q.callI (gC_st zm68 (show zM68.2.2.2.2.2[61]? = some (123, 3, .invokestatic 192, [0, 83, 2]) from rfl) zm83 (show aC 2 [.int r3, .int x1, .ref 106] 2 = some ([some (.int x1), some (.int r3)], [.ref 106]) from rfl)) hq4 ?_
  obtain ⟨s9, hc8, h⟩ := bu_so h
  have hq7 : Q 1 sio tt cc d 84 0 [some (.ref 106), some (.int r6), none, none, none] [] s (.inl none, s9) := dt84 (by omega) hl  hc8
  refine Q.callV (gC_vi zm68 (show zM68.2.2.2.2.2[62]? = some (126, 3, .invokevirtual 196, [0, 84, 1, 4]) from rfl) zm84 (hl.lt (a := 106) (by decide)) (hl.T (a := 106) (p := (4, 13)) 28 rfl rfl) rfl (show aCr 1 106 [.int r6, .ref 106] 5 = some ([some (.ref 106), some (.int r6), none, none, none], []) from rfl)) hq7 ?_
  cases h
  exact Q.ret (A.rv zm68 (show zM68.2.2.2.2.2[63]? = some (129, 1, .return_, []) from rfl) rfl) hq7.1
def dm68_40 (y1 : Int32) (s : aS) : Option (aS) :=
  bu (dm75 y1 s) fun s3 =>
  some s3
set_option maxRecDepth 100000 in
theorem dt68_40 {sio : Bool} {tt : Nat} {cc : Nat → Nat → Int32} {d : Nat} (hd : 4 ≤ d) {y1 : Int32} {x1 : Int32} {s : aS} (hl : Ly tt cc s) {o : aS} (h : dm68_40  y1 s = some o) : Q 1 sio tt cc d 68 40 [some (.ref 106), some (.int x1)] [.int y1, .ref 106] s (.inl none, o) := by
  unfold dm68_40 at h
  obtain ⟨d, rfl⟩ : ∃ e, d = e + 1 := ⟨d - 1, by omega⟩
  obtain ⟨s3, hc2, h⟩ := bu_so h
  have hq1 : Q 1 sio tt cc d 75 0 [some (.ref 106), some (.int y1)] [] s (.inl none, s3) := dt75 (by omega) hl  hc2
  refine Q.callV (gC_vi zm68 (show zM68.2.2.2.2.2[40]? = some (79, 3, .invokevirtual 165, [0, 75, 1, 4]) from rfl) zm75 (hl.lt (a := 106) (by decide)) (hl.T (a := 106) (p := (4, 13)) 28 rfl rfl) rfl (show aCr 1 106 [.int y1, .ref 106] 2 = some ([some (.ref 106), some (.int y1)], []) from rfl)) hq1 ?_
  refine Q.run zm68 1 (i' := 63) (ls' := [some (.ref 106), some (.int x1)]) (st' := []) rfl ?_
  cases h
  exact Q.ret (A.rv zm68 (show zM68.2.2.2.2.2[63]? = some (129, 1, .return_, []) from rfl) rfl) hq1.1
def dm68_42 (x1 : Int32) (s : aS) : Option (aS) :=
  if x1 = 41 then
    bu (dm82 s) fun r4 =>
    if r4 ≤ 0 then
      dm68_52 x1 s
    else
      bu (dm77 s) fun s8 =>
      some s8
  else
    dm68_52 x1 s
set_option maxRecDepth 100000 in
theorem dt68_42 {sio : Bool} {tt : Nat} {cc : Nat → Nat → Int32} {d : Nat} (hd : 4 ≤ d) {x1 : Int32} {s : aS} (hl : Ly tt cc s) {o : aS} (h : dm68_42  x1 s = some o) : Q 1 sio tt cc d 68 42 [some (.ref 106), some (.int x1)] [] s (.inl none, o) := by
  unfold dm68_42 at h
  obtain ⟨d, rfl⟩ : ∃ e, d = e + 1 := ⟨d - 1, by omega⟩
  refine Q.run zm68 2 (i' := 44) (ls' := [some (.ref 106), some (.int x1)]) (st' := [.int 41, .int x1]) rfl ?_
  by_cases hc1 : x1 = 41
  · rw [if_pos hc1] at h
    refine Q.map (A.bF (gI_of zm68 (e := (88, 3, .if_icmp .ne 20, [52])) rfl) (fun q => of_decide_eq_true q hc1)) ?_
    refine Q.run zm68 1 (i' := 46) (ls' := [some (.ref 106), some (.int x1)]) (st' := [.ref 106]) rfl ?_
    refine Q.map (A.gf (gI_of zm68 (e := (92, 3, .getfield 37, [4, 5])) rfl) (hl.lt (a := 106) (by decide)) (hl.T (a := 106) (p := (4, 13)) 28 rfl rfl) (by decide) (hl.R 13 rfl)) ?_
    obtain ⟨r4, hc3, h⟩ := bu_so h
    have hq2 : Q 1 sio tt cc d 82 0 [some (.ref 113)] [] s (.inl (some (.int r4)), s) := dt82 (by omega) hl  hc3
    refine Q.callI (gC_vi zm68 (show zM68.2.2.2.2.2[47]? = some (95, 3, .invokevirtual 93, [0, 82, 0, 7]) from rfl) zm82 (hl.lt (a := 113) (by decide)) (hl.T (a := 113) (p := (7, 4)) 35 rfl rfl) rfl (show aCr 0 113 [.ref 113] 1 = some ([some (.ref 113)], []) from rfl)) hq2 ?_
    by_cases hc5 : r4 ≤ 0
    · rw [if_pos hc5] at h
      refine Q.map (A.zT (gI_of zm68 (e := (98, 3, .ifCond .le 10, [52])) rfl) (decide_eq_true hc5)) ?_
      exact dt68_52 hd hl  h
    · rw [if_neg hc5] at h
      refine Q.map (A.zF (gI_of zm68 (e := (98, 3, .ifCond .le 10, [52])) rfl) (fun q => hc5 (of_decide_eq_true q))) ?_
      refine Q.run zm68 1 (i' := 50) (ls' := [some (.ref 106), some (.int x1)]) (st' := [.ref 106]) rfl ?_
      obtain ⟨s8, hc7, h⟩ := bu_so h
      have hq6 : Q 1 sio tt cc d 77 0 [some (.ref 106), none] [] s (.inl none, s8) := dt77 (by omega) hl  hc7
      refine Q.callV (gC_vi zm68 (show zM68.2.2.2.2.2[50]? = some (102, 3, .invokevirtual 162, [0, 77, 0, 4]) from rfl) zm77 (hl.lt (a := 106) (by decide)) (hl.T (a := 106) (p := (4, 13)) 28 rfl rfl) rfl (show aCr 0 106 [.ref 106] 2 = some ([some (.ref 106), none], []) from rfl)) hq6 ?_
      refine Q.run zm68 1 (i' := 63) (ls' := [some (.ref 106), some (.int x1)]) (st' := []) rfl ?_
      cases h
      exact Q.ret (A.rv zm68 (show zM68.2.2.2.2.2[63]? = some (129, 1, .return_, []) from rfl) rfl) hq6.1
  · rw [if_neg hc1] at h
    refine Q.map (A.bT (gI_of zm68 (e := (88, 3, .if_icmp .ne 20, [52])) rfl) (decide_eq_true hc1)) ?_
    exact dt68_52 hd hl  h
def dm68_29 (x1 : Int32) (s : aS) : Option (aS) :=
  bu (dm73 s) fun r3 =>
  if r3 = 0 then
    dm68_42 x1 s
  else
    if x1 = 41 then
      dm68_40 1 s
    else
      dm68_40 0 s
set_option maxRecDepth 100000 in
theorem dt68_29 {sio : Bool} {tt : Nat} {cc : Nat → Nat → Int32} {d : Nat} (hd : 4 ≤ d) {x1 : Int32} {s : aS} (hl : Ly tt cc s) {o : aS} (h : dm68_29  x1 s = some o) : Q 1 sio tt cc d 68 29 [some (.ref 106), some (.int x1)] [] s (.inl none, o) := by
  unfold dm68_29 at h
  obtain ⟨d, rfl⟩ : ∃ e, d = e + 1 := ⟨d - 1, by omega⟩
  refine Q.run zm68 1 (i' := 30) (ls' := [some (.ref 106), some (.int x1)]) (st' := [.ref 106]) rfl ?_
  refine Q.map (A.gf (gI_of zm68 (e := (58, 3, .getfield 37, [4, 5])) rfl) (hl.lt (a := 106) (by decide)) (hl.T (a := 106) (p := (4, 13)) 28 rfl rfl) (by decide) (hl.R 13 rfl)) ?_
  obtain ⟨r3, hc2, h⟩ := bu_so h
  have hq1 : Q 1 sio tt cc d 73 0 [some (.ref 113)] [] s (.inl (some (.int r3)), s) := dt73 (by omega) hl  hc2
  refine Q.callI (gC_vi zm68 (show zM68.2.2.2.2.2[31]? = some (61, 3, .invokevirtual 177, [0, 73, 0, 7]) from rfl) zm73 (hl.lt (a := 113) (by decide)) (hl.T (a := 113) (p := (7, 4)) 35 rfl rfl) rfl (show aCr 0 113 [.ref 113] 1 = some ([some (.ref 113)], []) from rfl)) hq1 ?_
  by_cases hc4 : r3 = 0
  · rw [if_pos hc4] at h
    refine Q.map (A.zT (gI_of zm68 (e := (64, 3, .ifCond .eq 21, [42])) rfl) (decide_eq_true hc4)) ?_
    exact dt68_42 hd hl  h
  · rw [if_neg hc4] at h
    refine Q.map (A.zF (gI_of zm68 (e := (64, 3, .ifCond .eq 21, [42])) rfl) (fun q => hc4 (of_decide_eq_true q))) ?_
    refine Q.run zm68 3 (i' := 36) (ls' := [some (.ref 106), some (.int x1)]) (st' := [.int 41, .int x1, .ref 106]) rfl ?_
    by_cases hc5 : x1 = 41
    · rw [if_pos hc5] at h
      refine Q.map (A.bF (gI_of zm68 (e := (71, 3, .if_icmp .ne 7, [39])) rfl) (fun q => of_decide_eq_true q hc5)) ?_
      refine Q.run zm68 2 (i' := 40) (ls' := [some (.ref 106), some (.int x1)]) (st' := [.int 1, .ref 106]) rfl ?_
      exact dt68_40 hd hl  h
    · rw [if_neg hc5] at h
      refine Q.map (A.bT (gI_of zm68 (e := (71, 3, .if_icmp .ne 7, [39])) rfl) (decide_eq_true hc5)) ?_
      refine Q.run zm68 1 (i' := 40) (ls' := [some (.ref 106), some (.int x1)]) (st' := [.int 0, .ref 106]) rfl ?_
      exact dt68_40 hd hl  h
def dm68_17 (x1 : Int32) (s : aS) : Option (aS) :=
  if x1 = 37 then
    bu (dm69 s) fun s4 =>
    some s4
  else
    if x1 = 44 then
      dm68_29 x1 s
    else
      if x1 = 41 then
        dm68_29 x1 s
      else
        dm68_42 x1 s
set_option maxRecDepth 100000 in
theorem dt68_17 {sio : Bool} {tt : Nat} {cc : Nat → Nat → Int32} {d : Nat} (hd : 4 ≤ d) {x1 : Int32} {s : aS} (hl : Ly tt cc s) {o : aS} (h : dm68_17  x1 s = some o) : Q 1 sio tt cc d 68 17 [some (.ref 106), some (.int x1)] [] s (.inl none, o) := by
  unfold dm68_17 at h
  obtain ⟨d, rfl⟩ : ∃ e, d = e + 1 := ⟨d - 1, by omega⟩
  refine Q.run zm68 2 (i' := 19) (ls' := [some (.ref 106), some (.int x1)]) (st' := [.int 37, .int x1]) rfl ?_
  by_cases hc1 : x1 = 37
  · rw [if_pos hc1] at h
    refine Q.map (A.bF (gI_of zm68 (e := (35, 3, .if_icmp .ne 10, [23])) rfl) (fun q => of_decide_eq_true q hc1)) ?_
    refine Q.run zm68 1 (i' := 21) (ls' := [some (.ref 106), some (.int x1)]) (st' := [.ref 106]) rfl ?_
    obtain ⟨s4, hc3, h⟩ := bu_so h
    have hq2 : Q 1 sio tt cc d 69 0 [some (.ref 106)] [] s (.inl none, s4) := dt69 (by omega) hl  hc3
    refine Q.callV (gC_vi zm68 (show zM68.2.2.2.2.2[21]? = some (39, 3, .invokevirtual 189, [0, 69, 0, 4]) from rfl) zm69 (hl.lt (a := 106) (by decide)) (hl.T (a := 106) (p := (4, 13)) 28 rfl rfl) rfl (show aCr 0 106 [.ref 106] 1 = some ([some (.ref 106)], []) from rfl)) hq2 ?_
    refine Q.run zm68 1 (i' := 63) (ls' := [some (.ref 106), some (.int x1)]) (st' := []) rfl ?_
    cases h
    exact Q.ret (A.rv zm68 (show zM68.2.2.2.2.2[63]? = some (129, 1, .return_, []) from rfl) rfl) hq2.1
  · rw [if_neg hc1] at h
    refine Q.map (A.bT (gI_of zm68 (e := (35, 3, .if_icmp .ne 10, [23])) rfl) (decide_eq_true hc1)) ?_
    refine Q.run zm68 2 (i' := 25) (ls' := [some (.ref 106), some (.int x1)]) (st' := [.int 44, .int x1]) rfl ?_
    by_cases hc5 : x1 = 44
    · rw [if_pos hc5] at h
      refine Q.map (A.bT (gI_of zm68 (e := (48, 3, .if_icmp .eq 9, [29])) rfl) (decide_eq_true hc5)) ?_
      exact dt68_29 hd hl  h
    · rw [if_neg hc5] at h
      refine Q.map (A.bF (gI_of zm68 (e := (48, 3, .if_icmp .eq 9, [29])) rfl) (fun q => hc5 (of_decide_eq_true q))) ?_
      refine Q.run zm68 2 (i' := 28) (ls' := [some (.ref 106), some (.int x1)]) (st' := [.int 41, .int x1]) rfl ?_
      by_cases hc6 : x1 = 41
      · rw [if_pos hc6] at h
        refine Q.map (A.bF (gI_of zm68 (e := (54, 3, .if_icmp .ne 31, [42])) rfl) (fun q => of_decide_eq_true q hc6)) ?_
        exact dt68_29 hd hl  h
      · rw [if_neg hc6] at h
        refine Q.map (A.bT (gI_of zm68 (e := (54, 3, .if_icmp .ne 31, [42])) rfl) (decide_eq_true hc6)) ?_
        exact dt68_42 hd hl  h
def dm68 (x1 : Int32) (s : aS) : Option (aS) :=
  if x1 = 58 then
    if (sI s 106 9) = 5 then
      nx (wI s 106 9 3) fun s3 =>
      nx (wI s3 106 7 ((sI s3 106 7) + 1)) fun s6 =>
      some s6
    else
      dm68_17 x1 s
  else
    dm68_17 x1 s
set_option maxRecDepth 100000 in
theorem dt68 {sio : Bool} {tt : Nat} {cc : Nat → Nat → Int32} {d : Nat} (hd : 4 ≤ d) {x1 : Int32} {s : aS} (hl : Ly tt cc s) {o : aS} (h : dm68  x1 s = some o) : Q 1 sio tt cc d 68 0 [some (.ref 106), some (.int x1)] [] s (.inl none, o) := by
  unfold dm68 at h
  obtain ⟨d, rfl⟩ : ∃ e, d = e + 1 := ⟨d - 1, by omega⟩
  refine Q.run zm68 2 (i' := 2) (ls' := [some (.ref 106), some (.int x1)]) (st' := [.int 58, .int x1]) rfl ?_
  by_cases hc1 : x1 = 58
  · rw [if_pos hc1] at h
    refine Q.map (A.bF (gI_of zm68 (e := (3, 3, .if_icmp .ne 29, [17])) rfl) (fun q => of_decide_eq_true q hc1)) ?_
    refine Q.run zm68 1 (i' := 4) (ls' := [some (.ref 106), some (.int x1)]) (st' := [.ref 106]) rfl ?_
    refine Q.map (A.gf (gI_of zm68 (e := (7, 3, .getfield 68, [4, 9])) rfl) (hl.lt (a := 106) (by decide)) (hl.T (a := 106) (p := (4, 13)) 28 rfl rfl) (by decide) rfl) ?_
    refine Q.run zm68 1 (i' := 6) (ls' := [some (.ref 106), some (.int x1)]) (st' := [.int 5, .int (sI s 106 9)]) rfl ?_
    by_cases hc2 : (sI s 106 9) = 5
    · rw [if_pos hc2] at h
      refine Q.map (A.bF (gI_of zm68 (e := (11, 3, .if_icmp .ne 21, [17])) rfl) (fun q => of_decide_eq_true q hc2)) ?_
      refine Q.run zm68 2 (i' := 9) (ls' := [some (.ref 106), some (.int x1)]) (st' := [.int 3, .ref 106]) rfl ?_
      obtain ⟨s3, hs4, h⟩ := nx_so h
      refine Q.pf hs4 rfl (gI_of zm68 (e := (16, 3, .putfield 68, [4, 9, 0])) rfl) (hl.lt (a := 106) (by decide)) (by decide) (hl.T (a := 106) (p := (4, 13)) 28 rfl rfl) (by decide) rfl rfl ?_
      have hl5 : Ly tt cc s3 := by rw [hs4]; exact hl.wId (by decide)
      refine Q.run zm68 2 (i' := 12) (ls' := [some (.ref 106), some (.int x1)]) (st' := [.ref 106, .ref 106]) rfl ?_
      refine Q.map (A.gf (gI_of zm68 (e := (21, 3, .getfield 61, [4, 7])) rfl) (hl5.lt (a := 106) (by decide)) (hl5.T (a := 106) (p := (4, 13)) 28 rfl rfl) (by decide) rfl) ?_
      refine Q.run zm68 2 (i' := 15) (ls' := [some (.ref 106), some (.int x1)]) (st' := [.int ((sI s3 106 7) + 1), .ref 106]) rfl ?_
      obtain ⟨s6, hs7, h⟩ := nx_so h
      refine Q.pf hs7 rfl (gI_of zm68 (e := (26, 3, .putfield 61, [4, 7, 0])) rfl) (hl5.lt (a := 106) (by decide)) (by decide) (hl5.T (a := 106) (p := (4, 13)) 28 rfl rfl) (by decide) rfl rfl ?_
      have hl8 : Ly tt cc s6 := by rw [hs7]; exact hl5.wId (by decide)
      refine Q.run zm68 1 (i' := 63) (ls' := [some (.ref 106), some (.int x1)]) (st' := []) rfl ?_
      cases h
      exact Q.ret (A.rv zm68 (show zM68.2.2.2.2.2[63]? = some (129, 1, .return_, []) from rfl) rfl) hl8
    · rw [if_neg hc2] at h
      refine Q.map (A.bT (gI_of zm68 (e := (11, 3, .if_icmp .ne 21, [17])) rfl) (decide_eq_true hc2)) ?_
      exact dt68_17 hd hl  h
  · rw [if_neg hc1] at h
    refine Q.map (A.bT (gI_of zm68 (e := (3, 3, .if_icmp .ne 29, [17])) rfl) (decide_eq_true hc1)) ?_
    exact dt68_17 hd hl  h
/-! 90 FormulaTrees$CellReader.readColumn(LFormulaTrees$Letters;)Z -/
set_option maxRecDepth 100000 in
theorem zm90 : zP[90]? = some zM90 := rfl
def dm90_42 (x2 : Int32) (s : aS) : Option (Int32 × aS) :=
  if x2 ≤ 0 then
    some (0, s)
  else
    some (1, s)
set_option maxRecDepth 100000 in
theorem dt90_42 {sio : Bool} {tt : Nat} {cc : Nat → Nat → Int32} {d : Nat} (hd : 1 ≤ d) {x2 : Int32} {b1 : Nat} {g3 : Option Value} {s : aS} (hl : Ly tt cc s) {o : Int32 × aS} (h : dm90_42  x2 s = some o) : Q 1 sio tt cc d 90 42 [some (.ref 109), some (.ref b1), some (.int x2), g3] [] s (.inl (some (.int o.1)), o.2) := by
  unfold dm90_42 at h
  obtain ⟨d, rfl⟩ : ∃ e, d = e + 1 := ⟨d - 1, by omega⟩
  refine Q.run zm90 1 (i' := 43) (ls' := [some (.ref 109), some (.ref b1), some (.int x2), g3]) (st' := [.int x2]) rfl ?_
  by_cases hc1 : x2 ≤ 0
  · rw [if_pos hc1] at h
    refine Q.map (A.zT (gI_of zm90 (e := (77, 3, .ifCond .le 7, [46])) rfl) (decide_eq_true hc1)) ?_
    refine Q.run zm90 1 (i' := 47) (ls' := [some (.ref 109), some (.ref b1), some (.int x2), g3]) (st' := [.int 0]) rfl ?_
    cases h
    exact Q.ret (A.ri zm90 (show zM90.2.2.2.2.2[47]? = some (85, 1, .ireturn, []) from rfl) rfl rfl) hl
  · rw [if_neg hc1] at h
    refine Q.map (A.zF (gI_of zm90 (e := (77, 3, .ifCond .le 7, [46])) rfl) (fun q => hc1 (of_decide_eq_true q))) ?_
    refine Q.run zm90 2 (i' := 47) (ls' := [some (.ref 109), some (.ref b1), some (.int x2), g3]) (st' := [.int 1]) rfl ?_
    cases h
    exact Q.ret (A.ri zm90 (show zM90.2.2.2.2.2[47]? = some (85, 1, .ireturn, []) from rfl) rfl rfl) hl
def dm90_2 : Nat → Nat → Int32 → aS → Option (Int32 × aS)
  | 0, _, _, _ => none
  | n + 1, b1, x2, s =>
    if 3 ≤ x2 then
      dm90_42 x2 s
    else
      bu (dm34 b1 (sI s 109 0) s) fun r4 =>
      bu (dm45 r4) fun r7 =>
      if r7 = 0 then
        dm90_42 x2 s
      else
        bu (dm34 b1 (sI s 109 0) s) fun r11 =>
        bu (dm35 r11) fun r14 =>
        if (((((sI s 109 2) * 26) + r14) - 65) + 1) ≤ 16384 then
          nx (wI s 109 2 (((((sI s 109 2) * 26) + r14) - 65) + 1)) fun s16 =>
          nx (wI s16 109 0 ((sI s16 109 0) + 1)) fun s20 =>
          dm90_2 n b1 (x2 + 1) s20
        else
          some (0, s)
set_option maxRecDepth 100000 in
theorem dt90_2 {sio : Bool} {tt : Nat} {cc : Nat → Nat → Int32} {d : Nat} (hd : 1 ≤ d) : ∀ (n : Nat) {b1 : Nat} {x2 : Int32} {g3 : Option Value} {s : aS} (_ : Ly tt cc s) (_ : aK s b1 1) {o : Int32 × aS} (_ : dm90_2  n b1 x2 s = some o), Q 1 sio tt cc d 90 2 [some (.ref 109), some (.ref b1), some (.int x2), g3] [] s (.inl (some (.int o.1)), o.2) := by
  obtain ⟨d, rfl⟩ : ∃ e, d = e + 1 := ⟨d - 1, by omega⟩
  intro n
  induction n with
  | zero => intro b1 x2 g3 s hl hk_b1 o h; rw [dm90_2] at h; cases h
  | succ n ih =>
    intro b1 x2 g3 s hl hk_b1 o h
    rw [dm90_2] at h
    refine Q.run zm90 2 (i' := 4) (ls' := [some (.ref 109), some (.ref b1), some (.int x2), g3]) (st' := [.int 3, .int x2]) rfl ?_
    by_cases hc1 : 3 ≤ x2
    · rw [if_pos hc1] at h
      refine Q.map (A.bT (gI_of zm90 (e := (4, 3, .if_icmp .ge 72, [42])) rfl) (decide_eq_true hc1)) ?_
      exact dt90_42 hd hl  h
    · rw [if_neg hc1] at h
      refine Q.map (A.bF (gI_of zm90 (e := (4, 3, .if_icmp .ge 72, [42])) rfl) (fun q => hc1 (of_decide_eq_true q))) ?_
      refine Q.run zm90 2 (i' := 7) (ls' := [some (.ref 109), some (.ref b1), some (.int x2), g3]) (st' := [.ref 109, .ref b1]) rfl ?_
      refine Q.map (A.gf (gI_of zm90 (e := (9, 3, .getfield 9, [5, 0])) rfl) (hl.lt (a := 109) (by decide)) (hl.T (a := 109) (p := (5, 4)) 31 rfl rfl) (by decide) rfl) ?_
      obtain ⟨r4, hc3, h⟩ := bu_so h
      have hq2 : Q 1 sio tt cc d 34 0 [some (.ref b1), some (.int (sI s 109 0))] [] s (.inl (some (.int r4)), s) := dt34 (by omega) hl hk_b1 hc3
      refine Q.callI (gC_vi zm90 (show zM90.2.2.2.2.2[8]? = some (12, 3, .invokevirtual 24, [0, 34, 1, 1]) from rfl) zm34 hk_b1.1 (hl.le hk_b1).1 rfl (show aCr 1 b1 [.int (sI s 109 0), .ref b1] 2 = some ([some (.ref b1), some (.int (sI s 109 0))], []) from rfl)) hq2 ?_
      obtain ⟨r7, hc6, h⟩ := bu_so h
      have hq5 : Q 1 sio tt cc d 45 0 [some (.int r4)] [] s (.inl (some (.int r7)), s) := dt45 (by omega) hl  hc6
      refine Q.callI (gC_st zm90 (show zM90.2.2.2.2.2[9]? = some (15, 3, .invokestatic 41, [0, 45, 1]) from rfl) zm45 (show aC 1 [.int r4] 1 = some ([some (.int r4)], []) from rfl)) hq5 ?_
      by_cases hc8 : r7 = 0
      · rw [if_pos hc8] at h
        refine Q.map (A.zT (gI_of zm90 (e := (18, 3, .ifCond .eq 58, [42])) rfl) (decide_eq_true hc8)) ?_
        exact dt90_42 hd hl  h
      · rw [if_neg hc8] at h
        refine Q.map (A.zF (gI_of zm90 (e := (18, 3, .ifCond .eq 58, [42])) rfl) (fun q => hc8 (of_decide_eq_true q))) ?_
        refine Q.run zm90 1 (i' := 12) (ls' := [some (.ref 109), some (.ref b1), some (.int x2), g3]) (st' := [.ref 109]) rfl ?_
        refine Q.map (A.gf (gI_of zm90 (e := (22, 3, .getfield 18, [5, 2])) rfl) (hl.lt (a := 109) (by decide)) (hl.T (a := 109) (p := (5, 4)) 31 rfl rfl) (by decide) rfl) ?_
        refine Q.run zm90 4 (i' := 17) (ls' := [some (.ref 109), some (.ref b1), some (.int x2), g3]) (st' := [.ref 109, .ref b1, .int ((sI s 109 2) * 26)]) rfl ?_
        refine Q.map (A.gf (gI_of zm90 (e := (30, 3, .getfield 9, [5, 0])) rfl) (hl.lt (a := 109) (by decide)) (hl.T (a := 109) (p := (5, 4)) 31 rfl rfl) (by decide) rfl) ?_
        obtain ⟨r11, hc10, h⟩ := bu_so h
        have hq9 : Q 1 sio tt cc d 34 0 [some (.ref b1), some (.int (sI s 109 0))] [] s (.inl (some (.int r11)), s) := dt34 (by omega) hl hk_b1 hc10
        refine Q.callI (gC_vi zm90 (show zM90.2.2.2.2.2[18]? = some (33, 3, .invokevirtual 24, [0, 34, 1, 1]) from rfl) zm34 hk_b1.1 (hl.le hk_b1).1 rfl (show aCr 1 b1 [.int (sI s 109 0), .ref b1, .int ((sI s 109 2) * 26)] 2 = some ([some (.ref b1), some (.int (sI s 109 0))], [.int ((sI s 109 2) * 26)]) from rfl)) hq9 ?_
        obtain ⟨r14, hc13, h⟩ := bu_so h
        have hq12 : Q 1 sio tt cc d 35 0 [some (.int r11)] [] s (.inl (some (.int r14)), s) := dt35 (by omega) hl  hc13
        refine Q.callI (gC_st zm90 (show zM90.2.2.2.2.2[19]? = some (36, 3, .invokestatic 46, [0, 35, 1]) from rfl) zm35 (show aC 1 [.int r11, .int ((sI s 109 2) * 26)] 1 = some ([some (.int r11)], [.int ((sI s 109 2) * 26)]) from rfl)) hq12 ?_
        refine Q.run zm90 8 (i' := 28) (ls' := [some (.ref 109), some (.ref b1), some (.int x2), some (.int (((((sI s 109 2) * 26) + r14) - 65) + 1))]) (st' := [.int 16384, .int (((((sI s 109 2) * 26) + r14) - 65) + 1)]) rfl ?_
        by_cases hc15 : (((((sI s 109 2) * 26) + r14) - 65) + 1) ≤ 16384
        · rw [if_pos hc15] at h
          refine Q.map (A.bT (gI_of zm90 (e := (50, 3, .if_icmp .le 5, [31])) rfl) (decide_eq_true hc15)) ?_
          refine Q.run zm90 2 (i' := 33) (ls' := [some (.ref 109), some (.ref b1), some (.int x2), some (.int (((((sI s 109 2) * 26) + r14) - 65) + 1))]) (st' := [.int (((((sI s 109 2) * 26) + r14) - 65) + 1), .ref 109]) rfl ?_
          obtain ⟨s16, hs17, h⟩ := nx_so h
          refine Q.pf hs17 rfl (gI_of zm90 (e := (57, 3, .putfield 18, [5, 2, 0])) rfl) (hl.lt (a := 109) (by decide)) (by decide) (hl.T (a := 109) (p := (5, 4)) 31 rfl rfl) (by decide) rfl rfl ?_
          have hl18 : Ly tt cc s16 := by rw [hs17]; exact hl.wId (by decide)
          have hr19 : aK s16 b1 1 := by rw [hs17]; exact hk_b1
          refine Q.run zm90 3 (i' := 37) (ls' := [some (.ref 109), some (.ref b1), some (.int (x2 + 1)), some (.int (((((sI s 109 2) * 26) + r14) - 65) + 1))]) (st' := [.ref 109, .ref 109]) rfl ?_
          refine Q.map (A.gf (gI_of zm90 (e := (65, 3, .getfield 9, [5, 0])) rfl) (hl18.lt (a := 109) (by decide)) (hl18.T (a := 109) (p := (5, 4)) 31 rfl rfl) (by decide) rfl) ?_
          refine Q.run zm90 2 (i' := 40) (ls' := [some (.ref 109), some (.ref b1), some (.int (x2 + 1)), some (.int (((((sI s 109 2) * 26) + r14) - 65) + 1))]) (st' := [.int ((sI s16 109 0) + 1), .ref 109]) rfl ?_
          obtain ⟨s20, hs21, h⟩ := nx_so h
          refine Q.pf hs21 rfl (gI_of zm90 (e := (70, 3, .putfield 9, [5, 0, 0])) rfl) (hl18.lt (a := 109) (by decide)) (by decide) (hl18.T (a := 109) (p := (5, 4)) 31 rfl rfl) (by decide) rfl rfl ?_
          have hl22 : Ly tt cc s20 := by rw [hs21]; exact hl18.wId (by decide)
          have hr23 : aK s20 b1 1 := by rw [hs21]; exact hr19
          refine Q.run zm90 1 (i' := 2) (ls' := [some (.ref 109), some (.ref b1), some (.int (x2 + 1)), some (.int (((((sI s 109 2) * 26) + r14) - 65) + 1))]) (st' := []) rfl ?_
          exact ih hl22 hr23 h
        · rw [if_neg hc15] at h
          refine Q.map (A.bF (gI_of zm90 (e := (50, 3, .if_icmp .le 5, [31])) rfl) (fun q => hc15 (of_decide_eq_true q))) ?_
          refine Q.run zm90 1 (i' := 30) (ls' := [some (.ref 109), some (.ref b1), some (.int x2), some (.int (((((sI s 109 2) * 26) + r14) - 65) + 1))]) (st' := [.int 0]) rfl ?_
          cases h
          exact Q.ret (A.ri zm90 (show zM90.2.2.2.2.2[30]? = some (54, 1, .ireturn, []) from rfl) rfl rfl) hl
def dm90 (b1 : Nat) (s : aS) : Option (Int32 × aS) :=
  dm90_2 5000 b1 0 s
set_option maxRecDepth 100000 in
theorem dt90 {sio : Bool} {tt : Nat} {cc : Nat → Nat → Int32} {d : Nat} (hd : 1 ≤ d) {b1 : Nat} {s : aS} (hl : Ly tt cc s) (hk_b1 : aK s b1 1) {o : Int32 × aS} (h : dm90  b1 s = some o) : Q 1 sio tt cc d 90 0 [some (.ref 109), some (.ref b1), none, none] [] s (.inl (some (.int o.1)), o.2) := by
  unfold dm90 at h
  obtain ⟨d, rfl⟩ : ∃ e, d = e + 1 := ⟨d - 1, by omega⟩
  refine Q.run zm90 2 (i' := 2) (ls' := [some (.ref 109), some (.ref b1), some (.int 0), none]) (st' := []) rfl ?_
  exact dt90_2 hd _ hl hk_b1 h
/-! 91 FormulaTrees$CellReader.readRow(LFormulaTrees$Letters;)Z -/
set_option maxRecDepth 100000 in
theorem zm91 : zP[91]? = some zM91 := rfl
def dm91_42 (x2 : Int32) (s : aS) : Option (Int32 × aS) :=
  if x2 ≤ 0 then
    some (0, s)
  else
    some (1, s)
set_option maxRecDepth 100000 in
theorem dt91_42 {sio : Bool} {tt : Nat} {cc : Nat → Nat → Int32} {d : Nat} (hd : 1 ≤ d) {x2 : Int32} {b1 : Nat} {g3 : Option Value} {s : aS} (hl : Ly tt cc s) {o : Int32 × aS} (h : dm91_42  x2 s = some o) : Q 1 sio tt cc d 91 42 [some (.ref 109), some (.ref b1), some (.int x2), g3] [] s (.inl (some (.int o.1)), o.2) := by
  unfold dm91_42 at h
  obtain ⟨d, rfl⟩ : ∃ e, d = e + 1 := ⟨d - 1, by omega⟩
  refine Q.run zm91 1 (i' := 43) (ls' := [some (.ref 109), some (.ref b1), some (.int x2), g3]) (st' := [.int x2]) rfl ?_
  by_cases hc1 : x2 ≤ 0
  · rw [if_pos hc1] at h
    refine Q.map (A.zT (gI_of zm91 (e := (77, 3, .ifCond .le 7, [46])) rfl) (decide_eq_true hc1)) ?_
    refine Q.run zm91 1 (i' := 47) (ls' := [some (.ref 109), some (.ref b1), some (.int x2), g3]) (st' := [.int 0]) rfl ?_
    cases h
    exact Q.ret (A.ri zm91 (show zM91.2.2.2.2.2[47]? = some (85, 1, .ireturn, []) from rfl) rfl rfl) hl
  · rw [if_neg hc1] at h
    refine Q.map (A.zF (gI_of zm91 (e := (77, 3, .ifCond .le 7, [46])) rfl) (fun q => hc1 (of_decide_eq_true q))) ?_
    refine Q.run zm91 2 (i' := 47) (ls' := [some (.ref 109), some (.ref b1), some (.int x2), g3]) (st' := [.int 1]) rfl ?_
    cases h
    exact Q.ret (A.ri zm91 (show zM91.2.2.2.2.2[47]? = some (85, 1, .ireturn, []) from rfl) rfl rfl) hl
def dm91_2 : Nat → Nat → Int32 → aS → Option (Int32 × aS)
  | 0, _, _, _ => none
  | n + 1, b1, x2, s =>
    if 7 ≤ x2 then
      dm91_42 x2 s
    else
      bu (dm34 b1 (sI s 109 0) s) fun r4 =>
      bu (dm47 r4) fun r7 =>
      if r7 = 0 then
        dm91_42 x2 s
      else
        bu (dm34 b1 (sI s 109 0) s) fun r11 =>
        if ((((sI s 109 1) * 10) + r11) - 48) < 1 then
          some (0, s)
        else
          if ((((sI s 109 1) * 10) + r11) - 48) ≤ 1048576 then
            nx (wI s 109 1 ((((sI s 109 1) * 10) + r11) - 48)) fun s14 =>
            nx (wI s14 109 0 ((sI s14 109 0) + 1)) fun s18 =>
            dm91_2 n b1 (x2 + 1) s18
          else
            some (0, s)
set_option maxRecDepth 100000 in
theorem dt91_2 {sio : Bool} {tt : Nat} {cc : Nat → Nat → Int32} {d : Nat} (hd : 1 ≤ d) : ∀ (n : Nat) {b1 : Nat} {x2 : Int32} {g3 : Option Value} {s : aS} (_ : Ly tt cc s) (_ : aK s b1 1) {o : Int32 × aS} (_ : dm91_2  n b1 x2 s = some o), Q 1 sio tt cc d 91 2 [some (.ref 109), some (.ref b1), some (.int x2), g3] [] s (.inl (some (.int o.1)), o.2) := by
  obtain ⟨d, rfl⟩ : ∃ e, d = e + 1 := ⟨d - 1, by omega⟩
  intro n
  induction n with
  | zero => intro b1 x2 g3 s hl hk_b1 o h; rw [dm91_2] at h; cases h
  | succ n ih =>
    intro b1 x2 g3 s hl hk_b1 o h
    rw [dm91_2] at h
    refine Q.run zm91 2 (i' := 4) (ls' := [some (.ref 109), some (.ref b1), some (.int x2), g3]) (st' := [.int 7, .int x2]) rfl ?_
    by_cases hc1 : 7 ≤ x2
    · rw [if_pos hc1] at h
      refine Q.map (A.bT (gI_of zm91 (e := (5, 3, .if_icmp .ge 71, [42])) rfl) (decide_eq_true hc1)) ?_
      exact dt91_42 hd hl  h
    · rw [if_neg hc1] at h
      refine Q.map (A.bF (gI_of zm91 (e := (5, 3, .if_icmp .ge 71, [42])) rfl) (fun q => hc1 (of_decide_eq_true q))) ?_
      refine Q.run zm91 2 (i' := 7) (ls' := [some (.ref 109), some (.ref b1), some (.int x2), g3]) (st' := [.ref 109, .ref b1]) rfl ?_
      refine Q.map (A.gf (gI_of zm91 (e := (10, 3, .getfield 9, [5, 0])) rfl) (hl.lt (a := 109) (by decide)) (hl.T (a := 109) (p := (5, 4)) 31 rfl rfl) (by decide) rfl) ?_
      obtain ⟨r4, hc3, h⟩ := bu_so h
      have hq2 : Q 1 sio tt cc d 34 0 [some (.ref b1), some (.int (sI s 109 0))] [] s (.inl (some (.int r4)), s) := dt34 (by omega) hl hk_b1 hc3
      refine Q.callI (gC_vi zm91 (show zM91.2.2.2.2.2[8]? = some (13, 3, .invokevirtual 24, [0, 34, 1, 1]) from rfl) zm34 hk_b1.1 (hl.le hk_b1).1 rfl (show aCr 1 b1 [.int (sI s 109 0), .ref b1] 2 = some ([some (.ref b1), some (.int (sI s 109 0))], []) from rfl)) hq2 ?_
      obtain ⟨r7, hc6, h⟩ := bu_so h
      have hq5 : Q 1 sio tt cc d 47 0 [some (.int r4)] [] s (.inl (some (.int r7)), s) := dt47 (by omega) hl  hc6
      refine Q.callI (gC_st zm91 (show zM91.2.2.2.2.2[9]? = some (16, 3, .invokestatic 49, [0, 47, 1]) from rfl) zm47 (show aC 1 [.int r4] 1 = some ([some (.int r4)], []) from rfl)) hq5 ?_
      by_cases hc8 : r7 = 0
      · rw [if_pos hc8] at h
        refine Q.map (A.zT (gI_of zm91 (e := (19, 3, .ifCond .eq 57, [42])) rfl) (decide_eq_true hc8)) ?_
        exact dt91_42 hd hl  h
      · rw [if_neg hc8] at h
        refine Q.map (A.zF (gI_of zm91 (e := (19, 3, .ifCond .eq 57, [42])) rfl) (fun q => hc8 (of_decide_eq_true q))) ?_
        refine Q.run zm91 1 (i' := 12) (ls' := [some (.ref 109), some (.ref b1), some (.int x2), g3]) (st' := [.ref 109]) rfl ?_
        refine Q.map (A.gf (gI_of zm91 (e := (23, 3, .getfield 15, [5, 1])) rfl) (hl.lt (a := 109) (by decide)) (hl.T (a := 109) (p := (5, 4)) 31 rfl rfl) (by decide) rfl) ?_
        refine Q.run zm91 4 (i' := 17) (ls' := [some (.ref 109), some (.ref b1), some (.int x2), g3]) (st' := [.ref 109, .ref b1, .int ((sI s 109 1) * 10)]) rfl ?_
        refine Q.map (A.gf (gI_of zm91 (e := (31, 3, .getfield 9, [5, 0])) rfl) (hl.lt (a := 109) (by decide)) (hl.T (a := 109) (p := (5, 4)) 31 rfl rfl) (by decide) rfl) ?_
        obtain ⟨r11, hc10, h⟩ := bu_so h
        have hq9 : Q 1 sio tt cc d 34 0 [some (.ref b1), some (.int (sI s 109 0))] [] s (.inl (some (.int r11)), s) := dt34 (by omega) hl hk_b1 hc10
        refine Q.callI (gC_vi zm91 (show zM91.2.2.2.2.2[18]? = some (34, 3, .invokevirtual 24, [0, 34, 1, 1]) from rfl) zm34 hk_b1.1 (hl.le hk_b1).1 rfl (show aCr 1 b1 [.int (sI s 109 0), .ref b1, .int ((sI s 109 1) * 10)] 2 = some ([some (.ref b1), some (.int (sI s 109 0))], [.int ((sI s 109 1) * 10)]) from rfl)) hq9 ?_
        refine Q.run zm91 6 (i' := 25) (ls' := [some (.ref 109), some (.ref b1), some (.int x2), some (.int ((((sI s 109 1) * 10) + r11) - 48))]) (st' := [.int 1, .int ((((sI s 109 1) * 10) + r11) - 48)]) rfl ?_
        by_cases hc12 : ((((sI s 109 1) * 10) + r11) - 48) < 1
        · rw [if_pos hc12] at h
          refine Q.map (A.bT (gI_of zm91 (e := (44, 3, .if_icmp .lt 9, [29])) rfl) (decide_eq_true hc12)) ?_
          refine Q.run zm91 1 (i' := 30) (ls' := [some (.ref 109), some (.ref b1), some (.int x2), some (.int ((((sI s 109 1) * 10) + r11) - 48))]) (st' := [.int 0]) rfl ?_
          cases h
          exact Q.ret (A.ri zm91 (show zM91.2.2.2.2.2[30]? = some (54, 1, .ireturn, []) from rfl) rfl rfl) hl
        · rw [if_neg hc12] at h
          refine Q.map (A.bF (gI_of zm91 (e := (44, 3, .if_icmp .lt 9, [29])) rfl) (fun q => hc12 (of_decide_eq_true q))) ?_
          refine Q.run zm91 2 (i' := 28) (ls' := [some (.ref 109), some (.ref b1), some (.int x2), some (.int ((((sI s 109 1) * 10) + r11) - 48))]) (st' := [.int 1048576, .int ((((sI s 109 1) * 10) + r11) - 48)]) rfl ?_
          by_cases hc13 : ((((sI s 109 1) * 10) + r11) - 48) ≤ 1048576
          · rw [if_pos hc13] at h
            refine Q.map (A.bT (gI_of zm91 (e := (50, 3, .if_icmp .le 5, [31])) rfl) (decide_eq_true hc13)) ?_
            refine Q.run zm91 2 (i' := 33) (ls' := [some (.ref 109), some (.ref b1), some (.int x2), some (.int ((((sI s 109 1) * 10) + r11) - 48))]) (st' := [.int ((((sI s 109 1) * 10) + r11) - 48), .ref 109]) rfl ?_
            obtain ⟨s14, hs15, h⟩ := nx_so h
            refine Q.pf hs15 rfl (gI_of zm91 (e := (57, 3, .putfield 15, [5, 1, 0])) rfl) (hl.lt (a := 109) (by decide)) (by decide) (hl.T (a := 109) (p := (5, 4)) 31 rfl rfl) (by decide) rfl rfl ?_
            have hl16 : Ly tt cc s14 := by rw [hs15]; exact hl.wId (by decide)
            have hr17 : aK s14 b1 1 := by rw [hs15]; exact hk_b1
            refine Q.run zm91 3 (i' := 37) (ls' := [some (.ref 109), some (.ref b1), some (.int (x2 + 1)), some (.int ((((sI s 109 1) * 10) + r11) - 48))]) (st' := [.ref 109, .ref 109]) rfl ?_
            refine Q.map (A.gf (gI_of zm91 (e := (65, 3, .getfield 9, [5, 0])) rfl) (hl16.lt (a := 109) (by decide)) (hl16.T (a := 109) (p := (5, 4)) 31 rfl rfl) (by decide) rfl) ?_
            refine Q.run zm91 2 (i' := 40) (ls' := [some (.ref 109), some (.ref b1), some (.int (x2 + 1)), some (.int ((((sI s 109 1) * 10) + r11) - 48))]) (st' := [.int ((sI s14 109 0) + 1), .ref 109]) rfl ?_
            obtain ⟨s18, hs19, h⟩ := nx_so h
            refine Q.pf hs19 rfl (gI_of zm91 (e := (70, 3, .putfield 9, [5, 0, 0])) rfl) (hl16.lt (a := 109) (by decide)) (by decide) (hl16.T (a := 109) (p := (5, 4)) 31 rfl rfl) (by decide) rfl rfl ?_
            have hl20 : Ly tt cc s18 := by rw [hs19]; exact hl16.wId (by decide)
            have hr21 : aK s18 b1 1 := by rw [hs19]; exact hr17
            refine Q.run zm91 1 (i' := 2) (ls' := [some (.ref 109), some (.ref b1), some (.int (x2 + 1)), some (.int ((((sI s 109 1) * 10) + r11) - 48))]) (st' := []) rfl ?_
            exact ih hl20 hr21 h
          · rw [if_neg hc13] at h
            refine Q.map (A.bF (gI_of zm91 (e := (50, 3, .if_icmp .le 5, [31])) rfl) (fun q => hc13 (of_decide_eq_true q))) ?_
            refine Q.run zm91 1 (i' := 30) (ls' := [some (.ref 109), some (.ref b1), some (.int x2), some (.int ((((sI s 109 1) * 10) + r11) - 48))]) (st' := [.int 0]) rfl ?_
            cases h
            exact Q.ret (A.ri zm91 (show zM91.2.2.2.2.2[30]? = some (54, 1, .ireturn, []) from rfl) rfl rfl) hl
def dm91 (b1 : Nat) (s : aS) : Option (Int32 × aS) :=
  dm91_2 5000 b1 0 s
set_option maxRecDepth 100000 in
theorem dt91 {sio : Bool} {tt : Nat} {cc : Nat → Nat → Int32} {d : Nat} (hd : 1 ≤ d) {b1 : Nat} {s : aS} (hl : Ly tt cc s) (hk_b1 : aK s b1 1) {o : Int32 × aS} (h : dm91  b1 s = some o) : Q 1 sio tt cc d 91 0 [some (.ref 109), some (.ref b1), none, none] [] s (.inl (some (.int o.1)), o.2) := by
  unfold dm91 at h
  obtain ⟨d, rfl⟩ : ∃ e, d = e + 1 := ⟨d - 1, by omega⟩
  refine Q.run zm91 2 (i' := 2) (ls' := [some (.ref 109), some (.ref b1), some (.int 0), none]) (st' := []) rfl ?_
  exact dt91_2 hd _ hl hk_b1 h
/-! 92 FormulaTrees$CellReader.mayStandBehind(I)Z -/
set_option maxRecDepth 100000 in
theorem zm92 : zP[92]? = some zM92 := rfl
def dm92 (x0 : Int32) : Option (Int32) :=
  bu (dm46 x0) fun r3 =>
  if r3 = 0 then
    if x0 = 40 then
      some 0
    else
      if x0 = 33 then
        some 0
      else
        some 1
  else
    some 0
set_option maxRecDepth 100000 in
theorem dt92 {sio : Bool} {tt : Nat} {cc : Nat → Nat → Int32} {d : Nat} (hd : 2 ≤ d) {x0 : Int32} {s : aS} (hl : Ly tt cc s) {o : Int32} (h : dm92  x0 = some o) : Q 1 sio tt cc d 92 0 [some (.int x0)] [] s (.inl (some (.int o)), s) := by
  unfold dm92 at h
  obtain ⟨d, rfl⟩ : ∃ e, d = e + 1 := ⟨d - 1, by omega⟩
  refine Q.run zm92 1 (i' := 1) (ls' := [some (.int x0)]) (st' := [.int x0]) rfl ?_
  obtain ⟨r3, hc2, h⟩ := bu_so h
  have hq1 : Q 1 sio tt cc d 46 0 [some (.int x0)] [] s (.inl (some (.int r3)), s) := dt46 (by omega) hl  hc2
  refine Q.callI (gC_st zm92 (show zM92.2.2.2.2.2[1]? = some (1, 3, .invokestatic 53, [0, 46, 1]) from rfl) zm46 (show aC 1 [.int x0] 1 = some ([some (.int x0)], []) from rfl)) hq1 ?_
  by_cases hc4 : r3 = 0
  · rw [if_pos hc4] at h
    refine Q.map (A.zF (gI_of zm92 (e := (4, 3, .ifCond .ne 19, [11])) rfl) (fun q => of_decide_eq_true q hc4)) ?_
    refine Q.run zm92 2 (i' := 5) (ls' := [some (.int x0)]) (st' := [.int 40, .int x0]) rfl ?_
    by_cases hc5 : x0 = 40
    · rw [if_pos hc5] at h
      refine Q.map (A.bT (gI_of zm92 (e := (10, 3, .if_icmp .eq 13, [11])) rfl) (decide_eq_true hc5)) ?_
      refine Q.run zm92 1 (i' := 12) (ls' := [some (.int x0)]) (st' := [.int 0]) rfl ?_
      cases h
      exact Q.ret (A.ri zm92 (show zM92.2.2.2.2.2[12]? = some (24, 1, .ireturn, []) from rfl) rfl rfl) hl
    · rw [if_neg hc5] at h
      refine Q.map (A.bF (gI_of zm92 (e := (10, 3, .if_icmp .eq 13, [11])) rfl) (fun q => hc5 (of_decide_eq_true q))) ?_
      refine Q.run zm92 2 (i' := 8) (ls' := [some (.int x0)]) (st' := [.int 33, .int x0]) rfl ?_
      by_cases hc6 : x0 = 33
      · rw [if_pos hc6] at h
        refine Q.map (A.bT (gI_of zm92 (e := (16, 3, .if_icmp .eq 7, [11])) rfl) (decide_eq_true hc6)) ?_
        refine Q.run zm92 1 (i' := 12) (ls' := [some (.int x0)]) (st' := [.int 0]) rfl ?_
        cases h
        exact Q.ret (A.ri zm92 (show zM92.2.2.2.2.2[12]? = some (24, 1, .ireturn, []) from rfl) rfl rfl) hl
      · rw [if_neg hc6] at h
        refine Q.map (A.bF (gI_of zm92 (e := (16, 3, .if_icmp .eq 7, [11])) rfl) (fun q => hc6 (of_decide_eq_true q))) ?_
        refine Q.run zm92 2 (i' := 12) (ls' := [some (.int x0)]) (st' := [.int 1]) rfl ?_
        cases h
        exact Q.ret (A.ri zm92 (show zM92.2.2.2.2.2[12]? = some (24, 1, .ireturn, []) from rfl) rfl rfl) hl
  · rw [if_neg hc4] at h
    refine Q.map (A.zT (gI_of zm92 (e := (4, 3, .ifCond .ne 19, [11])) rfl) (decide_eq_true hc4)) ?_
    refine Q.run zm92 1 (i' := 12) (ls' := [some (.int x0)]) (st' := [.int 0]) rfl ?_
    cases h
    exact Q.ret (A.ri zm92 (show zM92.2.2.2.2.2[12]? = some (24, 1, .ireturn, []) from rfl) rfl rfl) hl
/-! 89 FormulaTrees$CellReader.readFrom(LFormulaTrees$Letters;I)Z -/
set_option maxRecDepth 100000 in
theorem zm89 : zP[89]? = some zM89 := rfl
def dm89_54 (b1 : Nat) (s : aS) : Option (Int32 × aS) :=
  bv (dm91 b1 s) fun r4 s3 =>
  if r4 = 0 then
    some (0, s3)
  else
    bu (dm34 b1 (sI s3 109 0) s3) fun r9 =>
    bu (dm92 r9) fun r12 =>
    if r12 = 0 then
      some (0, s3)
    else
      some (1, s3)
set_option maxRecDepth 100000 in
theorem dt89_54 {sio : Bool} {tt : Nat} {cc : Nat → Nat → Int32} {d : Nat} (hd : 3 ≤ d) {b1 : Nat} {x2 : Int32} {s : aS} (hl : Ly tt cc s) (hk_b1 : aK s b1 1) {o : Int32 × aS} (h : dm89_54  b1 s = some o) : Q 1 sio tt cc d 89 54 [some (.ref 109), some (.ref b1), some (.int x2)] [] s (.inl (some (.int o.1)), o.2) := by
  unfold dm89_54 at h
  obtain ⟨d, rfl⟩ : ∃ e, d = e + 1 := ⟨d - 1, by omega⟩
  refine Q.run zm89 2 (i' := 56) (ls' := [some (.ref 109), some (.ref b1), some (.int x2)]) (st' := [.ref b1, .ref 109]) rfl ?_
  obtain ⟨r4, s3, hc2, h⟩ := bv_so h
  have hq1 : Q 1 sio tt cc d 91 0 [some (.ref 109), some (.ref b1), none, none] [] s (.inl (some (.int r4)), s3) := dt91 (by omega) hl hk_b1 hc2
  refine Q.callI (gC_vi zm89 (show zM89.2.2.2.2.2[56]? = some (98, 3, .invokevirtual 34, [0, 91, 1, 5]) from rfl) zm91 (hl.lt (a := 109) (by decide)) (hl.T (a := 109) (p := (5, 4)) 31 rfl rfl) rfl (show aCr 1 109 [.ref b1, .ref 109] 4 = some ([some (.ref 109), some (.ref b1), none, none], []) from rfl)) hq1 ?_
  have hr5 : aK s3 b1 1 := hq1.2.1.k hk_b1
  by_cases hc6 : r4 = 0
  · rw [if_pos hc6] at h
    refine Q.map (A.zT (gI_of zm89 (e := (101, 3, .ifCond .eq 21, [66])) rfl) (decide_eq_true hc6)) ?_
    refine Q.run zm89 1 (i' := 67) (ls' := [some (.ref 109), some (.ref b1), some (.int x2)]) (st' := [.int 0]) rfl ?_
    cases h
    exact Q.ret (A.ri zm89 (show zM89.2.2.2.2.2[67]? = some (123, 1, .ireturn, []) from rfl) rfl rfl) hq1.1
  · rw [if_neg hc6] at h
    refine Q.map (A.zF (gI_of zm89 (e := (101, 3, .ifCond .eq 21, [66])) rfl) (fun q => hc6 (of_decide_eq_true q))) ?_
    refine Q.run zm89 2 (i' := 60) (ls' := [some (.ref 109), some (.ref b1), some (.int x2)]) (st' := [.ref 109, .ref b1]) rfl ?_
    refine Q.map (A.gf (gI_of zm89 (e := (106, 3, .getfield 9, [5, 0])) rfl) (hq1.1.lt (a := 109) (by decide)) (hq1.1.T (a := 109) (p := (5, 4)) 31 rfl rfl) (by decide) rfl) ?_
    obtain ⟨r9, hc8, h⟩ := bu_so h
    have hq7 : Q 1 sio tt cc d 34 0 [some (.ref b1), some (.int (sI s3 109 0))] [] s3 (.inl (some (.int r9)), s3) := dt34 (by omega) hq1.1 hr5 hc8
    refine Q.callI (gC_vi zm89 (show zM89.2.2.2.2.2[61]? = some (109, 3, .invokevirtual 24, [0, 34, 1, 1]) from rfl) zm34 hr5.1 (hq1.1.le hr5).1 rfl (show aCr 1 b1 [.int (sI s3 109 0), .ref b1] 2 = some ([some (.ref b1), some (.int (sI s3 109 0))], []) from rfl)) hq7 ?_
    obtain ⟨r12, hc11, h⟩ := bu_so h
    have hq10 : Q 1 sio tt cc d 92 0 [some (.int r9)] [] s3 (.inl (some (.int r12)), s3) := dt92 (by omega) hq1.1  hc11
    refine Q.callI (gC_st zm89 (show zM89.2.2.2.2.2[62]? = some (112, 3, .invokestatic 37, [0, 92, 1]) from rfl) zm92 (show aC 1 [.int r9] 1 = some ([some (.int r9)], []) from rfl)) hq10 ?_
    by_cases hc13 : r12 = 0
    · rw [if_pos hc13] at h
      refine Q.map (A.zT (gI_of zm89 (e := (115, 3, .ifCond .eq 7, [66])) rfl) (decide_eq_true hc13)) ?_
      refine Q.run zm89 1 (i' := 67) (ls' := [some (.ref 109), some (.ref b1), some (.int x2)]) (st' := [.int 0]) rfl ?_
      cases h
      exact Q.ret (A.ri zm89 (show zM89.2.2.2.2.2[67]? = some (123, 1, .ireturn, []) from rfl) rfl rfl) hq1.1
    · rw [if_neg hc13] at h
      refine Q.map (A.zF (gI_of zm89 (e := (115, 3, .ifCond .eq 7, [66])) rfl) (fun q => hc13 (of_decide_eq_true q))) ?_
      refine Q.run zm89 2 (i' := 67) (ls' := [some (.ref 109), some (.ref b1), some (.int x2)]) (st' := [.int 1]) rfl ?_
      cases h
      exact Q.ret (A.ri zm89 (show zM89.2.2.2.2.2[67]? = some (123, 1, .ireturn, []) from rfl) rfl rfl) hq1.1
def dm89_30 (b1 : Nat) (s : aS) : Option (Int32 × aS) :=
  bv (dm90 b1 s) fun r4 s3 =>
  if r4 = 0 then
    some (0, s3)
  else
    bu (dm34 b1 (sI s3 109 0) s3) fun r9 =>
    if r9 = 36 then
      nx (wI s3 109 3 ((sI s3 109 3) + 1)) fun s11 =>
      nx (wI s11 109 0 ((sI s11 109 0) + 1)) fun s15 =>
      dm89_54 b1 s15
    else
      dm89_54 b1 s3
set_option maxRecDepth 100000 in
theorem dt89_30 {sio : Bool} {tt : Nat} {cc : Nat → Nat → Int32} {d : Nat} (hd : 3 ≤ d) {b1 : Nat} {x2 : Int32} {s : aS} (hl : Ly tt cc s) (hk_b1 : aK s b1 1) {o : Int32 × aS} (h : dm89_30  b1 s = some o) : Q 1 sio tt cc d 89 30 [some (.ref 109), some (.ref b1), some (.int x2)] [] s (.inl (some (.int o.1)), o.2) := by
  unfold dm89_30 at h
  obtain ⟨d, rfl⟩ : ∃ e, d = e + 1 := ⟨d - 1, by omega⟩
  refine Q.run zm89 2 (i' := 32) (ls' := [some (.ref 109), some (.ref b1), some (.int x2)]) (st' := [.ref b1, .ref 109]) rfl ?_
  obtain ⟨r4, s3, hc2, h⟩ := bv_so h
  have hq1 : Q 1 sio tt cc d 90 0 [some (.ref 109), some (.ref b1), none, none] [] s (.inl (some (.int r4)), s3) := dt90 (by omega) hl hk_b1 hc2
  refine Q.callI (gC_vi zm89 (show zM89.2.2.2.2.2[32]? = some (55, 3, .invokevirtual 30, [0, 90, 1, 5]) from rfl) zm90 (hl.lt (a := 109) (by decide)) (hl.T (a := 109) (p := (5, 4)) 31 rfl rfl) rfl (show aCr 1 109 [.ref b1, .ref 109] 4 = some ([some (.ref 109), some (.ref b1), none, none], []) from rfl)) hq1 ?_
  have hr5 : aK s3 b1 1 := hq1.2.1.k hk_b1
  by_cases hc6 : r4 = 0
  · rw [if_pos hc6] at h
    refine Q.map (A.zF (gI_of zm89 (e := (58, 3, .ifCond .ne 5, [36])) rfl) (fun q => of_decide_eq_true q hc6)) ?_
    refine Q.run zm89 1 (i' := 35) (ls' := [some (.ref 109), some (.ref b1), some (.int x2)]) (st' := [.int 0]) rfl ?_
    cases h
    exact Q.ret (A.ri zm89 (show zM89.2.2.2.2.2[35]? = some (62, 1, .ireturn, []) from rfl) rfl rfl) hq1.1
  · rw [if_neg hc6] at h
    refine Q.map (A.zT (gI_of zm89 (e := (58, 3, .ifCond .ne 5, [36])) rfl) (decide_eq_true hc6)) ?_
    refine Q.run zm89 2 (i' := 38) (ls' := [some (.ref 109), some (.ref b1), some (.int x2)]) (st' := [.ref 109, .ref b1]) rfl ?_
    refine Q.map (A.gf (gI_of zm89 (e := (65, 3, .getfield 9, [5, 0])) rfl) (hq1.1.lt (a := 109) (by decide)) (hq1.1.T (a := 109) (p := (5, 4)) 31 rfl rfl) (by decide) rfl) ?_
    obtain ⟨r9, hc8, h⟩ := bu_so h
    have hq7 : Q 1 sio tt cc d 34 0 [some (.ref b1), some (.int (sI s3 109 0))] [] s3 (.inl (some (.int r9)), s3) := dt34 (by omega) hq1.1 hr5 hc8
    refine Q.callI (gC_vi zm89 (show zM89.2.2.2.2.2[39]? = some (68, 3, .invokevirtual 24, [0, 34, 1, 1]) from rfl) zm34 hr5.1 (hq1.1.le hr5).1 rfl (show aCr 1 b1 [.int (sI s3 109 0), .ref b1] 2 = some ([some (.ref b1), some (.int (sI s3 109 0))], []) from rfl)) hq7 ?_
    refine Q.run zm89 1 (i' := 41) (ls' := [some (.ref 109), some (.ref b1), some (.int x2)]) (st' := [.int 36, .int r9]) rfl ?_
    by_cases hc10 : r9 = 36
    · rw [if_pos hc10] at h
      refine Q.map (A.bF (gI_of zm89 (e := (73, 3, .if_icmp .ne 23, [54])) rfl) (fun q => of_decide_eq_true q hc10)) ?_
      refine Q.run zm89 2 (i' := 44) (ls' := [some (.ref 109), some (.ref b1), some (.int x2)]) (st' := [.ref 109, .ref 109]) rfl ?_
      refine Q.map (A.gf (gI_of zm89 (e := (78, 3, .getfield 21, [5, 3])) rfl) (hq1.1.lt (a := 109) (by decide)) (hq1.1.T (a := 109) (p := (5, 4)) 31 rfl rfl) (by decide) rfl) ?_
      refine Q.run zm89 2 (i' := 47) (ls' := [some (.ref 109), some (.ref b1), some (.int x2)]) (st' := [.int ((sI s3 109 3) + 1), .ref 109]) rfl ?_
      obtain ⟨s11, hs12, h⟩ := nx_so h
      refine Q.pf hs12 rfl (gI_of zm89 (e := (83, 3, .putfield 21, [5, 3, 0])) rfl) (hq1.1.lt (a := 109) (by decide)) (by decide) (hq1.1.T (a := 109) (p := (5, 4)) 31 rfl rfl) (by decide) rfl rfl ?_
      have hl13 : Ly tt cc s11 := by rw [hs12]; exact hq1.1.wId (by decide)
      have hr14 : aK s11 b1 1 := by rw [hs12]; exact hr5
      refine Q.run zm89 2 (i' := 50) (ls' := [some (.ref 109), some (.ref b1), some (.int x2)]) (st' := [.ref 109, .ref 109]) rfl ?_
      refine Q.map (A.gf (gI_of zm89 (e := (88, 3, .getfield 9, [5, 0])) rfl) (hl13.lt (a := 109) (by decide)) (hl13.T (a := 109) (p := (5, 4)) 31 rfl rfl) (by decide) rfl) ?_
      refine Q.run zm89 2 (i' := 53) (ls' := [some (.ref 109), some (.ref b1), some (.int x2)]) (st' := [.int ((sI s11 109 0) + 1), .ref 109]) rfl ?_
      obtain ⟨s15, hs16, h⟩ := nx_so h
      refine Q.pf hs16 rfl (gI_of zm89 (e := (93, 3, .putfield 9, [5, 0, 0])) rfl) (hl13.lt (a := 109) (by decide)) (by decide) (hl13.T (a := 109) (p := (5, 4)) 31 rfl rfl) (by decide) rfl rfl ?_
      have hl17 : Ly tt cc s15 := by rw [hs16]; exact hl13.wId (by decide)
      have hr18 : aK s15 b1 1 := by rw [hs16]; exact hr14
      exact dt89_54 hd hl17 hr18 h
    · rw [if_neg hc10] at h
      refine Q.map (A.bT (gI_of zm89 (e := (73, 3, .if_icmp .ne 23, [54])) rfl) (decide_eq_true hc10)) ?_
      exact dt89_54 hd hq1.1 hr5 h
def dm89 (b1 : Nat) (x2 : Int32) (s : aS) : Option (Int32 × aS) :=
  nx (wI s 109 0 x2) fun s1 =>
  nx (wI s1 109 1 0) fun s5 =>
  nx (wI s5 109 2 0) fun s9 =>
  nx (wI s9 109 3 0) fun s13 =>
  bu (dm34 b1 (sI s13 109 0) s13) fun r19 =>
  if r19 = 36 then
    nx (wI s13 109 3 ((sI s13 109 3) + 2)) fun s21 =>
    nx (wI s21 109 0 ((sI s21 109 0) + 1)) fun s25 =>
    dm89_30 b1 s25
  else
    dm89_30 b1 s13
set_option maxRecDepth 100000 in
theorem dt89 {sio : Bool} {tt : Nat} {cc : Nat → Nat → Int32} {d : Nat} (hd : 3 ≤ d) {b1 : Nat} {x2 : Int32} {s : aS} (hl : Ly tt cc s) (hk_b1 : aK s b1 1) {o : Int32 × aS} (h : dm89  b1 x2 s = some o) : Q 1 sio tt cc d 89 0 [some (.ref 109), some (.ref b1), some (.int x2)] [] s (.inl (some (.int o.1)), o.2) := by
  unfold dm89 at h
  obtain ⟨d, rfl⟩ : ∃ e, d = e + 1 := ⟨d - 1, by omega⟩
  refine Q.run zm89 2 (i' := 2) (ls' := [some (.ref 109), some (.ref b1), some (.int x2)]) (st' := [.int x2, .ref 109]) rfl ?_
  obtain ⟨s1, hs2, h⟩ := nx_so h
  refine Q.pf hs2 rfl (gI_of zm89 (e := (2, 3, .putfield 9, [5, 0, 0])) rfl) (hl.lt (a := 109) (by decide)) (by decide) (hl.T (a := 109) (p := (5, 4)) 31 rfl rfl) (by decide) rfl rfl ?_
  have hl3 : Ly tt cc s1 := by rw [hs2]; exact hl.wId (by decide)
  have hr4 : aK s1 b1 1 := by rw [hs2]; exact hk_b1
  refine Q.run zm89 2 (i' := 5) (ls' := [some (.ref 109), some (.ref b1), some (.int x2)]) (st' := [.int 0, .ref 109]) rfl ?_
  obtain ⟨s5, hs6, h⟩ := nx_so h
  refine Q.pf hs6 rfl (gI_of zm89 (e := (7, 3, .putfield 15, [5, 1, 0])) rfl) (hl3.lt (a := 109) (by decide)) (by decide) (hl3.T (a := 109) (p := (5, 4)) 31 rfl rfl) (by decide) rfl rfl ?_
  have hl7 : Ly tt cc s5 := by rw [hs6]; exact hl3.wId (by decide)
  have hr8 : aK s5 b1 1 := by rw [hs6]; exact hr4
  refine Q.run zm89 2 (i' := 8) (ls' := [some (.ref 109), some (.ref b1), some (.int x2)]) (st' := [.int 0, .ref 109]) rfl ?_
  obtain ⟨s9, hs10, h⟩ := nx_so h
  refine Q.pf hs10 rfl (gI_of zm89 (e := (12, 3, .putfield 18, [5, 2, 0])) rfl) (hl7.lt (a := 109) (by decide)) (by decide) (hl7.T (a := 109) (p := (5, 4)) 31 rfl rfl) (by decide) rfl rfl ?_
  have hl11 : Ly tt cc s9 := by rw [hs10]; exact hl7.wId (by decide)
  have hr12 : aK s9 b1 1 := by rw [hs10]; exact hr8
  refine Q.run zm89 2 (i' := 11) (ls' := [some (.ref 109), some (.ref b1), some (.int x2)]) (st' := [.int 0, .ref 109]) rfl ?_
  obtain ⟨s13, hs14, h⟩ := nx_so h
  refine Q.pf hs14 rfl (gI_of zm89 (e := (17, 3, .putfield 21, [5, 3, 0])) rfl) (hl11.lt (a := 109) (by decide)) (by decide) (hl11.T (a := 109) (p := (5, 4)) 31 rfl rfl) (by decide) rfl rfl ?_
  have hl15 : Ly tt cc s13 := by rw [hs14]; exact hl11.wId (by decide)
  have hr16 : aK s13 b1 1 := by rw [hs14]; exact hr12
  refine Q.run zm89 2 (i' := 14) (ls' := [some (.ref 109), some (.ref b1), some (.int x2)]) (st' := [.ref 109, .ref b1]) rfl ?_
  refine Q.map (A.gf (gI_of zm89 (e := (22, 3, .getfield 9, [5, 0])) rfl) (hl15.lt (a := 109) (by decide)) (hl15.T (a := 109) (p := (5, 4)) 31 rfl rfl) (by decide) rfl) ?_
  obtain ⟨r19, hc18, h⟩ := bu_so h
  have hq17 : Q 1 sio tt cc d 34 0 [some (.ref b1), some (.int (sI s13 109 0))] [] s13 (.inl (some (.int r19)), s13) := dt34 (by omega) hl15 hr16 hc18
  refine Q.callI (gC_vi zm89 (show zM89.2.2.2.2.2[15]? = some (25, 3, .invokevirtual 24, [0, 34, 1, 1]) from rfl) zm34 hr16.1 (hl15.le hr16).1 rfl (show aCr 1 b1 [.int (sI s13 109 0), .ref b1] 2 = some ([some (.ref b1), some (.int (sI s13 109 0))], []) from rfl)) hq17 ?_
  refine Q.run zm89 1 (i' := 17) (ls' := [some (.ref 109), some (.ref b1), some (.int x2)]) (st' := [.int 36, .int r19]) rfl ?_
  by_cases hc20 : r19 = 36
  · rw [if_pos hc20] at h
    refine Q.map (A.bF (gI_of zm89 (e := (30, 3, .if_icmp .ne 23, [30])) rfl) (fun q => of_decide_eq_true q hc20)) ?_
    refine Q.run zm89 2 (i' := 20) (ls' := [some (.ref 109), some (.ref b1), some (.int x2)]) (st' := [.ref 109, .ref 109]) rfl ?_
    refine Q.map (A.gf (gI_of zm89 (e := (35, 3, .getfield 21, [5, 3])) rfl) (hl15.lt (a := 109) (by decide)) (hl15.T (a := 109) (p := (5, 4)) 31 rfl rfl) (by decide) rfl) ?_
    refine Q.run zm89 2 (i' := 23) (ls' := [some (.ref 109), some (.ref b1), some (.int x2)]) (st' := [.int ((sI s13 109 3) + 2), .ref 109]) rfl ?_
    obtain ⟨s21, hs22, h⟩ := nx_so h
    refine Q.pf hs22 rfl (gI_of zm89 (e := (40, 3, .putfield 21, [5, 3, 0])) rfl) (hl15.lt (a := 109) (by decide)) (by decide) (hl15.T (a := 109) (p := (5, 4)) 31 rfl rfl) (by decide) rfl rfl ?_
    have hl23 : Ly tt cc s21 := by rw [hs22]; exact hl15.wId (by decide)
    have hr24 : aK s21 b1 1 := by rw [hs22]; exact hr16
    refine Q.run zm89 2 (i' := 26) (ls' := [some (.ref 109), some (.ref b1), some (.int x2)]) (st' := [.ref 109, .ref 109]) rfl ?_
    refine Q.map (A.gf (gI_of zm89 (e := (45, 3, .getfield 9, [5, 0])) rfl) (hl23.lt (a := 109) (by decide)) (hl23.T (a := 109) (p := (5, 4)) 31 rfl rfl) (by decide) rfl) ?_
    refine Q.run zm89 2 (i' := 29) (ls' := [some (.ref 109), some (.ref b1), some (.int x2)]) (st' := [.int ((sI s21 109 0) + 1), .ref 109]) rfl ?_
    obtain ⟨s25, hs26, h⟩ := nx_so h
    refine Q.pf hs26 rfl (gI_of zm89 (e := (50, 3, .putfield 9, [5, 0, 0])) rfl) (hl23.lt (a := 109) (by decide)) (by decide) (hl23.T (a := 109) (p := (5, 4)) 31 rfl rfl) (by decide) rfl rfl ?_
    have hl27 : Ly tt cc s25 := by rw [hs26]; exact hl23.wId (by decide)
    have hr28 : aK s25 b1 1 := by rw [hs26]; exact hr24
    exact dt89_30 hd hl27 hr28 h
  · rw [if_neg hc20] at h
    refine Q.map (A.bT (gI_of zm89 (e := (30, 3, .if_icmp .ne 23, [30])) rfl) (decide_eq_true hc20)) ?_
    exact dt89_30 hd hl15 hr16 h
/-! 93 FormulaTrees$CellReader.end()I -/
set_option maxRecDepth 100000 in
theorem zm93 : zP[93]? = some zM93 := rfl
def dm93 (s : aS) : Option (Int32) :=
  some (sI s 109 0)
set_option maxRecDepth 100000 in
theorem dt93 {sio : Bool} {tt : Nat} {cc : Nat → Nat → Int32} {d : Nat} (hd : 0 ≤ d) {s : aS} (hl : Ly tt cc s) {o : Int32} (h : dm93  s = some o) : Q 1 sio tt cc d 93 0 [some (.ref 109)] [] s (.inl (some (.int o)), s) := by
  unfold dm93 at h
  refine Q.run zm93 1 (i' := 1) (ls' := [some (.ref 109)]) (st' := [.ref 109]) rfl ?_
  refine Q.map (A.gf (gI_of zm93 (e := (1, 3, .getfield 9, [5, 0])) rfl) (hl.lt (a := 109) (by decide)) (hl.T (a := 109) (p := (5, 4)) 31 rfl rfl) (by decide) rfl) ?_
  cases h
  exact Q.ret (A.ri zm93 (show zM93.2.2.2.2.2[2]? = some (4, 1, .ireturn, []) from rfl) rfl rfl) hl
/-! 94 FormulaTrees$Tree.nodes()I -/
set_option maxRecDepth 100000 in
theorem zm94 : zP[94]? = some zM94 := rfl
def dm94 (b0 : Nat) (s : aS) : Option (Int32) :=
  some (sI s b0 2)
set_option maxRecDepth 100000 in
theorem dt94 {sio : Bool} {tt : Nat} {cc : Nat → Nat → Int32} {d : Nat} (hd : 0 ≤ d) {b0 : Nat} {s : aS} (hl : Ly tt cc s) (hk_b0 : aK s b0 3) {o : Int32} (h : dm94  b0 s = some o) : Q 1 sio tt cc d 94 0 [some (.ref b0)] [] s (.inl (some (.int o)), s) := by
  unfold dm94 at h
  refine Q.run zm94 1 (i' := 1) (ls' := [some (.ref b0)]) (st' := [.ref b0]) rfl ?_
  refine Q.map (A.gf (gI_of zm94 (e := (1, 3, .getfield 24, [3, 2])) rfl) hk_b0.1 (hl.tr hk_b0).1 (by decide) rfl) ?_
  cases h
  exact Q.ret (A.ri zm94 (show zM94.2.2.2.2.2[2]? = some (4, 1, .ireturn, []) from rfl) rfl rfl) hl
/-! 96 FormulaTrees$CellReader.row()I -/
set_option maxRecDepth 100000 in
theorem zm96 : zP[96]? = some zM96 := rfl
def dm96 (s : aS) : Option (Int32) :=
  some (sI s 109 1)
set_option maxRecDepth 100000 in
theorem dt96 {sio : Bool} {tt : Nat} {cc : Nat → Nat → Int32} {d : Nat} (hd : 0 ≤ d) {s : aS} (hl : Ly tt cc s) {o : Int32} (h : dm96  s = some o) : Q 1 sio tt cc d 96 0 [some (.ref 109)] [] s (.inl (some (.int o)), s) := by
  unfold dm96 at h
  refine Q.run zm96 1 (i' := 1) (ls' := [some (.ref 109)]) (st' := [.ref 109]) rfl ?_
  refine Q.map (A.gf (gI_of zm96 (e := (1, 3, .getfield 15, [5, 1])) rfl) (hl.lt (a := 109) (by decide)) (hl.T (a := 109) (p := (5, 4)) 31 rfl rfl) (by decide) rfl) ?_
  cases h
  exact Q.ret (A.ri zm96 (show zM96.2.2.2.2.2[2]? = some (4, 1, .ireturn, []) from rfl) rfl rfl) hl
/-! 97 FormulaTrees$CellReader.column()I -/
set_option maxRecDepth 100000 in
theorem zm97 : zP[97]? = some zM97 := rfl
def dm97 (s : aS) : Option (Int32) :=
  some (sI s 109 2)
set_option maxRecDepth 100000 in
theorem dt97 {sio : Bool} {tt : Nat} {cc : Nat → Nat → Int32} {d : Nat} (hd : 0 ≤ d) {s : aS} (hl : Ly tt cc s) {o : Int32} (h : dm97  s = some o) : Q 1 sio tt cc d 97 0 [some (.ref 109)] [] s (.inl (some (.int o)), s) := by
  unfold dm97 at h
  refine Q.run zm97 1 (i' := 1) (ls' := [some (.ref 109)]) (st' := [.ref 109]) rfl ?_
  refine Q.map (A.gf (gI_of zm97 (e := (1, 3, .getfield 18, [5, 2])) rfl) (hl.lt (a := 109) (by decide)) (hl.T (a := 109) (p := (5, 4)) 31 rfl rfl) (by decide) rfl) ?_
  cases h
  exact Q.ret (A.ri zm97 (show zM97.2.2.2.2.2[2]? = some (4, 1, .ireturn, []) from rfl) rfl rfl) hl
/-! 98 FormulaTrees$CellReader.dollars()I -/
set_option maxRecDepth 100000 in
theorem zm98 : zP[98]? = some zM98 := rfl
def dm98 (s : aS) : Option (Int32) :=
  some (sI s 109 3)
set_option maxRecDepth 100000 in
theorem dt98 {sio : Bool} {tt : Nat} {cc : Nat → Nat → Int32} {d : Nat} (hd : 0 ≤ d) {s : aS} (hl : Ly tt cc s) {o : Int32} (h : dm98  s = some o) : Q 1 sio tt cc d 98 0 [some (.ref 109)] [] s (.inl (some (.int o)), s) := by
  unfold dm98 at h
  refine Q.run zm98 1 (i' := 1) (ls' := [some (.ref 109)]) (st' := [.ref 109]) rfl ?_
  refine Q.map (A.gf (gI_of zm98 (e := (1, 3, .getfield 21, [5, 3])) rfl) (hl.lt (a := 109) (by decide)) (hl.T (a := 109) (p := (5, 4)) 31 rfl rfl) (by decide) rfl) ?_
  cases h
  exact Q.ret (A.ri zm98 (show zM98.2.2.2.2.2[2]? = some (4, 1, .ireturn, []) from rfl) rfl rfl) hl
/-! 95 FormulaTrees$Tree.becomeCell(ILFormulaTrees$CellReader;)V -/
set_option maxRecDepth 100000 in
theorem zm95 : zP[95]? = some zM95 := rfl
def dm95 (b0 : Nat) (x1 : Int32) (s : aS) : Option (aS) :=
  bu (dm96 s) fun r3 =>
  bu (dm60 b0 x1 3 r3 s) fun s6 =>
  bu (dm97 s6) fun r10 =>
  bu (dm60 b0 x1 4 r10 s6) fun s13 =>
  bu (dm96 s13) fun r17 =>
  bu (dm60 b0 x1 5 r17 s13) fun s20 =>
  bu (dm97 s20) fun r24 =>
  bu (dm60 b0 x1 6 r24 s20) fun s27 =>
  bu (dm98 s27) fun r31 =>
  bu (dm60 b0 x1 7 r31 s27) fun s34 =>
  some s34
set_option maxRecDepth 100000 in
theorem dt95 {sio : Bool} {tt : Nat} {cc : Nat → Nat → Int32} {d : Nat} (hd : 1 ≤ d) {b0 : Nat} {x1 : Int32} {s : aS} (hl : Ly tt cc s) (hk_b0 : aK s b0 3) {o : aS} (h : dm95  b0 x1 s = some o) : Q 1 sio tt cc d 95 0 [some (.ref b0), some (.int x1), some (.ref 109)] [] s (.inl none, o) := by
  unfold dm95 at h
  obtain ⟨d, rfl⟩ : ∃ e, d = e + 1 := ⟨d - 1, by omega⟩
  refine Q.run zm95 4 (i' := 4) (ls' := [some (.ref b0), some (.int x1), some (.ref 109)]) (st' := [.ref 109, .int 3, .int x1, .ref b0]) rfl ?_
  obtain ⟨r3, hc2, h⟩ := bu_so h
  have hq1 : Q 1 sio tt cc d 96 0 [some (.ref 109)] [] s (.inl (some (.int r3)), s) := dt96 (by omega) hl  hc2
  refine Q.callI (gC_vi zm95 (show zM95.2.2.2.2.2[4]? = some (4, 3, .invokevirtual 74, [0, 96, 0, 5]) from rfl) zm96 (hl.lt (a := 109) (by decide)) (hl.T (a := 109) (p := (5, 4)) 31 rfl rfl) rfl (show aCr 0 109 [.ref 109, .int 3, .int x1, .ref b0] 1 = some ([some (.ref 109)], [.int 3, .int x1, .ref b0]) from rfl)) hq1 ?_
  obtain ⟨s6, hc5, h⟩ := bu_so h
  have hq4 : Q 1 sio tt cc d 60 0 [some (.ref b0), some (.int x1), some (.int 3), some (.int r3)] [] s (.inl none, s6) := dt60 (by omega) hl hk_b0 hc5
  refine Q.callV (gC_vi zm95 (show zM95.2.2.2.2.2[5]? = some (7, 3, .invokevirtual 51, [0, 60, 3, 3]) from rfl) zm60 hk_b0.1 (hl.tr hk_b0).1 rfl (show aCr 3 b0 [.int r3, .int 3, .int x1, .ref b0] 4 = some ([some (.ref b0), some (.int x1), some (.int 3), some (.int r3)], []) from rfl)) hq4 ?_
  have hr7 : aK s6 b0 3 := hq4.2.1.k hk_b0
  refine Q.run zm95 4 (i' := 10) (ls' := [some (.ref b0), some (.int x1), some (.ref 109)]) (st' := [.ref 109, .int 4, .int x1, .ref b0]) rfl ?_
  obtain ⟨r10, hc9, h⟩ := bu_so h
  have hq8 : Q 1 sio tt cc d 97 0 [some (.ref 109)] [] s6 (.inl (some (.int r10)), s6) := dt97 (by omega) hq4.1  hc9
  refine Q.callI (gC_vi zm95 (show zM95.2.2.2.2.2[10]? = some (14, 3, .invokevirtual 79, [0, 97, 0, 5]) from rfl) zm97 (hq4.1.lt (a := 109) (by decide)) (hq4.1.T (a := 109) (p := (5, 4)) 31 rfl rfl) rfl (show aCr 0 109 [.ref 109, .int 4, .int x1, .ref b0] 1 = some ([some (.ref 109)], [.int 4, .int x1, .ref b0]) from rfl)) hq8 ?_
  obtain ⟨s13, hc12, h⟩ := bu_so h
  have hq11 : Q 1 sio tt cc d 60 0 [some (.ref b0), some (.int x1), some (.int 4), some (.int r10)] [] s6 (.inl none, s13) := dt60 (by omega) hq4.1 hr7 hc12
  refine Q.callV (gC_vi zm95 (show zM95.2.2.2.2.2[11]? = some (17, 3, .invokevirtual 51, [0, 60, 3, 3]) from rfl) zm60 hr7.1 (hq4.1.tr hr7).1 rfl (show aCr 3 b0 [.int r10, .int 4, .int x1, .ref b0] 4 = some ([some (.ref b0), some (.int x1), some (.int 4), some (.int r10)], []) from rfl)) hq11 ?_
  have hr14 : aK s13 b0 3 := hq11.2.1.k hr7
  refine Q.run zm95 4 (i' := 16) (ls' := [some (.ref b0), some (.int x1), some (.ref 109)]) (st' := [.ref 109, .int 5, .int x1, .ref b0]) rfl ?_
  obtain ⟨r17, hc16, h⟩ := bu_so h
  have hq15 : Q 1 sio tt cc d 96 0 [some (.ref 109)] [] s13 (.inl (some (.int r17)), s13) := dt96 (by omega) hq11.1  hc16
  refine Q.callI (gC_vi zm95 (show zM95.2.2.2.2.2[16]? = some (24, 3, .invokevirtual 74, [0, 96, 0, 5]) from rfl) zm96 (hq11.1.lt (a := 109) (by decide)) (hq11.1.T (a := 109) (p := (5, 4)) 31 rfl rfl) rfl (show aCr 0 109 [.ref 109, .int 5, .int x1, .ref b0] 1 = some ([some (.ref 109)], [.int 5, .int x1, .ref b0]) from rfl)) hq15 ?_
  obtain ⟨s20, hc19, h⟩ := bu_so h
  have hq18 : Q 1 sio tt cc d 60 0 [some (.ref b0), some (.int x1), some (.int 5), some (.int r17)] [] s13 (.inl none, s20) := dt60 (by omega) hq11.1 hr14 hc19
  refine Q.callV (gC_vi zm95 (show zM95.2.2.2.2.2[17]? = some (27, 3, .invokevirtual 51, [0, 60, 3, 3]) from rfl) zm60 hr14.1 (hq11.1.tr hr14).1 rfl (show aCr 3 b0 [.int r17, .int 5, .int x1, .ref b0] 4 = some ([some (.ref b0), some (.int x1), some (.int 5), some (.int r17)], []) from rfl)) hq18 ?_
  have hr21 : aK s20 b0 3 := hq18.2.1.k hr14
  refine Q.run zm95 4 (i' := 22) (ls' := [some (.ref b0), some (.int x1), some (.ref 109)]) (st' := [.ref 109, .int 6, .int x1, .ref b0]) rfl ?_
  obtain ⟨r24, hc23, h⟩ := bu_so h
  have hq22 : Q 1 sio tt cc d 97 0 [some (.ref 109)] [] s20 (.inl (some (.int r24)), s20) := dt97 (by omega) hq18.1  hc23
  refine Q.callI (gC_vi zm95 (show zM95.2.2.2.2.2[22]? = some (35, 3, .invokevirtual 79, [0, 97, 0, 5]) from rfl) zm97 (hq18.1.lt (a := 109) (by decide)) (hq18.1.T (a := 109) (p := (5, 4)) 31 rfl rfl) rfl (show aCr 0 109 [.ref 109, .int 6, .int x1, .ref b0] 1 = some ([some (.ref 109)], [.int 6, .int x1, .ref b0]) from rfl)) hq22 ?_
  obtain ⟨s27, hc26, h⟩ := bu_so h
  have hq25 : Q 1 sio tt cc d 60 0 [some (.ref b0), some (.int x1), some (.int 6), some (.int r24)] [] s20 (.inl none, s27) := dt60 (by omega) hq18.1 hr21 hc26
  refine Q.callV (gC_vi zm95 (show zM95.2.2.2.2.2[23]? = some (38, 3, .invokevirtual 51, [0, 60, 3, 3]) from rfl) zm60 hr21.1 (hq18.1.tr hr21).1 rfl (show aCr 3 b0 [.int r24, .int 6, .int x1, .ref b0] 4 = some ([some (.ref b0), some (.int x1), some (.int 6), some (.int r24)], []) from rfl)) hq25 ?_
  have hr28 : aK s27 b0 3 := hq25.2.1.k hr21
  refine Q.run zm95 4 (i' := 28) (ls' := [some (.ref b0), some (.int x1), some (.ref 109)]) (st' := [.ref 109, .int 7, .int x1, .ref b0]) rfl ?_
  obtain ⟨r31, hc30, h⟩ := bu_so h
  have hq29 : Q 1 sio tt cc d 98 0 [some (.ref 109)] [] s27 (.inl (some (.int r31)), s27) := dt98 (by omega) hq25.1  hc30
  refine Q.callI (gC_vi zm95 (show zM95.2.2.2.2.2[28]? = some (46, 3, .invokevirtual 82, [0, 98, 0, 5]) from rfl) zm98 (hq25.1.lt (a := 109) (by decide)) (hq25.1.T (a := 109) (p := (5, 4)) 31 rfl rfl) rfl (show aCr 0 109 [.ref 109, .int 7, .int x1, .ref b0] 1 = some ([some (.ref 109)], [.int 7, .int x1, .ref b0]) from rfl)) hq29 ?_
  obtain ⟨s34, hc33, h⟩ := bu_so h
  have hq32 : Q 1 sio tt cc d 60 0 [some (.ref b0), some (.int x1), some (.int 7), some (.int r31)] [] s27 (.inl none, s34) := dt60 (by omega) hq25.1 hr28 hc33
  refine Q.callV (gC_vi zm95 (show zM95.2.2.2.2.2[29]? = some (49, 3, .invokevirtual 51, [0, 60, 3, 3]) from rfl) zm60 hr28.1 (hq25.1.tr hr28).1 rfl (show aCr 3 b0 [.int r31, .int 7, .int x1, .ref b0] 4 = some ([some (.ref b0), some (.int x1), some (.int 7), some (.int r31)], []) from rfl)) hq32 ?_
  have hr35 : aK s34 b0 3 := hq32.2.1.k hr28
  cases h
  exact Q.ret (A.rv zm95 (show zM95.2.2.2.2.2[30]? = some (52, 1, .return_, []) from rfl) rfl) hq32.1
/-! 88 FormulaTrees$Reader.readReference()V -/
set_option maxRecDepth 100000 in
theorem zm88 : zP[88]? = some zM88 := rfl
def dm88 (s : aS) : Option (aS) :=
  bv (dm89 79 (sI s 106 7) s) fun r4 s3 =>
  if r4 = 0 then
    bu (dm93 s3) fun r8 =>
    nx (wI s3 106 8 r8) fun s9 =>
    some s9
  else
    bv (dm70 (sI s3 106 11) s3) fun r15 s14 =>
    if r15 = 0 then
      some s14
    else
      vN (sR s14 106 6) (
        none
      ) fun b18 =>
        if aK s14 b18 3 then
          bu (dm94 b18 s14) fun r22 =>
          vN (sR s14 106 6) (
            none
          ) fun b24 =>
            if aK s14 b24 3 then
              bu (dm72 b24 r22 4 0 s14) fun s28 =>
              vN (sR s28 106 6) (
                none
              ) fun b32 =>
                if aK s28 b32 3 then
                  bu (dm60 b32 r22 2 (sI s28 106 12) s28) fun s36 =>
                  vN (sR s36 106 6) (
                    none
                  ) fun b41 =>
                    if aK s36 b41 3 then
                      bu (dm95 b41 r22 s36) fun s45 =>
                      bu (dm81 r22 s45) fun s52 =>
                      nx (wI s52 106 9 5) fun s57 =>
                      bu (dm93 s57) fun r66 =>
                      nx (wI s57 106 7 r66) fun s67 =>
                      some s67
                    else none
                else none
            else none
        else none
set_option maxRecDepth 100000 in
theorem dt88 {sio : Bool} {tt : Nat} {cc : Nat → Nat → Int32} {d : Nat} (hd : 4 ≤ d) {s : aS} (hl : Ly tt cc s) {o : aS} (h : dm88  s = some o) : Q 1 sio tt cc d 88 0 [some (.ref 106), none] [] s (.inl none, o) := by
  unfold dm88 at h
  obtain ⟨d, rfl⟩ : ∃ e, d = e + 1 := ⟨d - 1, by omega⟩
  refine Q.run zm88 1 (i' := 1) (ls' := [some (.ref 106), none]) (st' := [.ref 106]) rfl ?_
  refine Q.map (A.gf (gI_of zm88 (e := (1, 3, .getfield 23, [4, 3])) rfl) (hl.lt (a := 106) (by decide)) (hl.T (a := 106) (p := (4, 13)) 28 rfl rfl) (by decide) (hl.R 11 rfl)) ?_
  refine Q.run zm88 1 (i' := 3) (ls' := [some (.ref 106), none]) (st' := [.ref 106, .ref 109]) rfl ?_
  refine Q.map (A.gf (gI_of zm88 (e := (5, 3, .getfield 41, [4, 0])) rfl) (hl.lt (a := 106) (by decide)) (hl.T (a := 106) (p := (4, 13)) 28 rfl rfl) (by decide) (hl.R 8 rfl)) ?_
  refine Q.run zm88 1 (i' := 5) (ls' := [some (.ref 106), none]) (st' := [.ref 106, .ref 79, .ref 109]) rfl ?_
  refine Q.map (A.gf (gI_of zm88 (e := (9, 3, .getfield 61, [4, 7])) rfl) (hl.lt (a := 106) (by decide)) (hl.T (a := 106) (p := (4, 13)) 28 rfl rfl) (by decide) rfl) ?_
  obtain ⟨r4, s3, hc2, h⟩ := bv_so h
  have hq1 : Q 1 sio tt cc d 89 0 [some (.ref 109), some (.ref 79), some (.int (sI s 106 7))] [] s (.inl (some (.int r4)), s3) := dt89 (by omega) hl (hl.Kd (a := 79) (c := 1) (n := 2) 1 rfl rfl (by decide)) hc2
  refine Q.callI (gC_vi zm88 (show zM88.2.2.2.2.2[6]? = some (12, 3, .invokevirtual 251, [0, 89, 2, 5]) from rfl) zm89 (hl.lt (a := 109) (by decide)) (hl.T (a := 109) (p := (5, 4)) 31 rfl rfl) rfl (show aCr 2 109 [.int (sI s 106 7), .ref 79, .ref 109] 3 = some ([some (.ref 109), some (.ref 79), some (.int (sI s 106 7))], []) from rfl)) hq1 ?_
  by_cases hc5 : r4 = 0
  · rw [if_pos hc5] at h
    refine Q.map (A.zF (gI_of zm88 (e := (15, 3, .ifCond .ne 17, [14])) rfl) (fun q => of_decide_eq_true q hc5)) ?_
    refine Q.run zm88 2 (i' := 10) (ls' := [some (.ref 106), none]) (st' := [.ref 106, .ref 106]) rfl ?_
    refine Q.map (A.gf (gI_of zm88 (e := (20, 3, .getfield 23, [4, 3])) rfl) (hq1.1.lt (a := 106) (by decide)) (hq1.1.T (a := 106) (p := (4, 13)) 28 rfl rfl) (by decide) (hq1.1.R 11 rfl)) ?_
    obtain ⟨r8, hc7, h⟩ := bu_so h
    have hq6 : Q 1 sio tt cc d 93 0 [some (.ref 109)] [] s3 (.inl (some (.int r8)), s3) := dt93 (by omega) hq1.1  hc7
    refine Q.callI (gC_vi zm88 (show zM88.2.2.2.2.2[11]? = some (23, 3, .invokevirtual 255, [0, 93, 0, 5]) from rfl) zm93 (hq1.1.lt (a := 109) (by decide)) (hq1.1.T (a := 109) (p := (5, 4)) 31 rfl rfl) rfl (show aCr 0 109 [.ref 109, .ref 106] 1 = some ([some (.ref 109)], [.ref 106]) from rfl)) hq6 ?_
    obtain ⟨s9, hs10, h⟩ := nx_so h
    refine Q.pf hs10 rfl (gI_of zm88 (e := (26, 3, .putfield 65, [4, 8, 0])) rfl) (hq1.1.lt (a := 106) (by decide)) (by decide) (hq1.1.T (a := 106) (p := (4, 13)) 28 rfl rfl) (by decide) rfl rfl ?_
    have hl11 : Ly tt cc s9 := by rw [hs10]; exact hq1.1.wId (by decide)
    refine Q.run zm88 1 (i' := 53) (ls' := [some (.ref 106), none]) (st' := []) rfl ?_
    cases h
    exact Q.ret (A.rv zm88 (show zM88.2.2.2.2.2[53]? = some (107, 1, .return_, []) from rfl) rfl) hl11
  · rw [if_neg hc5] at h
    refine Q.map (A.zT (gI_of zm88 (e := (15, 3, .ifCond .ne 17, [14])) rfl) (decide_eq_true hc5)) ?_
    refine Q.run zm88 2 (i' := 16) (ls' := [some (.ref 106), none]) (st' := [.ref 106, .ref 106]) rfl ?_
    refine Q.map (A.gf (gI_of zm88 (e := (34, 3, .getfield 271, [4, 11])) rfl) (hq1.1.lt (a := 106) (by decide)) (hq1.1.T (a := 106) (p := (4, 13)) 28 rfl rfl) (by decide) rfl) ?_
    obtain ⟨r15, s14, hc13, h⟩ := bv_so h
    have hq12 : Q 1 sio tt cc d 70 0 [some (.ref 106), some (.int (sI s3 106 11)), none] [] s3 (.inl (some (.int r15)), s14) := dt70 (by omega) hq1.1  hc13
    refine Q.callI (gC_vi zm88 (show zM88.2.2.2.2.2[17]? = some (37, 3, .invokevirtual 144, [0, 70, 1, 4]) from rfl) zm70 (hq1.1.lt (a := 106) (by decide)) (hq1.1.T (a := 106) (p := (4, 13)) 28 rfl rfl) rfl (show aCr 1 106 [.int (sI s3 106 11), .ref 106] 3 = some ([some (.ref 106), some (.int (sI s3 106 11)), none], []) from rfl)) hq12 ?_
    by_cases hc16 : r15 = 0
    · rw [if_pos hc16] at h
      refine Q.map (A.zT (gI_of zm88 (e := (40, 3, .ifCond .eq 67, [53])) rfl) (decide_eq_true hc16)) ?_
      cases h
      exact Q.ret (A.rv zm88 (show zM88.2.2.2.2.2[53]? = some (107, 1, .return_, []) from rfl) rfl) hq12.1
    · rw [if_neg hc16] at h
      refine Q.map (A.zF (gI_of zm88 (e := (40, 3, .ifCond .eq 67, [53])) rfl) (fun q => hc16 (of_decide_eq_true q))) ?_
      refine Q.run zm88 1 (i' := 20) (ls' := [some (.ref 106), none]) (st' := [.ref 106]) rfl ?_
      rcases vN_so h with ⟨hv17, h⟩ | ⟨b18, hv17, h⟩
      · refine Q.map (A.gf (gI_of zm88 (e := (44, 3, .getfield 48, [4, 6])) rfl) (hq12.1.lt (a := 106) (by decide)) (hq12.1.T (a := 106) (p := (4, 13)) 28 rfl rfl) (by decide) hv17) ?_
        cases h
      · obtain ⟨hr19, h⟩ := ite_so h
        refine Q.map (A.gf (gI_of zm88 (e := (44, 3, .getfield 48, [4, 6])) rfl) (hq12.1.lt (a := 106) (by decide)) (hq12.1.T (a := 106) (p := (4, 13)) 28 rfl rfl) (by decide) hv17) ?_
        obtain ⟨r22, hc21, h⟩ := bu_so h
        have hq20 : Q 1 sio tt cc d 94 0 [some (.ref b18)] [] s14 (.inl (some (.int r22)), s14) := dt94 (by omega) hq12.1 hr19 hc21
        refine Q.callI (gC_vi zm88 (show zM88.2.2.2.2.2[21]? = some (47, 3, .invokevirtual 116, [0, 94, 0, 3]) from rfl) zm94 hr19.1 (hq12.1.tr hr19).1 rfl (show aCr 0 b18 [.ref b18] 1 = some ([some (.ref b18)], []) from rfl)) hq20 ?_
        refine Q.run zm88 2 (i' := 24) (ls' := [some (.ref 106), some (.int r22)]) (st' := [.ref 106]) rfl ?_
        rcases vN_so h with ⟨hv23, h⟩ | ⟨b24, hv23, h⟩
        · refine Q.map (A.gf (gI_of zm88 (e := (52, 3, .getfield 48, [4, 6])) rfl) (hq12.1.lt (a := 106) (by decide)) (hq12.1.T (a := 106) (p := (4, 13)) 28 rfl rfl) (by decide) hv23) ?_
          refine Q.run zm88 3 (i' := 28) (ls' := [some (.ref 106), some (.int r22)]) (st' := [.int 0, .int 4, .int r22, .null]) rfl ?_
          cases h
        · obtain ⟨hr25, h⟩ := ite_so h
          refine Q.map (A.gf (gI_of zm88 (e := (52, 3, .getfield 48, [4, 6])) rfl) (hq12.1.lt (a := 106) (by decide)) (hq12.1.T (a := 106) (p := (4, 13)) 28 rfl rfl) (by decide) hv23) ?_
          refine Q.run zm88 3 (i' := 28) (ls' := [some (.ref 106), some (.int r22)]) (st' := [.int 0, .int 4, .int r22, .ref b24]) rfl ?_
          obtain ⟨s28, hc27, h⟩ := bu_so h
          have hq26 : Q 1 sio tt cc d 72 0 [some (.ref b24), some (.int r22), some (.int 4), some (.int 0), none] [] s14 (.inl none, s28) := dt72 (by omega) hq12.1 hr25 hc27
          refine Q.callV (gC_vi zm88 (show zM88.2.2.2.2.2[28]? = some (58, 3, .invokevirtual 150, [0, 72, 3, 3]) from rfl) zm72 hr25.1 (hq12.1.tr hr25).1 rfl (show aCr 3 b24 [.int 0, .int 4, .int r22, .ref b24] 5 = some ([some (.ref b24), some (.int r22), some (.int 4), some (.int 0), none], []) from rfl)) hq26 ?_
          have hr29 : aK s28 b18 3 := hq26.2.1.k hr19
          have hr30 : aK s28 b24 3 := hq26.2.1.k hr25
          refine Q.run zm88 1 (i' := 30) (ls' := [some (.ref 106), some (.int r22)]) (st' := [.ref 106]) rfl ?_
          rcases vN_so h with ⟨hv31, h⟩ | ⟨b32, hv31, h⟩
          · refine Q.map (A.gf (gI_of zm88 (e := (62, 3, .getfield 48, [4, 6])) rfl) (hq26.1.lt (a := 106) (by decide)) (hq26.1.T (a := 106) (p := (4, 13)) 28 rfl rfl) (by decide) hv31) ?_
            refine Q.run zm88 3 (i' := 34) (ls' := [some (.ref 106), some (.int r22)]) (st' := [.ref 106, .int 2, .int r22, .null]) rfl ?_
            refine Q.map (A.gf (gI_of zm88 (e := (68, 3, .getfield 274, [4, 12])) rfl) (hq26.1.lt (a := 106) (by decide)) (hq26.1.T (a := 106) (p := (4, 13)) 28 rfl rfl) (by decide) rfl) ?_
            cases h
          · obtain ⟨hr33, h⟩ := ite_so h
            refine Q.map (A.gf (gI_of zm88 (e := (62, 3, .getfield 48, [4, 6])) rfl) (hq26.1.lt (a := 106) (by decide)) (hq26.1.T (a := 106) (p := (4, 13)) 28 rfl rfl) (by decide) hv31) ?_
            refine Q.run zm88 3 (i' := 34) (ls' := [some (.ref 106), some (.int r22)]) (st' := [.ref 106, .int 2, .int r22, .ref b32]) rfl ?_
            refine Q.map (A.gf (gI_of zm88 (e := (68, 3, .getfield 274, [4, 12])) rfl) (hq26.1.lt (a := 106) (by decide)) (hq26.1.T (a := 106) (p := (4, 13)) 28 rfl rfl) (by decide) rfl) ?_
            obtain ⟨s36, hc35, h⟩ := bu_so h
            have hq34 : Q 1 sio tt cc d 60 0 [some (.ref b32), some (.int r22), some (.int 2), some (.int (sI s28 106 12))] [] s28 (.inl none, s36) := dt60 (by omega) hq26.1 hr33 hc35
            refine Q.callV (gC_vi zm88 (show zM88.2.2.2.2.2[35]? = some (71, 3, .invokevirtual 180, [0, 60, 3, 3]) from rfl) zm60 hr33.1 (hq26.1.tr hr33).1 rfl (show aCr 3 b32 [.int (sI s28 106 12), .int 2, .int r22, .ref b32] 4 = some ([some (.ref b32), some (.int r22), some (.int 2), some (.int (sI s28 106 12))], []) from rfl)) hq34 ?_
            have hr37 : aK s36 b18 3 := hq34.2.1.k hr29
            have hr38 : aK s36 b24 3 := hq34.2.1.k hr30
            have hr39 : aK s36 b32 3 := hq34.2.1.k hr33
            refine Q.run zm88 1 (i' := 37) (ls' := [some (.ref 106), some (.int r22)]) (st' := [.ref 106]) rfl ?_
            rcases vN_so h with ⟨hv40, h⟩ | ⟨b41, hv40, h⟩
            · refine Q.map (A.gf (gI_of zm88 (e := (75, 3, .getfield 48, [4, 6])) rfl) (hq34.1.lt (a := 106) (by decide)) (hq34.1.T (a := 106) (p := (4, 13)) 28 rfl rfl) (by decide) hv40) ?_
              refine Q.run zm88 2 (i' := 40) (ls' := [some (.ref 106), some (.int r22)]) (st' := [.ref 106, .int r22, .null]) rfl ?_
              refine Q.map (A.gf (gI_of zm88 (e := (80, 3, .getfield 23, [4, 3])) rfl) (hq34.1.lt (a := 106) (by decide)) (hq34.1.T (a := 106) (p := (4, 13)) 28 rfl rfl) (by decide) (hq34.1.R 11 rfl)) ?_
              cases h
            · obtain ⟨hr42, h⟩ := ite_so h
              refine Q.map (A.gf (gI_of zm88 (e := (75, 3, .getfield 48, [4, 6])) rfl) (hq34.1.lt (a := 106) (by decide)) (hq34.1.T (a := 106) (p := (4, 13)) 28 rfl rfl) (by decide) hv40) ?_
              refine Q.run zm88 2 (i' := 40) (ls' := [some (.ref 106), some (.int r22)]) (st' := [.ref 106, .int r22, .ref b41]) rfl ?_
              refine Q.map (A.gf (gI_of zm88 (e := (80, 3, .getfield 23, [4, 3])) rfl) (hq34.1.lt (a := 106) (by decide)) (hq34.1.T (a := 106) (p := (4, 13)) 28 rfl rfl) (by decide) (hq34.1.R 11 rfl)) ?_
              obtain ⟨s45, hc44, h⟩ := bu_so h
              have hq43 : Q 1 sio tt cc d 95 0 [some (.ref b41), some (.int r22), some (.ref 109)] [] s36 (.inl none, s45) := dt95 (by omega) hq34.1 hr42 hc44
              refine Q.callV (gC_vi zm88 (show zM88.2.2.2.2.2[41]? = some (83, 3, .invokevirtual 277, [0, 95, 2, 3]) from rfl) zm95 hr42.1 (hq34.1.tr hr42).1 rfl (show aCr 2 b41 [.ref 109, .int r22, .ref b41] 3 = some ([some (.ref b41), some (.int r22), some (.ref 109)], []) from rfl)) hq43 ?_
              have hr46 : aK s45 b18 3 := hq43.2.1.k hr37
              have hr47 : aK s45 b24 3 := hq43.2.1.k hr38
              have hr48 : aK s45 b32 3 := hq43.2.1.k hr39
              have hr49 : aK s45 b41 3 := hq43.2.1.k hr42
              refine Q.run zm88 2 (i' := 44) (ls' := [some (.ref 106), some (.int r22)]) (st' := [.int r22, .ref 106]) rfl ?_
              obtain ⟨s52, hc51, h⟩ := bu_so h
              have hq50 : Q 1 sio tt cc d 81 0 [some (.ref 106), some (.int r22)] [] s45 (.inl none, s52) := dt81 (by omega) hq43.1  hc51
              refine Q.callV (gC_vi zm88 (show zM88.2.2.2.2.2[44]? = some (88, 3, .invokevirtual 186, [0, 81, 1, 4]) from rfl) zm81 (hq43.1.lt (a := 106) (by decide)) (hq43.1.T (a := 106) (p := (4, 13)) 28 rfl rfl) rfl (show aCr 1 106 [.int r22, .ref 106] 2 = some ([some (.ref 106), some (.int r22)], []) from rfl)) hq50 ?_
              have hr53 : aK s52 b18 3 := hq50.2.1.k hr46
              have hr54 : aK s52 b24 3 := hq50.2.1.k hr47
              have hr55 : aK s52 b32 3 := hq50.2.1.k hr48
              have hr56 : aK s52 b41 3 := hq50.2.1.k hr49
              refine Q.run zm88 2 (i' := 47) (ls' := [some (.ref 106), some (.int r22)]) (st' := [.int 5, .ref 106]) rfl ?_
              obtain ⟨s57, hs58, h⟩ := nx_so h
              refine Q.pf hs58 rfl (gI_of zm88 (e := (93, 3, .putfield 68, [4, 9, 0])) rfl) (hq50.1.lt (a := 106) (by decide)) (by decide) (hq50.1.T (a := 106) (p := (4, 13)) 28 rfl rfl) (by decide) rfl rfl ?_
              have hl59 : Ly tt cc s57 := by rw [hs58]; exact hq50.1.wId (by decide)
              have hr60 : aK s57 b18 3 := by rw [hs58]; exact hr53
              have hr61 : aK s57 b24 3 := by rw [hs58]; exact hr54
              have hr62 : aK s57 b32 3 := by rw [hs58]; exact hr55
              have hr63 : aK s57 b41 3 := by rw [hs58]; exact hr56
              refine Q.run zm88 2 (i' := 50) (ls' := [some (.ref 106), some (.int r22)]) (st' := [.ref 106, .ref 106]) rfl ?_
              refine Q.map (A.gf (gI_of zm88 (e := (98, 3, .getfield 23, [4, 3])) rfl) (hl59.lt (a := 106) (by decide)) (hl59.T (a := 106) (p := (4, 13)) 28 rfl rfl) (by decide) (hl59.R 11 rfl)) ?_
              obtain ⟨r66, hc65, h⟩ := bu_so h
              have hq64 : Q 1 sio tt cc d 93 0 [some (.ref 109)] [] s57 (.inl (some (.int r66)), s57) := dt93 (by omega) hl59  hc65
              refine Q.callI (gC_vi zm88 (show zM88.2.2.2.2.2[51]? = some (101, 3, .invokevirtual 255, [0, 93, 0, 5]) from rfl) zm93 (hl59.lt (a := 109) (by decide)) (hl59.T (a := 109) (p := (5, 4)) 31 rfl rfl) rfl (show aCr 0 109 [.ref 109, .ref 106] 1 = some ([some (.ref 109)], [.ref 106]) from rfl)) hq64 ?_
              obtain ⟨s67, hs68, h⟩ := nx_so h
              refine Q.pf hs68 rfl (gI_of zm88 (e := (104, 3, .putfield 61, [4, 7, 0])) rfl) (hl59.lt (a := 106) (by decide)) (by decide) (hl59.T (a := 106) (p := (4, 13)) 28 rfl rfl) (by decide) rfl rfl ?_
              have hl69 : Ly tt cc s67 := by rw [hs68]; exact hl59.wId (by decide)
              have hr70 : aK s67 b18 3 := by rw [hs68]; exact hr60
              have hr71 : aK s67 b24 3 := by rw [hs68]; exact hr61
              have hr72 : aK s67 b32 3 := by rw [hs68]; exact hr62
              have hr73 : aK s67 b41 3 := by rw [hs68]; exact hr63
              cases h
              exact Q.ret (A.rv zm88 (show zM88.2.2.2.2.2[53]? = some (107, 1, .return_, []) from rfl) rfl) hl69
end
section
/-! 102 FormulaTrees$Tree.exchange(II)V -/
set_option maxRecDepth 100000 in
theorem zm102 : zP[102]? = some zM102 := rfl
def dm102_28 (b0 : Nat) (x1 : Int32) (y0 : Int32) (s : aS) : Option (aS) :=
  bu (dm57 b0 x1 7 s) fun r3 =>
  bu (dm60 b0 x1 7 (((r3 &&& ((y0 * 5) ^^^ (-1))) + ((r3 &&& y0) * 4)) + ((r3 &&& (y0 * 4)) / 4)) s) fun s6 =>
  some s6
set_option maxRecDepth 100000 in
theorem dt102_28 {sio : Bool} {tt : Nat} {cc : Nat → Nat → Int32} {d : Nat} (hd : 1 ≤ d) {b0 : Nat} {x1 : Int32} {y0 : Int32} {x2 : Int32} {x3 : Int32} {s : aS} (hl : Ly tt cc s) (hk_b0 : aK s b0 3) {o : aS} (h : dm102_28  b0 x1 y0 s = some o) : Q 1 sio tt cc d 102 28 [some (.ref b0), some (.int x1), some (.int x2), some (.int x3), none, none, none] [.int y0] s (.inl none, o) := by
  unfold dm102_28 at h
  obtain ⟨d, rfl⟩ : ∃ e, d = e + 1 := ⟨d - 1, by omega⟩
  refine Q.run zm102 4 (i' := 32) (ls' := [some (.ref b0), some (.int x1), some (.int x2), some (.int x3), some (.int y0), none, none]) (st' := [.int 7, .int x1, .ref b0]) rfl ?_
  obtain ⟨r3, hc2, h⟩ := bu_so h
  have hq1 : Q 1 sio tt cc d 57 0 [some (.ref b0), some (.int x1), some (.int 7), none] [] s (.inl (some (.int r3)), s) := dt57 (by omega) hl hk_b0 hc2
  refine Q.callI (gC_vi zm102 (show zM102.2.2.2.2.2[32]? = some (46, 3, .invokevirtual 28, [0, 57, 2, 3]) from rfl) zm57 hk_b0.1 (hl.tr hk_b0).1 rfl (show aCr 2 b0 [.int 7, .int x1, .ref b0] 4 = some ([some (.ref b0), some (.int x1), some (.int 7), none], []) from rfl)) hq1 ?_
  refine Q.run zm102 27 (i' := 60) (ls' := [some (.ref b0), some (.int x1), some (.int x2), some (.int x3), some (.int y0), some (.int r3), some (.int (r3 &&& ((y0 * 5) ^^^ (-1))))]) (st' := [.int (((r3 &&& ((y0 * 5) ^^^ (-1))) + ((r3 &&& y0) * 4)) + ((r3 &&& (y0 * 4)) / 4)), .int 7, .int x1, .ref b0]) rfl ?_
  obtain ⟨s6, hc5, h⟩ := bu_so h
  have hq4 : Q 1 sio tt cc d 60 0 [some (.ref b0), some (.int x1), some (.int 7), some (.int (((r3 &&& ((y0 * 5) ^^^ (-1))) + ((r3 &&& y0) * 4)) + ((r3 &&& (y0 * 4)) / 4)))] [] s (.inl none, s6) := dt60 (by omega) hl hk_b0 hc5
  refine Q.callV (gC_vi zm102 (show zM102.2.2.2.2.2[60]? = some (86, 3, .invokevirtual 51, [0, 60, 3, 3]) from rfl) zm60 hk_b0.1 (hl.tr hk_b0).1 rfl (show aCr 3 b0 [.int (((r3 &&& ((y0 * 5) ^^^ (-1))) + ((r3 &&& y0) * 4)) + ((r3 &&& (y0 * 4)) / 4)), .int 7, .int x1, .ref b0] 4 = some ([some (.ref b0), some (.int x1), some (.int 7), some (.int (((r3 &&& ((y0 * 5) ^^^ (-1))) + ((r3 &&& y0) * 4)) + ((r3 &&& (y0 * 4)) / 4)))], []) from rfl)) hq4 ?_
  have hr7 : aK s6 b0 3 := hq4.2.1.k hk_b0
  cases h
  exact Q.ret (A.rv zm102 (show zM102.2.2.2.2.2[61]? = some (89, 1, .return_, []) from rfl) rfl) hq4.1
def dm102 (b0 : Nat) (x1 : Int32) (x2 : Int32) (s : aS) : Option (aS) :=
  bu (dm57 b0 x1 x2 s) fun r3 =>
  bu (dm57 b0 x1 (x2 + 2) s) fun r6 =>
  bu (dm60 b0 x1 x2 r6 s) fun s9 =>
  bu (dm60 b0 x1 (x2 + 2) r3 s9) fun s13 =>
  if x2 = 3 then
    dm102_28 b0 x1 1 s13
  else
    dm102_28 b0 x1 2 s13
set_option maxRecDepth 100000 in
theorem dt102 {sio : Bool} {tt : Nat} {cc : Nat → Nat → Int32} {d : Nat} (hd : 1 ≤ d) {b0 : Nat} {x1 : Int32} {x2 : Int32} {s : aS} (hl : Ly tt cc s) (hk_b0 : aK s b0 3) {o : aS} (h : dm102  b0 x1 x2 s = some o) : Q 1 sio tt cc d 102 0 [some (.ref b0), some (.int x1), some (.int x2), none, none, none, none] [] s (.inl none, o) := by
  unfold dm102 at h
  obtain ⟨d, rfl⟩ : ∃ e, d = e + 1 := ⟨d - 1, by omega⟩
  refine Q.run zm102 3 (i' := 3) (ls' := [some (.ref b0), some (.int x1), some (.int x2), none, none, none, none]) (st' := [.int x2, .int x1, .ref b0]) rfl ?_
  obtain ⟨r3, hc2, h⟩ := bu_so h
  have hq1 : Q 1 sio tt cc d 57 0 [some (.ref b0), some (.int x1), some (.int x2), none] [] s (.inl (some (.int r3)), s) := dt57 (by omega) hl hk_b0 hc2
  refine Q.callI (gC_vi zm102 (show zM102.2.2.2.2.2[3]? = some (3, 3, .invokevirtual 28, [0, 57, 2, 3]) from rfl) zm57 hk_b0.1 (hl.tr hk_b0).1 rfl (show aCr 2 b0 [.int x2, .int x1, .ref b0] 4 = some ([some (.ref b0), some (.int x1), some (.int x2), none], []) from rfl)) hq1 ?_
  refine Q.run zm102 9 (i' := 13) (ls' := [some (.ref b0), some (.int x1), some (.int x2), some (.int r3), none, none, none]) (st' := [.int (x2 + 2), .int x1, .ref b0, .int x2, .int x1, .ref b0]) rfl ?_
  obtain ⟨r6, hc5, h⟩ := bu_so h
  have hq4 : Q 1 sio tt cc d 57 0 [some (.ref b0), some (.int x1), some (.int (x2 + 2)), none] [] s (.inl (some (.int r6)), s) := dt57 (by omega) hl hk_b0 hc5
  refine Q.callI (gC_vi zm102 (show zM102.2.2.2.2.2[13]? = some (15, 3, .invokevirtual 28, [0, 57, 2, 3]) from rfl) zm57 hk_b0.1 (hl.tr hk_b0).1 rfl (show aCr 2 b0 [.int (x2 + 2), .int x1, .ref b0, .int x2, .int x1, .ref b0] 4 = some ([some (.ref b0), some (.int x1), some (.int (x2 + 2)), none], [.int x2, .int x1, .ref b0]) from rfl)) hq4 ?_
  obtain ⟨s9, hc8, h⟩ := bu_so h
  have hq7 : Q 1 sio tt cc d 60 0 [some (.ref b0), some (.int x1), some (.int x2), some (.int r6)] [] s (.inl none, s9) := dt60 (by omega) hl hk_b0 hc8
  refine Q.callV (gC_vi zm102 (show zM102.2.2.2.2.2[14]? = some (18, 3, .invokevirtual 51, [0, 60, 3, 3]) from rfl) zm60 hk_b0.1 (hl.tr hk_b0).1 rfl (show aCr 3 b0 [.int r6, .int x2, .int x1, .ref b0] 4 = some ([some (.ref b0), some (.int x1), some (.int x2), some (.int r6)], []) from rfl)) hq7 ?_
  have hr10 : aK s9 b0 3 := hq7.2.1.k hk_b0
  refine Q.run zm102 6 (i' := 21) (ls' := [some (.ref b0), some (.int x1), some (.int x2), some (.int r3), none, none, none]) (st' := [.int r3, .int (x2 + 2), .int x1, .ref b0]) rfl ?_
  obtain ⟨s13, hc12, h⟩ := bu_so h
  have hq11 : Q 1 sio tt cc d 60 0 [some (.ref b0), some (.int x1), some (.int (x2 + 2)), some (.int r3)] [] s9 (.inl none, s13) := dt60 (by omega) hq7.1 hr10 hc12
  refine Q.callV (gC_vi zm102 (show zM102.2.2.2.2.2[21]? = some (27, 3, .invokevirtual 51, [0, 60, 3, 3]) from rfl) zm60 hr10.1 (hq7.1.tr hr10).1 rfl (show aCr 3 b0 [.int r3, .int (x2 + 2), .int x1, .ref b0] 4 = some ([some (.ref b0), some (.int x1), some (.int (x2 + 2)), some (.int r3)], []) from rfl)) hq11 ?_
  have hr14 : aK s13 b0 3 := hq11.2.1.k hr10
  refine Q.run zm102 2 (i' := 24) (ls' := [some (.ref b0), some (.int x1), some (.int x2), some (.int r3), none, none, none]) (st' := [.int 3, .int x2]) rfl ?_
  by_cases hc15 : x2 = 3
  · rw [if_pos hc15] at h
    refine Q.map (A.bF (gI_of zm102 (e := (32, 3, .if_icmp .ne 7, [27])) rfl) (fun q => of_decide_eq_true q hc15)) ?_
    refine Q.run zm102 2 (i' := 28) (ls' := [some (.ref b0), some (.int x1), some (.int x2), some (.int r3), none, none, none]) (st' := [.int 1]) rfl ?_
    exact dt102_28 hd hq11.1 hr14 h
  · rw [if_neg hc15] at h
    refine Q.map (A.bT (gI_of zm102 (e := (32, 3, .if_icmp .ne 7, [27])) rfl) (decide_eq_true hc15)) ?_
    refine Q.run zm102 1 (i' := 28) (ls' := [some (.ref b0), some (.int x1), some (.int x2), some (.int r3), none, none, none]) (st' := [.int 2]) rfl ?_
    exact dt102_28 hd hq11.1 hr14 h
/-! 101 FormulaTrees$Tree.putInOrder(I)V -/
set_option maxRecDepth 100000 in
theorem zm101 : zP[101]? = some zM101 := rfl
def dm101_13 (b0 : Nat) (x1 : Int32) (s : aS) : Option (aS) :=
  bu (dm57 b0 x1 4 s) fun r3 =>
  bu (dm57 b0 x1 6 s) fun r6 =>
  if r3 ≤ r6 then
    some s
  else
    bu (dm102 b0 x1 4 s) fun s10 =>
    some s10
set_option maxRecDepth 100000 in
theorem dt101_13 {sio : Bool} {tt : Nat} {cc : Nat → Nat → Int32} {d : Nat} (hd : 2 ≤ d) {b0 : Nat} {x1 : Int32} {s : aS} (hl : Ly tt cc s) (hk_b0 : aK s b0 3) {o : aS} (h : dm101_13  b0 x1 s = some o) : Q 1 sio tt cc d 101 13 [some (.ref b0), some (.int x1)] [] s (.inl none, o) := by
  unfold dm101_13 at h
  obtain ⟨d, rfl⟩ : ∃ e, d = e + 1 := ⟨d - 1, by omega⟩
  refine Q.run zm101 3 (i' := 16) (ls' := [some (.ref b0), some (.int x1)]) (st' := [.int 4, .int x1, .ref b0]) rfl ?_
  obtain ⟨r3, hc2, h⟩ := bu_so h
  have hq1 : Q 1 sio tt cc d 57 0 [some (.ref b0), some (.int x1), some (.int 4), none] [] s (.inl (some (.int r3)), s) := dt57 (by omega) hl hk_b0 hc2
  refine Q.callI (gC_vi zm101 (show zM101.2.2.2.2.2[16]? = some (24, 3, .invokevirtual 28, [0, 57, 2, 3]) from rfl) zm57 hk_b0.1 (hl.tr hk_b0).1 rfl (show aCr 2 b0 [.int 4, .int x1, .ref b0] 4 = some ([some (.ref b0), some (.int x1), some (.int 4), none], []) from rfl)) hq1 ?_
  refine Q.run zm101 3 (i' := 20) (ls' := [some (.ref b0), some (.int x1)]) (st' := [.int 6, .int x1, .ref b0, .int r3]) rfl ?_
  obtain ⟨r6, hc5, h⟩ := bu_so h
  have hq4 : Q 1 sio tt cc d 57 0 [some (.ref b0), some (.int x1), some (.int 6), none] [] s (.inl (some (.int r6)), s) := dt57 (by omega) hl hk_b0 hc5
  refine Q.callI (gC_vi zm101 (show zM101.2.2.2.2.2[20]? = some (31, 3, .invokevirtual 28, [0, 57, 2, 3]) from rfl) zm57 hk_b0.1 (hl.tr hk_b0).1 rfl (show aCr 2 b0 [.int 6, .int x1, .ref b0, .int r3] 4 = some ([some (.ref b0), some (.int x1), some (.int 6), none], [.int r3]) from rfl)) hq4 ?_
  by_cases hc7 : r3 ≤ r6
  · rw [if_pos hc7] at h
    refine Q.map (A.bT (gI_of zm101 (e := (34, 3, .if_icmp .le 9, [26])) rfl) (decide_eq_true hc7)) ?_
    cases h
    exact Q.ret (A.rv zm101 (show zM101.2.2.2.2.2[26]? = some (43, 1, .return_, []) from rfl) rfl) hl
  · rw [if_neg hc7] at h
    refine Q.map (A.bF (gI_of zm101 (e := (34, 3, .if_icmp .le 9, [26])) rfl) (fun q => hc7 (of_decide_eq_true q))) ?_
    refine Q.run zm101 3 (i' := 25) (ls' := [some (.ref b0), some (.int x1)]) (st' := [.int 4, .int x1, .ref b0]) rfl ?_
    obtain ⟨s10, hc9, h⟩ := bu_so h
    have hq8 : Q 1 sio tt cc d 102 0 [some (.ref b0), some (.int x1), some (.int 4), none, none, none, none] [] s (.inl none, s10) := dt102 (by omega) hl hk_b0 hc9
    refine Q.callV (gC_vi zm101 (show zM101.2.2.2.2.2[25]? = some (40, 3, .invokevirtual 88, [0, 102, 2, 3]) from rfl) zm102 hk_b0.1 (hl.tr hk_b0).1 rfl (show aCr 2 b0 [.int 4, .int x1, .ref b0] 7 = some ([some (.ref b0), some (.int x1), some (.int 4), none, none, none, none], []) from rfl)) hq8 ?_
    have hr11 : aK s10 b0 3 := hq8.2.1.k hk_b0
    cases h
    exact Q.ret (A.rv zm101 (show zM101.2.2.2.2.2[26]? = some (43, 1, .return_, []) from rfl) rfl) hq8.1
def dm101 (b0 : Nat) (x1 : Int32) (s : aS) : Option (aS) :=
  bu (dm57 b0 x1 3 s) fun r3 =>
  bu (dm57 b0 x1 5 s) fun r6 =>
  if r3 ≤ r6 then
    dm101_13 b0 x1 s
  else
    bu (dm102 b0 x1 3 s) fun s10 =>
    dm101_13 b0 x1 s10
set_option maxRecDepth 100000 in
theorem dt101 {sio : Bool} {tt : Nat} {cc : Nat → Nat → Int32} {d : Nat} (hd : 2 ≤ d) {b0 : Nat} {x1 : Int32} {s : aS} (hl : Ly tt cc s) (hk_b0 : aK s b0 3) {o : aS} (h : dm101  b0 x1 s = some o) : Q 1 sio tt cc d 101 0 [some (.ref b0), some (.int x1)] [] s (.inl none, o) := by
  unfold dm101 at h
  obtain ⟨d, rfl⟩ : ∃ e, d = e + 1 := ⟨d - 1, by omega⟩
  refine Q.run zm101 3 (i' := 3) (ls' := [some (.ref b0), some (.int x1)]) (st' := [.int 3, .int x1, .ref b0]) rfl ?_
  obtain ⟨r3, hc2, h⟩ := bu_so h
  have hq1 : Q 1 sio tt cc d 57 0 [some (.ref b0), some (.int x1), some (.int 3), none] [] s (.inl (some (.int r3)), s) := dt57 (by omega) hl hk_b0 hc2
  refine Q.callI (gC_vi zm101 (show zM101.2.2.2.2.2[3]? = some (3, 3, .invokevirtual 28, [0, 57, 2, 3]) from rfl) zm57 hk_b0.1 (hl.tr hk_b0).1 rfl (show aCr 2 b0 [.int 3, .int x1, .ref b0] 4 = some ([some (.ref b0), some (.int x1), some (.int 3), none], []) from rfl)) hq1 ?_
  refine Q.run zm101 3 (i' := 7) (ls' := [some (.ref b0), some (.int x1)]) (st' := [.int 5, .int x1, .ref b0, .int r3]) rfl ?_
  obtain ⟨r6, hc5, h⟩ := bu_so h
  have hq4 : Q 1 sio tt cc d 57 0 [some (.ref b0), some (.int x1), some (.int 5), none] [] s (.inl (some (.int r6)), s) := dt57 (by omega) hl hk_b0 hc5
  refine Q.callI (gC_vi zm101 (show zM101.2.2.2.2.2[7]? = some (9, 3, .invokevirtual 28, [0, 57, 2, 3]) from rfl) zm57 hk_b0.1 (hl.tr hk_b0).1 rfl (show aCr 2 b0 [.int 5, .int x1, .ref b0, .int r3] 4 = some ([some (.ref b0), some (.int x1), some (.int 5), none], [.int r3]) from rfl)) hq4 ?_
  by_cases hc7 : r3 ≤ r6
  · rw [if_pos hc7] at h
    refine Q.map (A.bT (gI_of zm101 (e := (12, 3, .if_icmp .le 9, [13])) rfl) (decide_eq_true hc7)) ?_
    exact dt101_13 hd hl hk_b0 h
  · rw [if_neg hc7] at h
    refine Q.map (A.bF (gI_of zm101 (e := (12, 3, .if_icmp .le 9, [13])) rfl) (fun q => hc7 (of_decide_eq_true q))) ?_
    refine Q.run zm101 3 (i' := 12) (ls' := [some (.ref b0), some (.int x1)]) (st' := [.int 3, .int x1, .ref b0]) rfl ?_
    obtain ⟨s10, hc9, h⟩ := bu_so h
    have hq8 : Q 1 sio tt cc d 102 0 [some (.ref b0), some (.int x1), some (.int 3), none, none, none, none] [] s (.inl none, s10) := dt102 (by omega) hl hk_b0 hc9
    refine Q.callV (gC_vi zm101 (show zM101.2.2.2.2.2[12]? = some (18, 3, .invokevirtual 88, [0, 102, 2, 3]) from rfl) zm102 hk_b0.1 (hl.tr hk_b0).1 rfl (show aCr 2 b0 [.int 3, .int x1, .ref b0] 7 = some ([some (.ref b0), some (.int x1), some (.int 3), none, none, none, none], []) from rfl)) hq8 ?_
    have hr11 : aK s10 b0 3 := hq8.2.1.k hk_b0
    exact dt101_13 hd hq8.1 hr11 h
/-! 100 FormulaTrees$Tree.becomeRange(ILFormulaTrees$CellReader;)V -/
set_option maxRecDepth 100000 in
theorem zm100 : zP[100]? = some zM100 := rfl
def dm100 (b0 : Nat) (x1 : Int32) (s : aS) : Option (aS) :=
  bu (dm60 b0 x1 0 5 s) fun s3 =>
  bu (dm96 s3) fun r7 =>
  bu (dm60 b0 x1 5 r7 s3) fun s10 =>
  bu (dm97 s10) fun r14 =>
  bu (dm60 b0 x1 6 r14 s10) fun s17 =>
  bu (dm57 b0 x1 7 s17) fun r21 =>
  bu (dm98 s17) fun r24 =>
  bu (dm60 b0 x1 7 (r21 + (r24 * 4)) s17) fun s27 =>
  bu (dm101 b0 x1 s27) fun s31 =>
  some s31
set_option maxRecDepth 100000 in
theorem dt100 {sio : Bool} {tt : Nat} {cc : Nat → Nat → Int32} {d : Nat} (hd : 3 ≤ d) {b0 : Nat} {x1 : Int32} {s : aS} (hl : Ly tt cc s) (hk_b0 : aK s b0 3) {o : aS} (h : dm100  b0 x1 s = some o) : Q 1 sio tt cc d 100 0 [some (.ref b0), some (.int x1), some (.ref 109)] [] s (.inl none, o) := by
  unfold dm100 at h
  obtain ⟨d, rfl⟩ : ∃ e, d = e + 1 := ⟨d - 1, by omega⟩
  refine Q.run zm100 4 (i' := 4) (ls' := [some (.ref b0), some (.int x1), some (.ref 109)]) (st' := [.int 5, .int 0, .int x1, .ref b0]) rfl ?_
  obtain ⟨s3, hc2, h⟩ := bu_so h
  have hq1 : Q 1 sio tt cc d 60 0 [some (.ref b0), some (.int x1), some (.int 0), some (.int 5)] [] s (.inl none, s3) := dt60 (by omega) hl hk_b0 hc2
  refine Q.callV (gC_vi zm100 (show zM100.2.2.2.2.2[4]? = some (4, 3, .invokevirtual 51, [0, 60, 3, 3]) from rfl) zm60 hk_b0.1 (hl.tr hk_b0).1 rfl (show aCr 3 b0 [.int 5, .int 0, .int x1, .ref b0] 4 = some ([some (.ref b0), some (.int x1), some (.int 0), some (.int 5)], []) from rfl)) hq1 ?_
  have hr4 : aK s3 b0 3 := hq1.2.1.k hk_b0
  refine Q.run zm100 4 (i' := 9) (ls' := [some (.ref b0), some (.int x1), some (.ref 109)]) (st' := [.ref 109, .int 5, .int x1, .ref b0]) rfl ?_
  obtain ⟨r7, hc6, h⟩ := bu_so h
  have hq5 : Q 1 sio tt cc d 96 0 [some (.ref 109)] [] s3 (.inl (some (.int r7)), s3) := dt96 (by omega) hq1.1  hc6
  refine Q.callI (gC_vi zm100 (show zM100.2.2.2.2.2[9]? = some (11, 3, .invokevirtual 74, [0, 96, 0, 5]) from rfl) zm96 (hq1.1.lt (a := 109) (by decide)) (hq1.1.T (a := 109) (p := (5, 4)) 31 rfl rfl) rfl (show aCr 0 109 [.ref 109, .int 5, .int x1, .ref b0] 1 = some ([some (.ref 109)], [.int 5, .int x1, .ref b0]) from rfl)) hq5 ?_
  obtain ⟨s10, hc9, h⟩ := bu_so h
  have hq8 : Q 1 sio tt cc d 60 0 [some (.ref b0), some (.int x1), some (.int 5), some (.int r7)] [] s3 (.inl none, s10) := dt60 (by omega) hq1.1 hr4 hc9
  refine Q.callV (gC_vi zm100 (show zM100.2.2.2.2.2[10]? = some (14, 3, .invokevirtual 51, [0, 60, 3, 3]) from rfl) zm60 hr4.1 (hq1.1.tr hr4).1 rfl (show aCr 3 b0 [.int r7, .int 5, .int x1, .ref b0] 4 = some ([some (.ref b0), some (.int x1), some (.int 5), some (.int r7)], []) from rfl)) hq8 ?_
  have hr11 : aK s10 b0 3 := hq8.2.1.k hr4
  refine Q.run zm100 4 (i' := 15) (ls' := [some (.ref b0), some (.int x1), some (.ref 109)]) (st' := [.ref 109, .int 6, .int x1, .ref b0]) rfl ?_
  obtain ⟨r14, hc13, h⟩ := bu_so h
  have hq12 : Q 1 sio tt cc d 97 0 [some (.ref 109)] [] s10 (.inl (some (.int r14)), s10) := dt97 (by omega) hq8.1  hc13
  refine Q.callI (gC_vi zm100 (show zM100.2.2.2.2.2[15]? = some (22, 3, .invokevirtual 79, [0, 97, 0, 5]) from rfl) zm97 (hq8.1.lt (a := 109) (by decide)) (hq8.1.T (a := 109) (p := (5, 4)) 31 rfl rfl) rfl (show aCr 0 109 [.ref 109, .int 6, .int x1, .ref b0] 1 = some ([some (.ref 109)], [.int 6, .int x1, .ref b0]) from rfl)) hq12 ?_
  obtain ⟨s17, hc16, h⟩ := bu_so h
  have hq15 : Q 1 sio tt cc d 60 0 [some (.ref b0), some (.int x1), some (.int 6), some (.int r14)] [] s10 (.inl none, s17) := dt60 (by omega) hq8.1 hr11 hc16
  refine Q.callV (gC_vi zm100 (show zM100.2.2.2.2.2[16]? = some (25, 3, .invokevirtual 51, [0, 60, 3, 3]) from rfl) zm60 hr11.1 (hq8.1.tr hr11).1 rfl (show aCr 3 b0 [.int r14, .int 6, .int x1, .ref b0] 4 = some ([some (.ref b0), some (.int x1), some (.int 6), some (.int r14)], []) from rfl)) hq15 ?_
  have hr18 : aK s17 b0 3 := hq15.2.1.k hr11
  refine Q.run zm100 6 (i' := 23) (ls' := [some (.ref b0), some (.int x1), some (.ref 109)]) (st' := [.int 7, .int x1, .ref b0, .int 7, .int x1, .ref b0]) rfl ?_
  obtain ⟨r21, hc20, h⟩ := bu_so h
  have hq19 : Q 1 sio tt cc d 57 0 [some (.ref b0), some (.int x1), some (.int 7), none] [] s17 (.inl (some (.int r21)), s17) := dt57 (by omega) hq15.1 hr18 hc20
  refine Q.callI (gC_vi zm100 (show zM100.2.2.2.2.2[23]? = some (36, 3, .invokevirtual 28, [0, 57, 2, 3]) from rfl) zm57 hr18.1 (hq15.1.tr hr18).1 rfl (show aCr 2 b0 [.int 7, .int x1, .ref b0, .int 7, .int x1, .ref b0] 4 = some ([some (.ref b0), some (.int x1), some (.int 7), none], [.int 7, .int x1, .ref b0]) from rfl)) hq19 ?_
  refine Q.run zm100 1 (i' := 25) (ls' := [some (.ref b0), some (.int x1), some (.ref 109)]) (st' := [.ref 109, .int r21, .int 7, .int x1, .ref b0]) rfl ?_
  obtain ⟨r24, hc23, h⟩ := bu_so h
  have hq22 : Q 1 sio tt cc d 98 0 [some (.ref 109)] [] s17 (.inl (some (.int r24)), s17) := dt98 (by omega) hq15.1  hc23
  refine Q.callI (gC_vi zm100 (show zM100.2.2.2.2.2[25]? = some (40, 3, .invokevirtual 82, [0, 98, 0, 5]) from rfl) zm98 (hq15.1.lt (a := 109) (by decide)) (hq15.1.T (a := 109) (p := (5, 4)) 31 rfl rfl) rfl (show aCr 0 109 [.ref 109, .int r21, .int 7, .int x1, .ref b0] 1 = some ([some (.ref 109)], [.int r21, .int 7, .int x1, .ref b0]) from rfl)) hq22 ?_
  refine Q.run zm100 3 (i' := 29) (ls' := [some (.ref b0), some (.int x1), some (.ref 109)]) (st' := [.int (r21 + (r24 * 4)), .int 7, .int x1, .ref b0]) rfl ?_
  obtain ⟨s27, hc26, h⟩ := bu_so h
  have hq25 : Q 1 sio tt cc d 60 0 [some (.ref b0), some (.int x1), some (.int 7), some (.int (r21 + (r24 * 4)))] [] s17 (.inl none, s27) := dt60 (by omega) hq15.1 hr18 hc26
  refine Q.callV (gC_vi zm100 (show zM100.2.2.2.2.2[29]? = some (46, 3, .invokevirtual 51, [0, 60, 3, 3]) from rfl) zm60 hr18.1 (hq15.1.tr hr18).1 rfl (show aCr 3 b0 [.int (r21 + (r24 * 4)), .int 7, .int x1, .ref b0] 4 = some ([some (.ref b0), some (.int x1), some (.int 7), some (.int (r21 + (r24 * 4)))], []) from rfl)) hq25 ?_
  have hr28 : aK s27 b0 3 := hq25.2.1.k hr18
  refine Q.run zm100 2 (i' := 32) (ls' := [some (.ref b0), some (.int x1), some (.ref 109)]) (st' := [.int x1, .ref b0]) rfl ?_
  obtain ⟨s31, hc30, h⟩ := bu_so h
  have hq29 : Q 1 sio tt cc d 101 0 [some (.ref b0), some (.int x1)] [] s27 (.inl none, s31) := dt101 (by omega) hq25.1 hr28 hc30
  refine Q.callV (gC_vi zm100 (show zM100.2.2.2.2.2[32]? = some (51, 3, .invokevirtual 85, [0, 101, 1, 3]) from rfl) zm101 hr28.1 (hq25.1.tr hr28).1 rfl (show aCr 1 b0 [.int x1, .ref b0] 2 = some ([some (.ref b0), some (.int x1)], []) from rfl)) hq29 ?_
  have hr32 : aK s31 b0 3 := hq29.2.1.k hr28
  cases h
  exact Q.ret (A.rv zm100 (show zM100.2.2.2.2.2[33]? = some (54, 1, .return_, []) from rfl) rfl) hq29.1
/-! 99 FormulaTrees$Reader.readRangeEnd()V -/
set_option maxRecDepth 100000 in
theorem zm99 : zP[99]? = some zM99 := rfl
def dm99 (s : aS) : Option (aS) :=
  bv (dm89 79 (sI s 106 7) s) fun r4 s3 =>
  if r4 = 0 then
    bu (dm93 s3) fun r8 =>
    nx (wI s3 106 8 r8) fun s9 =>
    some s9
  else
    vN (sR s3 106 6) (
      none
    ) fun b13 =>
      if aK s3 b13 3 then
        bu (dm100 b13 (sI s3 106 10) s3) fun s17 =>
        nx (wI s17 106 9 4) fun s19 =>
        bu (dm93 s19) fun r25 =>
        nx (wI s19 106 7 r25) fun s26 =>
        some s26
      else none
set_option maxRecDepth 100000 in
theorem dt99 {sio : Bool} {tt : Nat} {cc : Nat → Nat → Int32} {d : Nat} (hd : 4 ≤ d) {s : aS} (hl : Ly tt cc s) {o : aS} (h : dm99  s = some o) : Q 1 sio tt cc d 99 0 [some (.ref 106)] [] s (.inl none, o) := by
  unfold dm99 at h
  obtain ⟨d, rfl⟩ : ∃ e, d = e + 1 := ⟨d - 1, by omega⟩
  refine Q.run zm99 1 (i' := 1) (ls' := [some (.ref 106)]) (st' := [.ref 106]) rfl ?_
  refine Q.map (A.gf (gI_of zm99 (e := (1, 3, .getfield 23, [4, 3])) rfl) (hl.lt (a := 106) (by decide)) (hl.T (a := 106) (p := (4, 13)) 28 rfl rfl) (by decide) (hl.R 11 rfl)) ?_
  refine Q.run zm99 1 (i' := 3) (ls' := [some (.ref 106)]) (st' := [.ref 106, .ref 109]) rfl ?_
  refine Q.map (A.gf (gI_of zm99 (e := (5, 3, .getfield 41, [4, 0])) rfl) (hl.lt (a := 106) (by decide)) (hl.T (a := 106) (p := (4, 13)) 28 rfl rfl) (by decide) (hl.R 8 rfl)) ?_
  refine Q.run zm99 1 (i' := 5) (ls' := [some (.ref 106)]) (st' := [.ref 106, .ref 79, .ref 109]) rfl ?_
  refine Q.map (A.gf (gI_of zm99 (e := (9, 3, .getfield 61, [4, 7])) rfl) (hl.lt (a := 106) (by decide)) (hl.T (a := 106) (p := (4, 13)) 28 rfl rfl) (by decide) rfl) ?_
  obtain ⟨r4, s3, hc2, h⟩ := bv_so h
  have hq1 : Q 1 sio tt cc d 89 0 [some (.ref 109), some (.ref 79), some (.int (sI s 106 7))] [] s (.inl (some (.int r4)), s3) := dt89 (by omega) hl (hl.Kd (a := 79) (c := 1) (n := 2) 1 rfl rfl (by decide)) hc2
  refine Q.callI (gC_vi zm99 (show zM99.2.2.2.2.2[6]? = some (12, 3, .invokevirtual 251, [0, 89, 2, 5]) from rfl) zm89 (hl.lt (a := 109) (by decide)) (hl.T (a := 109) (p := (5, 4)) 31 rfl rfl) rfl (show aCr 2 109 [.int (sI s 106 7), .ref 79, .ref 109] 3 = some ([some (.ref 109), some (.ref 79), some (.int (sI s 106 7))], []) from rfl)) hq1 ?_
  by_cases hc5 : r4 = 0
  · rw [if_pos hc5] at h
    refine Q.map (A.zT (gI_of zm99 (e := (15, 3, .ifCond .eq 37, [24])) rfl) (decide_eq_true hc5)) ?_
    refine Q.run zm99 2 (i' := 26) (ls' := [some (.ref 106)]) (st' := [.ref 106, .ref 106]) rfl ?_
    refine Q.map (A.gf (gI_of zm99 (e := (54, 3, .getfield 23, [4, 3])) rfl) (hq1.1.lt (a := 106) (by decide)) (hq1.1.T (a := 106) (p := (4, 13)) 28 rfl rfl) (by decide) (hq1.1.R 11 rfl)) ?_
    obtain ⟨r8, hc7, h⟩ := bu_so h
    have hq6 : Q 1 sio tt cc d 93 0 [some (.ref 109)] [] s3 (.inl (some (.int r8)), s3) := dt93 (by omega) hq1.1  hc7
    refine Q.callI (gC_vi zm99 (show zM99.2.2.2.2.2[27]? = some (57, 3, .invokevirtual 255, [0, 93, 0, 5]) from rfl) zm93 (hq1.1.lt (a := 109) (by decide)) (hq1.1.T (a := 109) (p := (5, 4)) 31 rfl rfl) rfl (show aCr 0 109 [.ref 109, .ref 106] 1 = some ([some (.ref 109)], [.ref 106]) from rfl)) hq6 ?_
    obtain ⟨s9, hs10, h⟩ := nx_so h
    refine Q.pf hs10 rfl (gI_of zm99 (e := (60, 3, .putfield 65, [4, 8, 0])) rfl) (hq1.1.lt (a := 106) (by decide)) (by decide) (hq1.1.T (a := 106) (p := (4, 13)) 28 rfl rfl) (by decide) rfl rfl ?_
    have hl11 : Ly tt cc s9 := by rw [hs10]; exact hq1.1.wId (by decide)
    cases h
    exact Q.ret (A.rv zm99 (show zM99.2.2.2.2.2[29]? = some (63, 1, .return_, []) from rfl) rfl) hl11
  · rw [if_neg hc5] at h
    refine Q.map (A.zF (gI_of zm99 (e := (15, 3, .ifCond .eq 37, [24])) rfl) (fun q => hc5 (of_decide_eq_true q))) ?_
    refine Q.run zm99 1 (i' := 9) (ls' := [some (.ref 106)]) (st' := [.ref 106]) rfl ?_
    rcases vN_so h with ⟨hv12, h⟩ | ⟨b13, hv12, h⟩
    · refine Q.map (A.gf (gI_of zm99 (e := (19, 3, .getfield 48, [4, 6])) rfl) (hq1.1.lt (a := 106) (by decide)) (hq1.1.T (a := 106) (p := (4, 13)) 28 rfl rfl) (by decide) hv12) ?_
      refine Q.run zm99 1 (i' := 11) (ls' := [some (.ref 106)]) (st' := [.ref 106, .null]) rfl ?_
      refine Q.map (A.gf (gI_of zm99 (e := (23, 3, .getfield 100, [4, 10])) rfl) (hq1.1.lt (a := 106) (by decide)) (hq1.1.T (a := 106) (p := (4, 13)) 28 rfl rfl) (by decide) rfl) ?_
      refine Q.run zm99 1 (i' := 13) (ls' := [some (.ref 106)]) (st' := [.ref 106, .int (sI s3 106 10), .null]) rfl ?_
      refine Q.map (A.gf (gI_of zm99 (e := (27, 3, .getfield 23, [4, 3])) rfl) (hq1.1.lt (a := 106) (by decide)) (hq1.1.T (a := 106) (p := (4, 13)) 28 rfl rfl) (by decide) (hq1.1.R 11 rfl)) ?_
      cases h
    · obtain ⟨hr14, h⟩ := ite_so h
      refine Q.map (A.gf (gI_of zm99 (e := (19, 3, .getfield 48, [4, 6])) rfl) (hq1.1.lt (a := 106) (by decide)) (hq1.1.T (a := 106) (p := (4, 13)) 28 rfl rfl) (by decide) hv12) ?_
      refine Q.run zm99 1 (i' := 11) (ls' := [some (.ref 106)]) (st' := [.ref 106, .ref b13]) rfl ?_
      refine Q.map (A.gf (gI_of zm99 (e := (23, 3, .getfield 100, [4, 10])) rfl) (hq1.1.lt (a := 106) (by decide)) (hq1.1.T (a := 106) (p := (4, 13)) 28 rfl rfl) (by decide) rfl) ?_
      refine Q.run zm99 1 (i' := 13) (ls' := [some (.ref 106)]) (st' := [.ref 106, .int (sI s3 106 10), .ref b13]) rfl ?_
      refine Q.map (A.gf (gI_of zm99 (e := (27, 3, .getfield 23, [4, 3])) rfl) (hq1.1.lt (a := 106) (by decide)) (hq1.1.T (a := 106) (p := (4, 13)) 28 rfl rfl) (by decide) (hq1.1.R 11 rfl)) ?_
      obtain ⟨s17, hc16, h⟩ := bu_so h
      have hq15 : Q 1 sio tt cc d 100 0 [some (.ref b13), some (.int (sI s3 106 10)), some (.ref 109)] [] s3 (.inl none, s17) := dt100 (by omega) hq1.1 hr14 hc16
      refine Q.callV (gC_vi zm99 (show zM99.2.2.2.2.2[14]? = some (30, 3, .invokevirtual 281, [0, 100, 2, 3]) from rfl) zm100 hr14.1 (hq1.1.tr hr14).1 rfl (show aCr 2 b13 [.ref 109, .int (sI s3 106 10), .ref b13] 3 = some ([some (.ref b13), some (.int (sI s3 106 10)), some (.ref 109)], []) from rfl)) hq15 ?_
      have hr18 : aK s17 b13 3 := hq15.2.1.k hr14
      refine Q.run zm99 2 (i' := 17) (ls' := [some (.ref 106)]) (st' := [.int 4, .ref 106]) rfl ?_
      obtain ⟨s19, hs20, h⟩ := nx_so h
      refine Q.pf hs20 rfl (gI_of zm99 (e := (35, 3, .putfield 68, [4, 9, 0])) rfl) (hq15.1.lt (a := 106) (by decide)) (by decide) (hq15.1.T (a := 106) (p := (4, 13)) 28 rfl rfl) (by decide) rfl rfl ?_
      have hl21 : Ly tt cc s19 := by rw [hs20]; exact hq15.1.wId (by decide)
      have hr22 : aK s19 b13 3 := by rw [hs20]; exact hr18
      refine Q.run zm99 2 (i' := 20) (ls' := [some (.ref 106)]) (st' := [.ref 106, .ref 106]) rfl ?_
      refine Q.map (A.gf (gI_of zm99 (e := (40, 3, .getfield 23, [4, 3])) rfl) (hl21.lt (a := 106) (by decide)) (hl21.T (a := 106) (p := (4, 13)) 28 rfl rfl) (by decide) (hl21.R 11 rfl)) ?_
      obtain ⟨r25, hc24, h⟩ := bu_so h
      have hq23 : Q 1 sio tt cc d 93 0 [some (.ref 109)] [] s19 (.inl (some (.int r25)), s19) := dt93 (by omega) hl21  hc24
      refine Q.callI (gC_vi zm99 (show zM99.2.2.2.2.2[21]? = some (43, 3, .invokevirtual 255, [0, 93, 0, 5]) from rfl) zm93 (hl21.lt (a := 109) (by decide)) (hl21.T (a := 109) (p := (5, 4)) 31 rfl rfl) rfl (show aCr 0 109 [.ref 109, .ref 106] 1 = some ([some (.ref 109)], [.ref 106]) from rfl)) hq23 ?_
      obtain ⟨s26, hs27, h⟩ := nx_so h
      refine Q.pf hs27 rfl (gI_of zm99 (e := (46, 3, .putfield 61, [4, 7, 0])) rfl) (hl21.lt (a := 106) (by decide)) (by decide) (hl21.T (a := 106) (p := (4, 13)) 28 rfl rfl) (by decide) rfl rfl ?_
      have hl28 : Ly tt cc s26 := by rw [hs27]; exact hl21.wId (by decide)
      have hr29 : aK s26 b13 3 := by rw [hs27]; exact hr22
      refine Q.run zm99 1 (i' := 29) (ls' := [some (.ref 106)]) (st' := []) rfl ?_
      cases h
      exact Q.ret (A.rv zm99 (show zM99.2.2.2.2.2[29]? = some (63, 1, .return_, []) from rfl) rfl) hl28
/-! 105 FormulaTrees$Reader.holdQuoted(I)Z -/
set_option maxRecDepth 100000 in
theorem zm105 : zP[105]? = some zM105 := rfl
def dm105_65 (k11 : Int32 → Int32 → aS → Option (Int32 × aS)) (x1 : Int32) (x2 : Int32) (y1 : Int32) (y2 : Int32) (s : aS) : Option (Int32 × aS) :=
  nx (wI s 106 7 (y1 + y2)) fun s1 =>
  k11 x1 x2 s1
set_option maxRecDepth 100000 in
theorem dt105_65 {sio : Bool} {tt : Nat} {cc : Nat → Nat → Int32} {d : Nat} (hd : 1 ≤ d) {k11 : Int32 → Int32 → aS → Option (Int32 × aS)} (hk11 : ∀ {x1 : Int32} {x2 : Int32} {g3 : Option Value} {s : aS}, Ly tt cc s → ∀ {o : Int32 × aS}, k11 x1 x2 s = some o → Q 1 sio tt cc d 105 11 [some (.ref 106), some (.int x1), some (.int x2), g3] [] s (.inl (some (.int o.1)), o.2)) {x1 : Int32} {x2 : Int32} {y1 : Int32} {y2 : Int32} {x3 : Int32} {s : aS} (hl : Ly tt cc s) {o : Int32 × aS} (h : dm105_65 k11 x1 x2 y1 y2 s = some o) : Q 1 sio tt cc d 105 65 [some (.ref 106), some (.int x1), some (.int x2), some (.int x3)] [.int y2, .int y1, .ref 106] s (.inl (some (.int o.1)), o.2) := by
  unfold dm105_65 at h
  obtain ⟨d, rfl⟩ : ∃ e, d = e + 1 := ⟨d - 1, by omega⟩
  refine Q.run zm105 1 (i' := 66) (ls' := [some (.ref 106), some (.int x1), some (.int x2), some (.int x3)]) (st' := [.int (y1 + y2), .ref 106]) rfl ?_
  obtain ⟨s1, hs2, h⟩ := nx_so h
  refine Q.pf hs2 rfl (gI_of zm105 (e := (126, 3, .putfield 61, [4, 7, 0])) rfl) (hl.lt (a := 106) (by decide)) (by decide) (hl.T (a := 106) (p := (4, 13)) 28 rfl rfl) (by decide) rfl rfl ?_
  have hl3 : Ly tt cc s1 := by rw [hs2]; exact hl.wId (by decide)
  refine Q.run zm105 1 (i' := 11) (ls' := [some (.ref 106), some (.int x1), some (.int x2), some (.int x3)]) (st' := []) rfl ?_
  exact hk11 hl3  h
def dm105_64 (k11 : Int32 → Int32 → aS → Option (Int32 × aS)) (x1 : Int32) (x2 : Int32) (y1 : Int32) (s : aS) : Option (Int32 × aS) :=
  dm105_65 k11 x1 x2 y1 1 s
set_option maxRecDepth 100000 in
theorem dt105_64 {sio : Bool} {tt : Nat} {cc : Nat → Nat → Int32} {d : Nat} (hd : 1 ≤ d) {k11 : Int32 → Int32 → aS → Option (Int32 × aS)} (hk11 : ∀ {x1 : Int32} {x2 : Int32} {g3 : Option Value} {s : aS}, Ly tt cc s → ∀ {o : Int32 × aS}, k11 x1 x2 s = some o → Q 1 sio tt cc d 105 11 [some (.ref 106), some (.int x1), some (.int x2), g3] [] s (.inl (some (.int o.1)), o.2)) {x1 : Int32} {x2 : Int32} {y1 : Int32} {x3 : Int32} {s : aS} (hl : Ly tt cc s) {o : Int32 × aS} (h : dm105_64 k11 x1 x2 y1 s = some o) : Q 1 sio tt cc d 105 64 [some (.ref 106), some (.int x1), some (.int x2), some (.int x3)] [.int y1, .ref 106] s (.inl (some (.int o.1)), o.2) := by
  unfold dm105_64 at h
  obtain ⟨d, rfl⟩ : ∃ e, d = e + 1 := ⟨d - 1, by omega⟩
  refine Q.run zm105 1 (i' := 65) (ls' := [some (.ref 106), some (.int x1), some (.int x2), some (.int x3)]) (st' := [.int 1, .int y1, .ref 106]) rfl ?_
  exact dt105_65 hd hk11 hl  h
def dm105_55 (k11 : Int32 → Int32 → aS → Option (Int32 × aS)) (x1 : Int32) (x2 : Int32) (x3 : Int32) (s : aS) : Option (Int32 × aS) :=
  if x3 = 0 then
    dm105_64 k11 x1 x2 (sI s 106 7) s
  else
    if x2 = 0 then
      dm105_65 k11 x1 x2 (sI s 106 7) 2 s
    else
      dm105_64 k11 x1 x2 (sI s 106 7) s
set_option maxRecDepth 100000 in
theorem dt105_55 {sio : Bool} {tt : Nat} {cc : Nat → Nat → Int32} {d : Nat} (hd : 1 ≤ d) {k11 : Int32 → Int32 → aS → Option (Int32 × aS)} (hk11 : ∀ {x1 : Int32} {x2 : Int32} {g3 : Option Value} {s : aS}, Ly tt cc s → ∀ {o : Int32 × aS}, k11 x1 x2 s = some o → Q 1 sio tt cc d 105 11 [some (.ref 106), some (.int x1), some (.int x2), g3] [] s (.inl (some (.int o.1)), o.2)) {x1 : Int32} {x2 : Int32} {x3 : Int32} {s : aS} (hl : Ly tt cc s) {o : Int32 × aS} (h : dm105_55 k11 x1 x2 x3 s = some o) : Q 1 sio tt cc d 105 55 [some (.ref 106), some (.int x1), some (.int x2), some (.int x3)] [] s (.inl (some (.int o.1)), o.2) := by
  unfold dm105_55 at h
  obtain ⟨d, rfl⟩ : ∃ e, d = e + 1 := ⟨d - 1, by omega⟩
  refine Q.run zm105 2 (i' := 57) (ls' := [some (.ref 106), some (.int x1), some (.int x2), some (.int x3)]) (st' := [.ref 106, .ref 106]) rfl ?_
  refine Q.map (A.gf (gI_of zm105 (e := (109, 3, .getfield 61, [4, 7])) rfl) (hl.lt (a := 106) (by decide)) (hl.T (a := 106) (p := (4, 13)) 28 rfl rfl) (by decide) rfl) ?_
  refine Q.run zm105 1 (i' := 59) (ls' := [some (.ref 106), some (.int x1), some (.int x2), some (.int x3)]) (st' := [.int x3, .int (sI s 106 7), .ref 106]) rfl ?_
  by_cases hc1 : x3 = 0
  · rw [if_pos hc1] at h
    refine Q.map (A.zT (gI_of zm105 (e := (113, 3, .ifCond .eq 11, [64])) rfl) (decide_eq_true hc1)) ?_
    exact dt105_64 hd hk11 hl  h
  · rw [if_neg hc1] at h
    refine Q.map (A.zF (gI_of zm105 (e := (113, 3, .ifCond .eq 11, [64])) rfl) (fun q => hc1 (of_decide_eq_true q))) ?_
    refine Q.run zm105 1 (i' := 61) (ls' := [some (.ref 106), some (.int x1), some (.int x2), some (.int x3)]) (st' := [.int x2, .int (sI s 106 7), .ref 106]) rfl ?_
    by_cases hc2 : x2 = 0
    · rw [if_pos hc2] at h
      refine Q.map (A.zF (gI_of zm105 (e := (117, 3, .ifCond .ne 7, [64])) rfl) (fun q => of_decide_eq_true q hc2)) ?_
      refine Q.run zm105 2 (i' := 65) (ls' := [some (.ref 106), some (.int x1), some (.int x2), some (.int x3)]) (st' := [.int 2, .int (sI s 106 7), .ref 106]) rfl ?_
      exact dt105_65 hd hk11 hl  h
    · rw [if_neg hc2] at h
      refine Q.map (A.zT (gI_of zm105 (e := (117, 3, .ifCond .ne 7, [64])) rfl) (decide_eq_true hc2)) ?_
      exact dt105_64 hd hk11 hl  h
def dm105_44 (k11 : Int32 → Int32 → aS → Option (Int32 × aS)) (x1 : Int32) (x3 : Int32) (y0 : Int32) (s : aS) : Option (Int32 × aS) :=
  if y0 = 0 then
    bu (dm34 79 (sI s 106 7) s) fun r4 =>
    bu (dm29 107 r4 s) fun s7 =>
    dm105_55 k11 x1 y0 x3 s7
  else
    dm105_55 k11 x1 y0 x3 s
set_option maxRecDepth 100000 in
theorem dt105_44 {sio : Bool} {tt : Nat} {cc : Nat → Nat → Int32} {d : Nat} (hd : 1 ≤ d) {k11 : Int32 → Int32 → aS → Option (Int32 × aS)} (hk11 : ∀ {x1 : Int32} {x2 : Int32} {g3 : Option Value} {s : aS}, Ly tt cc s → ∀ {o : Int32 × aS}, k11 x1 x2 s = some o → Q 1 sio tt cc d 105 11 [some (.ref 106), some (.int x1), some (.int x2), g3] [] s (.inl (some (.int o.1)), o.2)) {x1 : Int32} {x3 : Int32} {y0 : Int32} {x2 : Int32} {s : aS} (hl : Ly tt cc s) {o : Int32 × aS} (h : dm105_44 k11 x1 x3 y0 s = some o) : Q 1 sio tt cc d 105 44 [some (.ref 106), some (.int x1), some (.int x2), some (.int x3)] [.int y0] s (.inl (some (.int o.1)), o.2) := by
  unfold dm105_44 at h
  obtain ⟨d, rfl⟩ : ∃ e, d = e + 1 := ⟨d - 1, by omega⟩
  refine Q.run zm105 2 (i' := 46) (ls' := [some (.ref 106), some (.int x1), some (.int y0), some (.int x3)]) (st' := [.int y0]) rfl ?_
  by_cases hc1 : y0 = 0
  · rw [if_pos hc1] at h
    refine Q.map (A.zF (gI_of zm105 (e := (86, 3, .ifCond .ne 21, [55])) rfl) (fun q => of_decide_eq_true q hc1)) ?_
    refine Q.run zm105 1 (i' := 48) (ls' := [some (.ref 106), some (.int x1), some (.int y0), some (.int x3)]) (st' := [.ref 106]) rfl ?_
    refine Q.map (A.gf (gI_of zm105 (e := (90, 3, .getfield 14, [4, 2])) rfl) (hl.lt (a := 106) (by decide)) (hl.T (a := 106) (p := (4, 13)) 28 rfl rfl) (by decide) (hl.R 10 rfl)) ?_
    refine Q.run zm105 1 (i' := 50) (ls' := [some (.ref 106), some (.int x1), some (.int y0), some (.int x3)]) (st' := [.ref 106, .ref 107]) rfl ?_
    refine Q.map (A.gf (gI_of zm105 (e := (94, 3, .getfield 41, [4, 0])) rfl) (hl.lt (a := 106) (by decide)) (hl.T (a := 106) (p := (4, 13)) 28 rfl rfl) (by decide) (hl.R 8 rfl)) ?_
    refine Q.run zm105 1 (i' := 52) (ls' := [some (.ref 106), some (.int x1), some (.int y0), some (.int x3)]) (st' := [.ref 106, .ref 79, .ref 107]) rfl ?_
    refine Q.map (A.gf (gI_of zm105 (e := (98, 3, .getfield 61, [4, 7])) rfl) (hl.lt (a := 106) (by decide)) (hl.T (a := 106) (p := (4, 13)) 28 rfl rfl) (by decide) rfl) ?_
    obtain ⟨r4, hc3, h⟩ := bu_so h
    have hq2 : Q 1 sio tt cc d 34 0 [some (.ref 79), some (.int (sI s 106 7))] [] s (.inl (some (.int r4)), s) := dt34 (by omega) hl (hl.Kd (a := 79) (c := 1) (n := 2) 1 rfl rfl (by decide)) hc3
    refine Q.callI (gC_vi zm105 (show zM105.2.2.2.2.2[53]? = some (101, 3, .invokevirtual 78, [0, 34, 1, 1]) from rfl) zm34 (hl.lt (a := 79) (by decide)) (hl.T (a := 79) (p := (1, 2)) 1 rfl rfl) rfl (show aCr 1 79 [.int (sI s 106 7), .ref 79, .ref 107] 2 = some ([some (.ref 79), some (.int (sI s 106 7))], [.ref 107]) from rfl)) hq2 ?_
    obtain ⟨s7, hc6, h⟩ := bu_so h
    have hq5 : Q 1 sio tt cc d 29 0 [some (.ref 107), some (.int r4)] [] s (.inl none, s7) := dt29 (by omega) hl (hl.Kd (a := 107) (c := 1) (n := 2) 29 rfl rfl (by decide)) hc6
    refine Q.callV (gC_vi zm105 (show zM105.2.2.2.2.2[54]? = some (104, 3, .invokevirtual 219, [0, 29, 1, 1]) from rfl) zm29 (hl.lt (a := 107) (by decide)) (hl.T (a := 107) (p := (1, 2)) 29 rfl rfl) rfl (show aCr 1 107 [.int r4, .ref 107] 2 = some ([some (.ref 107), some (.int r4)], []) from rfl)) hq5 ?_
    exact dt105_55 hd hk11 hq5.1  h
  · rw [if_neg hc1] at h
    refine Q.map (A.zT (gI_of zm105 (e := (86, 3, .ifCond .ne 21, [55])) rfl) (decide_eq_true hc1)) ?_
    exact dt105_55 hd hk11 hl  h
def dm105_43 (k11 : Int32 → Int32 → aS → Option (Int32 × aS)) (x1 : Int32) (x3 : Int32) (s : aS) : Option (Int32 × aS) :=
  dm105_44 k11 x1 x3 0 s
set_option maxRecDepth 100000 in
theorem dt105_43 {sio : Bool} {tt : Nat} {cc : Nat → Nat → Int32} {d : Nat} (hd : 1 ≤ d) {k11 : Int32 → Int32 → aS → Option (Int32 × aS)} (hk11 : ∀ {x1 : Int32} {x2 : Int32} {g3 : Option Value} {s : aS}, Ly tt cc s → ∀ {o : Int32 × aS}, k11 x1 x2 s = some o → Q 1 sio tt cc d 105 11 [some (.ref 106), some (.int x1), some (.int x2), g3] [] s (.inl (some (.int o.1)), o.2)) {x1 : Int32} {x3 : Int32} {x2 : Int32} {s : aS} (hl : Ly tt cc s) {o : Int32 × aS} (h : dm105_43 k11 x1 x3 s = some o) : Q 1 sio tt cc d 105 43 [some (.ref 106), some (.int x1), some (.int x2), some (.int x3)] [] s (.inl (some (.int o.1)), o.2) := by
  unfold dm105_43 at h
  obtain ⟨d, rfl⟩ : ∃ e, d = e + 1 := ⟨d - 1, by omega⟩
  refine Q.run zm105 1 (i' := 44) (ls' := [some (.ref 106), some (.int x1), some (.int x2), some (.int x3)]) (st' := [.int 0]) rfl ?_
  exact dt105_44 hd hk11 hl  h
def dm105_29 (k11 : Int32 → Int32 → aS → Option (Int32 × aS)) (x1 : Int32) (y0 : Int32) (s : aS) : Option (Int32 × aS) :=
  if y0 = 0 then
    dm105_43 k11 x1 y0 s
  else
    bu (dm34 79 ((sI s 106 7) + 1) s) fun r4 =>
    if r4 = x1 then
      dm105_43 k11 x1 y0 s
    else
      dm105_44 k11 x1 y0 1 s
set_option maxRecDepth 100000 in
theorem dt105_29 {sio : Bool} {tt : Nat} {cc : Nat → Nat → Int32} {d : Nat} (hd : 1 ≤ d) {k11 : Int32 → Int32 → aS → Option (Int32 × aS)} (hk11 : ∀ {x1 : Int32} {x2 : Int32} {g3 : Option Value} {s : aS}, Ly tt cc s → ∀ {o : Int32 × aS}, k11 x1 x2 s = some o → Q 1 sio tt cc d 105 11 [some (.ref 106), some (.int x1), some (.int x2), g3] [] s (.inl (some (.int o.1)), o.2)) {x1 : Int32} {y0 : Int32} {x2 : Int32} {g3 : Option Value} {s : aS} (hl : Ly tt cc s) {o : Int32 × aS} (h : dm105_29 k11 x1 y0 s = some o) : Q 1 sio tt cc d 105 29 [some (.ref 106), some (.int x1), some (.int x2), g3] [.int y0] s (.inl (some (.int o.1)), o.2) := by
  unfold dm105_29 at h
  obtain ⟨d, rfl⟩ : ∃ e, d = e + 1 := ⟨d - 1, by omega⟩
  refine Q.run zm105 2 (i' := 31) (ls' := [some (.ref 106), some (.int x1), some (.int x2), some (.int y0)]) (st' := [.int y0]) rfl ?_
  by_cases hc1 : y0 = 0
  · rw [if_pos hc1] at h
    refine Q.map (A.zT (gI_of zm105 (e := (59, 3, .ifCond .eq 24, [43])) rfl) (decide_eq_true hc1)) ?_
    exact dt105_43 hd hk11 hl  h
  · rw [if_neg hc1] at h
    refine Q.map (A.zF (gI_of zm105 (e := (59, 3, .ifCond .eq 24, [43])) rfl) (fun q => hc1 (of_decide_eq_true q))) ?_
    refine Q.run zm105 1 (i' := 33) (ls' := [some (.ref 106), some (.int x1), some (.int x2), some (.int y0)]) (st' := [.ref 106]) rfl ?_
    refine Q.map (A.gf (gI_of zm105 (e := (63, 3, .getfield 41, [4, 0])) rfl) (hl.lt (a := 106) (by decide)) (hl.T (a := 106) (p := (4, 13)) 28 rfl rfl) (by decide) (hl.R 8 rfl)) ?_
    refine Q.run zm105 1 (i' := 35) (ls' := [some (.ref 106), some (.int x1), some (.int x2), some (.int y0)]) (st' := [.ref 106, .ref 79]) rfl ?_
    refine Q.map (A.gf (gI_of zm105 (e := (67, 3, .getfield 61, [4, 7])) rfl) (hl.lt (a := 106) (by decide)) (hl.T (a := 106) (p := (4, 13)) 28 rfl rfl) (by decide) rfl) ?_
    refine Q.run zm105 2 (i' := 38) (ls' := [some (.ref 106), some (.int x1), some (.int x2), some (.int y0)]) (st' := [.int ((sI s 106 7) + 1), .ref 79]) rfl ?_
    obtain ⟨r4, hc3, h⟩ := bu_so h
    have hq2 : Q 1 sio tt cc d 34 0 [some (.ref 79), some (.int ((sI s 106 7) + 1))] [] s (.inl (some (.int r4)), s) := dt34 (by omega) hl (hl.Kd (a := 79) (c := 1) (n := 2) 1 rfl rfl (by decide)) hc3
    refine Q.callI (gC_vi zm105 (show zM105.2.2.2.2.2[38]? = some (72, 3, .invokevirtual 78, [0, 34, 1, 1]) from rfl) zm34 (hl.lt (a := 79) (by decide)) (hl.T (a := 79) (p := (1, 2)) 1 rfl rfl) rfl (show aCr 1 79 [.int ((sI s 106 7) + 1), .ref 79] 2 = some ([some (.ref 79), some (.int ((sI s 106 7) + 1))], []) from rfl)) hq2 ?_
    refine Q.run zm105 1 (i' := 40) (ls' := [some (.ref 106), some (.int x1), some (.int x2), some (.int y0)]) (st' := [.int x1, .int r4]) rfl ?_
    by_cases hc5 : r4 = x1
    · rw [if_pos hc5] at h
      refine Q.map (A.bT (gI_of zm105 (e := (76, 3, .if_icmp .eq 7, [43])) rfl) (decide_eq_true hc5)) ?_
      exact dt105_43 hd hk11 hl  h
    · rw [if_neg hc5] at h
      refine Q.map (A.bF (gI_of zm105 (e := (76, 3, .if_icmp .eq 7, [43])) rfl) (fun q => hc5 (of_decide_eq_true q))) ?_
      refine Q.run zm105 2 (i' := 44) (ls' := [some (.ref 106), some (.int x1), some (.int x2), some (.int y0)]) (st' := [.int 1]) rfl ?_
      exact dt105_44 hd hk11 hl  h
def dm105_11 : Nat → Int32 → Int32 → aS → Option (Int32 × aS)
  | 0, _, _, _ => none
  | n + 1, x1, x2, s =>
    bu (dm28 79 s) fun r3 =>
    if r3 ≤ (sI s 106 7) then
      if x2 = 0 ∨ x2 = 1 then
        some (x2, s)
      else none
    else
      if x2 = 0 then
        bu (dm34 79 (sI s 106 7) s) fun r9 =>
        if r9 = x1 then
          dm105_29 (dm105_11 n) x1 1 s
        else
          dm105_29 (dm105_11 n) x1 0 s
      else
        if x2 = 0 ∨ x2 = 1 then
          some (x2, s)
        else none
set_option maxRecDepth 100000 in
theorem dt105_11 {sio : Bool} {tt : Nat} {cc : Nat → Nat → Int32} {d : Nat} (hd : 1 ≤ d) : ∀ (n : Nat) {x1 : Int32} {x2 : Int32} {g3 : Option Value} {s : aS} (_ : Ly tt cc s) {o : Int32 × aS} (_ : dm105_11  n x1 x2 s = some o), Q 1 sio tt cc d 105 11 [some (.ref 106), some (.int x1), some (.int x2), g3] [] s (.inl (some (.int o.1)), o.2) := by
  obtain ⟨d, rfl⟩ : ∃ e, d = e + 1 := ⟨d - 1, by omega⟩
  intro n
  induction n with
  | zero => intro x1 x2 g3 s hl o h; rw [dm105_11] at h; cases h
  | succ n ih =>
    intro x1 x2 g3 s hl o h
    rw [dm105_11] at h
    refine Q.run zm105 1 (i' := 12) (ls' := [some (.ref 106), some (.int x1), some (.int x2), g3]) (st' := [.ref 106]) rfl ?_
    refine Q.map (A.gf (gI_of zm105 (e := (20, 3, .getfield 61, [4, 7])) rfl) (hl.lt (a := 106) (by decide)) (hl.T (a := 106) (p := (4, 13)) 28 rfl rfl) (by decide) rfl) ?_
    refine Q.run zm105 1 (i' := 14) (ls' := [some (.ref 106), some (.int x1), some (.int x2), g3]) (st' := [.ref 106, .int (sI s 106 7)]) rfl ?_
    refine Q.map (A.gf (gI_of zm105 (e := (24, 3, .getfield 41, [4, 0])) rfl) (hl.lt (a := 106) (by decide)) (hl.T (a := 106) (p := (4, 13)) 28 rfl rfl) (by decide) (hl.R 8 rfl)) ?_
    obtain ⟨r3, hc2, h⟩ := bu_so h
    have hq1 : Q 1 sio tt cc d 28 0 [some (.ref 79)] [] s (.inl (some (.int r3)), s) := dt28 (by omega) hl (hl.Kd (a := 79) (c := 1) (n := 2) 1 rfl rfl (by decide)) hc2
    refine Q.callI (gC_vi zm105 (show zM105.2.2.2.2.2[15]? = some (27, 3, .invokevirtual 74, [0, 28, 0, 1]) from rfl) zm28 (hl.lt (a := 79) (by decide)) (hl.T (a := 79) (p := (1, 2)) 1 rfl rfl) rfl (show aCr 0 79 [.ref 79, .int (sI s 106 7)] 1 = some ([some (.ref 79)], [.int (sI s 106 7)]) from rfl)) hq1 ?_
    by_cases hc4 : r3 ≤ (sI s 106 7)
    · rw [if_pos hc4] at h
      refine Q.map (A.bT (gI_of zm105 (e := (30, 3, .if_icmp .ge 102, [68])) rfl) (decide_eq_true hc4)) ?_
      refine Q.run zm105 1 (i' := 69) (ls' := [some (.ref 106), some (.int x1), some (.int x2), g3]) (st' := [.int x2]) rfl ?_
      obtain ⟨hc5, h⟩ := ite_so h
      cases h
      exact Q.ret (A.ri zm105 (show zM105.2.2.2.2.2[69]? = some (133, 1, .ireturn, []) from rfl) rfl (fit1 hc5)) hl
    · rw [if_neg hc4] at h
      refine Q.map (A.bF (gI_of zm105 (e := (30, 3, .if_icmp .ge 102, [68])) rfl) (fun q => hc4 (of_decide_eq_true q))) ?_
      refine Q.run zm105 1 (i' := 18) (ls' := [some (.ref 106), some (.int x1), some (.int x2), g3]) (st' := [.int x2]) rfl ?_
      by_cases hc6 : x2 = 0
      · rw [if_pos hc6] at h
        refine Q.map (A.zF (gI_of zm105 (e := (34, 3, .ifCond .ne 98, [68])) rfl) (fun q => of_decide_eq_true q hc6)) ?_
        refine Q.run zm105 1 (i' := 20) (ls' := [some (.ref 106), some (.int x1), some (.int x2), g3]) (st' := [.ref 106]) rfl ?_
        refine Q.map (A.gf (gI_of zm105 (e := (38, 3, .getfield 41, [4, 0])) rfl) (hl.lt (a := 106) (by decide)) (hl.T (a := 106) (p := (4, 13)) 28 rfl rfl) (by decide) (hl.R 8 rfl)) ?_
        refine Q.run zm105 1 (i' := 22) (ls' := [some (.ref 106), some (.int x1), some (.int x2), g3]) (st' := [.ref 106, .ref 79]) rfl ?_
        refine Q.map (A.gf (gI_of zm105 (e := (42, 3, .getfield 61, [4, 7])) rfl) (hl.lt (a := 106) (by decide)) (hl.T (a := 106) (p := (4, 13)) 28 rfl rfl) (by decide) rfl) ?_
        obtain ⟨r9, hc8, h⟩ := bu_so h
        have hq7 : Q 1 sio tt cc d 34 0 [some (.ref 79), some (.int (sI s 106 7))] [] s (.inl (some (.int r9)), s) := dt34 (by omega) hl (hl.Kd (a := 79) (c := 1) (n := 2) 1 rfl rfl (by decide)) hc8
        refine Q.callI (gC_vi zm105 (show zM105.2.2.2.2.2[23]? = some (45, 3, .invokevirtual 78, [0, 34, 1, 1]) from rfl) zm34 (hl.lt (a := 79) (by decide)) (hl.T (a := 79) (p := (1, 2)) 1 rfl rfl) rfl (show aCr 1 79 [.int (sI s 106 7), .ref 79] 2 = some ([some (.ref 79), some (.int (sI s 106 7))], []) from rfl)) hq7 ?_
        refine Q.run zm105 1 (i' := 25) (ls' := [some (.ref 106), some (.int x1), some (.int x2), g3]) (st' := [.int x1, .int r9]) rfl ?_
        by_cases hc10 : r9 = x1
        · rw [if_pos hc10] at h
          refine Q.map (A.bF (gI_of zm105 (e := (49, 3, .if_icmp .ne 7, [28])) rfl) (fun q => of_decide_eq_true q hc10)) ?_
          refine Q.run zm105 2 (i' := 29) (ls' := [some (.ref 106), some (.int x1), some (.int x2), g3]) (st' := [.int 1]) rfl ?_
          exact dt105_29 hd ih hl  h
        · rw [if_neg hc10] at h
          refine Q.map (A.bT (gI_of zm105 (e := (49, 3, .if_icmp .ne 7, [28])) rfl) (decide_eq_true hc10)) ?_
          refine Q.run zm105 1 (i' := 29) (ls' := [some (.ref 106), some (.int x1), some (.int x2), g3]) (st' := [.int 0]) rfl ?_
          exact dt105_29 hd ih hl  h
      · rw [if_neg hc6] at h
        refine Q.map (A.zT (gI_of zm105 (e := (34, 3, .ifCond .ne 98, [68])) rfl) (decide_eq_true hc6)) ?_
        refine Q.run zm105 1 (i' := 69) (ls' := [some (.ref 106), some (.int x1), some (.int x2), g3]) (st' := [.int x2]) rfl ?_
        obtain ⟨hc11, h⟩ := ite_so h
        cases h
        exact Q.ret (A.ri zm105 (show zM105.2.2.2.2.2[69]? = some (133, 1, .ireturn, []) from rfl) rfl (fit1 hc11)) hl
def dm105 (x1 : Int32) (s : aS) : Option (Int32 × aS) :=
  bu (dm26 107 s) fun s3 =>
  nx (wI s3 106 7 ((sI s3 106 7) + 1)) fun s4 =>
  dm105_11 5000 x1 0 s4
set_option maxRecDepth 100000 in
theorem dt105 {sio : Bool} {tt : Nat} {cc : Nat → Nat → Int32} {d : Nat} (hd : 1 ≤ d) {x1 : Int32} {s : aS} (hl : Ly tt cc s) {o : Int32 × aS} (h : dm105  x1 s = some o) : Q 1 sio tt cc d 105 0 [some (.ref 106), some (.int x1), none, none] [] s (.inl (some (.int o.1)), o.2) := by
  unfold dm105 at h
  obtain ⟨d, rfl⟩ : ∃ e, d = e + 1 := ⟨d - 1, by omega⟩
  refine Q.run zm105 3 (i' := 3) (ls' := [some (.ref 106), some (.int x1), some (.int 0), none]) (st' := [.ref 106]) rfl ?_
  refine Q.map (A.gf (gI_of zm105 (e := (3, 3, .getfield 14, [4, 2])) rfl) (hl.lt (a := 106) (by decide)) (hl.T (a := 106) (p := (4, 13)) 28 rfl rfl) (by decide) (hl.R 10 rfl)) ?_
  obtain ⟨s3, hc2, h⟩ := bu_so h
  have hq1 : Q 1 sio tt cc d 26 0 [some (.ref 107)] [] s (.inl none, s3) := dt26 (by omega) hl (hl.Kd (a := 107) (c := 1) (n := 2) 29 rfl rfl (by decide)) hc2
  refine Q.callV (gC_vi zm105 (show zM105.2.2.2.2.2[4]? = some (6, 3, .invokevirtual 218, [0, 26, 0, 1]) from rfl) zm26 (hl.lt (a := 107) (by decide)) (hl.T (a := 107) (p := (1, 2)) 29 rfl rfl) rfl (show aCr 0 107 [.ref 107] 1 = some ([some (.ref 107)], []) from rfl)) hq1 ?_
  refine Q.run zm105 2 (i' := 7) (ls' := [some (.ref 106), some (.int x1), some (.int 0), none]) (st' := [.ref 106, .ref 106]) rfl ?_
  refine Q.map (A.gf (gI_of zm105 (e := (11, 3, .getfield 61, [4, 7])) rfl) (hq1.1.lt (a := 106) (by decide)) (hq1.1.T (a := 106) (p := (4, 13)) 28 rfl rfl) (by decide) rfl) ?_
  refine Q.run zm105 2 (i' := 10) (ls' := [some (.ref 106), some (.int x1), some (.int 0), none]) (st' := [.int ((sI s3 106 7) + 1), .ref 106]) rfl ?_
  obtain ⟨s4, hs5, h⟩ := nx_so h
  refine Q.pf hs5 rfl (gI_of zm105 (e := (16, 3, .putfield 61, [4, 7, 0])) rfl) (hq1.1.lt (a := 106) (by decide)) (by decide) (hq1.1.T (a := 106) (p := (4, 13)) 28 rfl rfl) (by decide) rfl rfl ?_
  have hl6 : Ly tt cc s4 := by rw [hs5]; exact hq1.1.wId (by decide)
  exact dt105_11 hd _ hl6  h
/-! 107 FormulaTrees$Tree.giveLetters(ILFormulaTrees$Letters;)V -/
set_option maxRecDepth 100000 in
theorem zm107 : zP[107]? = some zM107 := rfl
def dm107_15 : Nat → Nat → Nat → Int32 → aS → Option (aS)
  | 0, _, _, _, _ => none
  | n + 1, b0, b2, x3, s =>
    bu (dm28 b2 s) fun r3 =>
    if r3 ≤ x3 then
      some s
    else
      bu (dm34 b2 x3 s) fun r7 =>
      bu (dm29 (b0 + 2) r7 s) fun s10 =>
      dm107_15 n b0 b2 (x3 + 1) s10
set_option maxRecDepth 100000 in
theorem dt107_15 {sio : Bool} {tt : Nat} {cc : Nat → Nat → Int32} {d : Nat} (hd : 1 ≤ d) : ∀ (n : Nat) {b0 : Nat} {b2 : Nat} {x3 : Int32} {x1 : Int32} {s : aS} (_ : Ly tt cc s) (_ : aK s b0 3) (_ : aK s b2 1) {o : aS} (_ : dm107_15  n b0 b2 x3 s = some o), Q 1 sio tt cc d 107 15 [some (.ref b0), some (.int x1), some (.ref b2), some (.int x3)] [] s (.inl none, o) := by
  obtain ⟨d, rfl⟩ : ∃ e, d = e + 1 := ⟨d - 1, by omega⟩
  intro n
  induction n with
  | zero => intro b0 b2 x3 x1 s hl hk_b0 hk_b2 o h; rw [dm107_15] at h; cases h
  | succ n ih =>
    intro b0 b2 x3 x1 s hl hk_b0 hk_b2 o h
    rw [dm107_15] at h
    refine Q.run zm107 2 (i' := 17) (ls' := [some (.ref b0), some (.int x1), some (.ref b2), some (.int x3)]) (st' := [.ref b2, .int x3]) rfl ?_
    obtain ⟨r3, hc2, h⟩ := bu_so h
    have hq1 : Q 1 sio tt cc d 28 0 [some (.ref b2)] [] s (.inl (some (.int r3)), s) := dt28 (by omega) hl hk_b2 hc2
    refine Q.callI (gC_vi zm107 (show zM107.2.2.2.2.2[17]? = some (29, 3, .invokevirtual 47, [0, 28, 0, 1]) from rfl) zm28 hk_b2.1 (hl.le hk_b2).1 rfl (show aCr 0 b2 [.ref b2, .int x3] 1 = some ([some (.ref b2)], [.int x3]) from rfl)) hq1 ?_
    by_cases hc4 : r3 ≤ x3
    · rw [if_pos hc4] at h
      refine Q.map (A.bT (gI_of zm107 (e := (32, 3, .if_icmp .ge 21, [27])) rfl) (decide_eq_true hc4)) ?_
      cases h
      exact Q.ret (A.rv zm107 (show zM107.2.2.2.2.2[27]? = some (53, 1, .return_, []) from rfl) rfl) hl
    · rw [if_neg hc4] at h
      refine Q.map (A.bF (gI_of zm107 (e := (32, 3, .if_icmp .ge 21, [27])) rfl) (fun q => hc4 (of_decide_eq_true q))) ?_
      refine Q.run zm107 1 (i' := 20) (ls' := [some (.ref b0), some (.int x1), some (.ref b2), some (.int x3)]) (st' := [.ref b0]) rfl ?_
      refine Q.map (A.gf (gI_of zm107 (e := (36, 3, .getfield 20, [3, 1])) rfl) hk_b0.1 (hl.tr hk_b0).1 (by decide) (hl.tr hk_b0).2.2.1) ?_
      refine Q.run zm107 2 (i' := 23) (ls' := [some (.ref b0), some (.int x1), some (.ref b2), some (.int x3)]) (st' := [.int x3, .ref b2, .ref (b0 + 2)]) rfl ?_
      obtain ⟨r7, hc6, h⟩ := bu_so h
      have hq5 : Q 1 sio tt cc d 34 0 [some (.ref b2), some (.int x3)] [] s (.inl (some (.int r7)), s) := dt34 (by omega) hl hk_b2 hc6
      refine Q.callI (gC_vi zm107 (show zM107.2.2.2.2.2[23]? = some (41, 3, .invokevirtual 32, [0, 34, 1, 1]) from rfl) zm34 hk_b2.1 (hl.le hk_b2).1 rfl (show aCr 1 b2 [.int x3, .ref b2, .ref (b0 + 2)] 2 = some ([some (.ref b2), some (.int x3)], [.ref (b0 + 2)]) from rfl)) hq5 ?_
      obtain ⟨s10, hc9, h⟩ := bu_so h
      have hq8 : Q 1 sio tt cc d 29 0 [some (.ref (b0 + 2)), some (.int r7)] [] s (.inl none, s10) := dt29 (by omega) hl (hl.leK hk_b0) hc9
      refine Q.callV (gC_vi zm107 (show zM107.2.2.2.2.2[24]? = some (44, 3, .invokevirtual 54, [0, 29, 1, 1]) from rfl) zm29 (by have := (hl.tr hk_b0).2.2.2.1; omega) (hl.tr hk_b0).2.2.2.2.2.1 rfl (show aCr 1 (b0 + 2) [.int r7, .ref (b0 + 2)] 2 = some ([some (.ref (b0 + 2)), some (.int r7)], []) from rfl)) hq8 ?_
      have hr11 : aK s10 b0 3 := hq8.2.1.k hk_b0
      have hr12 : aK s10 b2 1 := hq8.2.1.k hk_b2
      refine Q.run zm107 2 (i' := 15) (ls' := [some (.ref b0), some (.int x1), some (.ref b2), some (.int (x3 + 1))]) (st' := []) rfl ?_
      exact ih hq8.1 hr11 hr12 h
def dm107 (b0 : Nat) (x1 : Int32) (b2 : Nat) (s : aS) : Option (aS) :=
  bu (dm28 (b0 + 2) s) fun r3 =>
  bu (dm60 b0 x1 9 r3 s) fun s6 =>
  bu (dm28 b2 s6) fun r11 =>
  bu (dm60 b0 x1 10 r11 s6) fun s14 =>
  dm107_15 5000 b0 b2 0 s14
set_option maxRecDepth 100000 in
theorem dt107 {sio : Bool} {tt : Nat} {cc : Nat → Nat → Int32} {d : Nat} (hd : 1 ≤ d) {b0 : Nat} {x1 : Int32} {b2 : Nat} {s : aS} (hl : Ly tt cc s) (hk_b0 : aK s b0 3) (hk_b2 : aK s b2 1) {o : aS} (h : dm107  b0 x1 b2 s = some o) : Q 1 sio tt cc d 107 0 [some (.ref b0), some (.int x1), some (.ref b2), none] [] s (.inl none, o) := by
  unfold dm107 at h
  obtain ⟨d, rfl⟩ : ∃ e, d = e + 1 := ⟨d - 1, by omega⟩
  refine Q.run zm107 4 (i' := 4) (ls' := [some (.ref b0), some (.int x1), some (.ref b2), none]) (st' := [.ref b0, .int 9, .int x1, .ref b0]) rfl ?_
  refine Q.map (A.gf (gI_of zm107 (e := (5, 3, .getfield 20, [3, 1])) rfl) hk_b0.1 (hl.tr hk_b0).1 (by decide) (hl.tr hk_b0).2.2.1) ?_
  obtain ⟨r3, hc2, h⟩ := bu_so h
  have hq1 : Q 1 sio tt cc d 28 0 [some (.ref (b0 + 2))] [] s (.inl (some (.int r3)), s) := dt28 (by omega) hl (hl.leK hk_b0) hc2
  refine Q.callI (gC_vi zm107 (show zM107.2.2.2.2.2[5]? = some (8, 3, .invokevirtual 47, [0, 28, 0, 1]) from rfl) zm28 (by have := (hl.tr hk_b0).2.2.2.1; omega) (hl.tr hk_b0).2.2.2.2.2.1 rfl (show aCr 0 (b0 + 2) [.ref (b0 + 2), .int 9, .int x1, .ref b0] 1 = some ([some (.ref (b0 + 2))], [.int 9, .int x1, .ref b0]) from rfl)) hq1 ?_
  obtain ⟨s6, hc5, h⟩ := bu_so h
  have hq4 : Q 1 sio tt cc d 60 0 [some (.ref b0), some (.int x1), some (.int 9), some (.int r3)] [] s (.inl none, s6) := dt60 (by omega) hl hk_b0 hc5
  refine Q.callV (gC_vi zm107 (show zM107.2.2.2.2.2[6]? = some (11, 3, .invokevirtual 51, [0, 60, 3, 3]) from rfl) zm60 hk_b0.1 (hl.tr hk_b0).1 rfl (show aCr 3 b0 [.int r3, .int 9, .int x1, .ref b0] 4 = some ([some (.ref b0), some (.int x1), some (.int 9), some (.int r3)], []) from rfl)) hq4 ?_
  have hr7 : aK s6 b0 3 := hq4.2.1.k hk_b0
  have hr8 : aK s6 b2 1 := hq4.2.1.k hk_b2
  refine Q.run zm107 4 (i' := 11) (ls' := [some (.ref b0), some (.int x1), some (.ref b2), none]) (st' := [.ref b2, .int 10, .int x1, .ref b0]) rfl ?_
  obtain ⟨r11, hc10, h⟩ := bu_so h
  have hq9 : Q 1 sio tt cc d 28 0 [some (.ref b2)] [] s6 (.inl (some (.int r11)), s6) := dt28 (by omega) hq4.1 hr8 hc10
  refine Q.callI (gC_vi zm107 (show zM107.2.2.2.2.2[11]? = some (19, 3, .invokevirtual 47, [0, 28, 0, 1]) from rfl) zm28 hr8.1 (hq4.1.le hr8).1 rfl (show aCr 0 b2 [.ref b2, .int 10, .int x1, .ref b0] 1 = some ([some (.ref b2)], [.int 10, .int x1, .ref b0]) from rfl)) hq9 ?_
  obtain ⟨s14, hc13, h⟩ := bu_so h
  have hq12 : Q 1 sio tt cc d 60 0 [some (.ref b0), some (.int x1), some (.int 10), some (.int r11)] [] s6 (.inl none, s14) := dt60 (by omega) hq4.1 hr7 hc13
  refine Q.callV (gC_vi zm107 (show zM107.2.2.2.2.2[12]? = some (22, 3, .invokevirtual 51, [0, 60, 3, 3]) from rfl) zm60 hr7.1 (hq4.1.tr hr7).1 rfl (show aCr 3 b0 [.int r11, .int 10, .int x1, .ref b0] 4 = some ([some (.ref b0), some (.int x1), some (.int 10), some (.int r11)], []) from rfl)) hq12 ?_
  have hr15 : aK s14 b0 3 := hq12.2.1.k hr7
  have hr16 : aK s14 b2 1 := hq12.2.1.k hr8
  refine Q.run zm107 2 (i' := 15) (ls' := [some (.ref b0), some (.int x1), some (.ref b2), some (.int 0)]) (st' := []) rfl ?_
  exact dt107_15 hd _ hq12.1 hr15 hr16 h
/-! 106 FormulaTrees$Reader.keepHeld(II)V -/
set_option maxRecDepth 100000 in
theorem zm106 : zP[106]? = some zM106 := rfl
def dm106 (x1 : Int32) (x2 : Int32) (s : aS) : Option (aS) :=
  bv (dm70 x2 s) fun r4 s3 =>
  if r4 = 0 then
    some s3
  else
    vN (sR s3 106 6) (
      none
    ) fun b7 =>
      if aK s3 b7 3 then
        bu (dm94 b7 s3) fun r11 =>
        vN (sR s3 106 6) (
          none
        ) fun b13 =>
          if aK s3 b13 3 then
            bu (dm72 b13 r11 x1 0 s3) fun s17 =>
            vN (sR s17 106 6) (
              none
            ) fun b21 =>
              if aK s17 b21 3 then
                bu (dm107 b21 r11 107 s17) fun s25 =>
                bu (dm81 r11 s25) fun s31 =>
                some s31
              else none
          else none
      else none
set_option maxRecDepth 100000 in
theorem dt106 {sio : Bool} {tt : Nat} {cc : Nat → Nat → Int32} {d : Nat} (hd : 2 ≤ d) {x1 : Int32} {x2 : Int32} {s : aS} (hl : Ly tt cc s) {o : aS} (h : dm106  x1 x2 s = some o) : Q 1 sio tt cc d 106 0 [some (.ref 106), some (.int x1), some (.int x2), none] [] s (.inl none, o) := by
  unfold dm106 at h
  obtain ⟨d, rfl⟩ : ∃ e, d = e + 1 := ⟨d - 1, by omega⟩
  refine Q.run zm106 2 (i' := 2) (ls' := [some (.ref 106), some (.int x1), some (.int x2), none]) (st' := [.int x2, .ref 106]) rfl ?_
  obtain ⟨r4, s3, hc2, h⟩ := bv_so h
  have hq1 : Q 1 sio tt cc d 70 0 [some (.ref 106), some (.int x2), none] [] s (.inl (some (.int r4)), s3) := dt70 (by omega) hl  hc2
  refine Q.callI (gC_vi zm106 (show zM106.2.2.2.2.2[2]? = some (2, 3, .invokevirtual 144, [0, 70, 1, 4]) from rfl) zm70 (hl.lt (a := 106) (by decide)) (hl.T (a := 106) (p := (4, 13)) 28 rfl rfl) rfl (show aCr 1 106 [.int x2, .ref 106] 3 = some ([some (.ref 106), some (.int x2), none], []) from rfl)) hq1 ?_
  by_cases hc5 : r4 = 0
  · rw [if_pos hc5] at h
    refine Q.map (A.zT (gI_of zm106 (e := (5, 3, .ifCond .eq 38, [23])) rfl) (decide_eq_true hc5)) ?_
    cases h
    exact Q.ret (A.rv zm106 (show zM106.2.2.2.2.2[23]? = some (43, 1, .return_, []) from rfl) rfl) hq1.1
  · rw [if_neg hc5] at h
    refine Q.map (A.zF (gI_of zm106 (e := (5, 3, .ifCond .eq 38, [23])) rfl) (fun q => hc5 (of_decide_eq_true q))) ?_
    refine Q.run zm106 1 (i' := 5) (ls' := [some (.ref 106), some (.int x1), some (.int x2), none]) (st' := [.ref 106]) rfl ?_
    rcases vN_so h with ⟨hv6, h⟩ | ⟨b7, hv6, h⟩
    · refine Q.map (A.gf (gI_of zm106 (e := (9, 3, .getfield 48, [4, 6])) rfl) (hq1.1.lt (a := 106) (by decide)) (hq1.1.T (a := 106) (p := (4, 13)) 28 rfl rfl) (by decide) hv6) ?_
      cases h
    · obtain ⟨hr8, h⟩ := ite_so h
      refine Q.map (A.gf (gI_of zm106 (e := (9, 3, .getfield 48, [4, 6])) rfl) (hq1.1.lt (a := 106) (by decide)) (hq1.1.T (a := 106) (p := (4, 13)) 28 rfl rfl) (by decide) hv6) ?_
      obtain ⟨r11, hc10, h⟩ := bu_so h
      have hq9 : Q 1 sio tt cc d 94 0 [some (.ref b7)] [] s3 (.inl (some (.int r11)), s3) := dt94 (by omega) hq1.1 hr8 hc10
      refine Q.callI (gC_vi zm106 (show zM106.2.2.2.2.2[6]? = some (12, 3, .invokevirtual 116, [0, 94, 0, 3]) from rfl) zm94 hr8.1 (hq1.1.tr hr8).1 rfl (show aCr 0 b7 [.ref b7] 1 = some ([some (.ref b7)], []) from rfl)) hq9 ?_
      refine Q.run zm106 2 (i' := 9) (ls' := [some (.ref 106), some (.int x1), some (.int x2), some (.int r11)]) (st' := [.ref 106]) rfl ?_
      rcases vN_so h with ⟨hv12, h⟩ | ⟨b13, hv12, h⟩
      · refine Q.map (A.gf (gI_of zm106 (e := (17, 3, .getfield 48, [4, 6])) rfl) (hq1.1.lt (a := 106) (by decide)) (hq1.1.T (a := 106) (p := (4, 13)) 28 rfl rfl) (by decide) hv12) ?_
        refine Q.run zm106 3 (i' := 13) (ls' := [some (.ref 106), some (.int x1), some (.int x2), some (.int r11)]) (st' := [.int 0, .int x1, .int r11, .null]) rfl ?_
        cases h
      · obtain ⟨hr14, h⟩ := ite_so h
        refine Q.map (A.gf (gI_of zm106 (e := (17, 3, .getfield 48, [4, 6])) rfl) (hq1.1.lt (a := 106) (by decide)) (hq1.1.T (a := 106) (p := (4, 13)) 28 rfl rfl) (by decide) hv12) ?_
        refine Q.run zm106 3 (i' := 13) (ls' := [some (.ref 106), some (.int x1), some (.int x2), some (.int r11)]) (st' := [.int 0, .int x1, .int r11, .ref b13]) rfl ?_
        obtain ⟨s17, hc16, h⟩ := bu_so h
        have hq15 : Q 1 sio tt cc d 72 0 [some (.ref b13), some (.int r11), some (.int x1), some (.int 0), none] [] s3 (.inl none, s17) := dt72 (by omega) hq1.1 hr14 hc16
        refine Q.callV (gC_vi zm106 (show zM106.2.2.2.2.2[13]? = some (23, 3, .invokevirtual 150, [0, 72, 3, 3]) from rfl) zm72 hr14.1 (hq1.1.tr hr14).1 rfl (show aCr 3 b13 [.int 0, .int x1, .int r11, .ref b13] 5 = some ([some (.ref b13), some (.int r11), some (.int x1), some (.int 0), none], []) from rfl)) hq15 ?_
        have hr18 : aK s17 b7 3 := hq15.2.1.k hr8
        have hr19 : aK s17 b13 3 := hq15.2.1.k hr14
        refine Q.run zm106 1 (i' := 15) (ls' := [some (.ref 106), some (.int x1), some (.int x2), some (.int r11)]) (st' := [.ref 106]) rfl ?_
        rcases vN_so h with ⟨hv20, h⟩ | ⟨b21, hv20, h⟩
        · refine Q.map (A.gf (gI_of zm106 (e := (27, 3, .getfield 48, [4, 6])) rfl) (hq15.1.lt (a := 106) (by decide)) (hq15.1.T (a := 106) (p := (4, 13)) 28 rfl rfl) (by decide) hv20) ?_
          refine Q.run zm106 2 (i' := 18) (ls' := [some (.ref 106), some (.int x1), some (.int x2), some (.int r11)]) (st' := [.ref 106, .int r11, .null]) rfl ?_
          refine Q.map (A.gf (gI_of zm106 (e := (32, 3, .getfield 14, [4, 2])) rfl) (hq15.1.lt (a := 106) (by decide)) (hq15.1.T (a := 106) (p := (4, 13)) 28 rfl rfl) (by decide) (hq15.1.R 10 rfl)) ?_
          cases h
        · obtain ⟨hr22, h⟩ := ite_so h
          refine Q.map (A.gf (gI_of zm106 (e := (27, 3, .getfield 48, [4, 6])) rfl) (hq15.1.lt (a := 106) (by decide)) (hq15.1.T (a := 106) (p := (4, 13)) 28 rfl rfl) (by decide) hv20) ?_
          refine Q.run zm106 2 (i' := 18) (ls' := [some (.ref 106), some (.int x1), some (.int x2), some (.int r11)]) (st' := [.ref 106, .int r11, .ref b21]) rfl ?_
          refine Q.map (A.gf (gI_of zm106 (e := (32, 3, .getfield 14, [4, 2])) rfl) (hq15.1.lt (a := 106) (by decide)) (hq15.1.T (a := 106) (p := (4, 13)) 28 rfl rfl) (by decide) (hq15.1.R 10 rfl)) ?_
          obtain ⟨s25, hc24, h⟩ := bu_so h
          have hq23 : Q 1 sio tt cc d 107 0 [some (.ref b21), some (.int r11), some (.ref 107), none] [] s17 (.inl none, s25) := dt107 (by omega) hq15.1 hr22 (hq15.1.Kd (a := 107) (c := 1) (n := 2) 29 rfl rfl (by decide)) hc24
          refine Q.callV (gC_vi zm106 (show zM106.2.2.2.2.2[19]? = some (35, 3, .invokevirtual 221, [0, 107, 2, 3]) from rfl) zm107 hr22.1 (hq15.1.tr hr22).1 rfl (show aCr 2 b21 [.ref 107, .int r11, .ref b21] 4 = some ([some (.ref b21), some (.int r11), some (.ref 107), none], []) from rfl)) hq23 ?_
          have hr26 : aK s25 b7 3 := hq23.2.1.k hr18
          have hr27 : aK s25 b13 3 := hq23.2.1.k hr19
          have hr28 : aK s25 b21 3 := hq23.2.1.k hr22
          refine Q.run zm106 2 (i' := 22) (ls' := [some (.ref 106), some (.int x1), some (.int x2), some (.int r11)]) (st' := [.int r11, .ref 106]) rfl ?_
          obtain ⟨s31, hc30, h⟩ := bu_so h
          have hq29 : Q 1 sio tt cc d 81 0 [some (.ref 106), some (.int r11)] [] s25 (.inl none, s31) := dt81 (by omega) hq23.1  hc30
          refine Q.callV (gC_vi zm106 (show zM106.2.2.2.2.2[22]? = some (40, 3, .invokevirtual 186, [0, 81, 1, 4]) from rfl) zm81 (hq23.1.lt (a := 106) (by decide)) (hq23.1.T (a := 106) (p := (4, 13)) 28 rfl rfl) rfl (show aCr 1 106 [.int r11, .ref 106] 2 = some ([some (.ref 106), some (.int r11)], []) from rfl)) hq29 ?_
          have hr32 : aK s31 b7 3 := hq29.2.1.k hr26
          have hr33 : aK s31 b13 3 := hq29.2.1.k hr27
          have hr34 : aK s31 b21 3 := hq29.2.1.k hr28
          cases h
          exact Q.ret (A.rv zm106 (show zM106.2.2.2.2.2[23]? = some (43, 1, .return_, []) from rfl) rfl) hq29.1
/-! 104 FormulaTrees$Reader.readText()V -/
set_option maxRecDepth 100000 in
theorem zm104 : zP[104]? = some zM104 := rfl
def dm104 (s : aS) : Option (aS) :=
  bv (dm105 34 s) fun r4 s3 =>
  if r4 = 0 then
    nx (wI s3 106 8 (sI s3 106 7)) fun s6 =>
    some s6
  else
    bu (dm106 1 (sI s 106 7) s3) fun s11 =>
    some s11
set_option maxRecDepth 100000 in
theorem dt104 {sio : Bool} {tt : Nat} {cc : Nat → Nat → Int32} {d : Nat} (hd : 3 ≤ d) {s : aS} (hl : Ly tt cc s) {o : aS} (h : dm104  s = some o) : Q 1 sio tt cc d 104 0 [some (.ref 106), none] [] s (.inl none, o) := by
  unfold dm104 at h
  obtain ⟨d, rfl⟩ : ∃ e, d = e + 1 := ⟨d - 1, by omega⟩
  refine Q.run zm104 1 (i' := 1) (ls' := [some (.ref 106), none]) (st' := [.ref 106]) rfl ?_
  refine Q.map (A.gf (gI_of zm104 (e := (1, 3, .getfield 61, [4, 7])) rfl) (hl.lt (a := 106) (by decide)) (hl.T (a := 106) (p := (4, 13)) 28 rfl rfl) (by decide) rfl) ?_
  refine Q.run zm104 3 (i' := 5) (ls' := [some (.ref 106), some (.int (sI s 106 7))]) (st' := [.int 34, .ref 106]) rfl ?_
  obtain ⟨r4, s3, hc2, h⟩ := bv_so h
  have hq1 : Q 1 sio tt cc d 105 0 [some (.ref 106), some (.int 34), none, none] [] s (.inl (some (.int r4)), s3) := dt105 (by omega) hl  hc2
  refine Q.callI (gC_vi zm104 (show zM104.2.2.2.2.2[5]? = some (8, 3, .invokevirtual 225, [0, 105, 1, 4]) from rfl) zm105 (hl.lt (a := 106) (by decide)) (hl.T (a := 106) (p := (4, 13)) 28 rfl rfl) rfl (show aCr 1 106 [.int 34, .ref 106] 4 = some ([some (.ref 106), some (.int 34), none, none], []) from rfl)) hq1 ?_
  by_cases hc5 : r4 = 0
  · rw [if_pos hc5] at h
    refine Q.map (A.zT (gI_of zm104 (e := (11, 3, .ifCond .eq 12, [12])) rfl) (decide_eq_true hc5)) ?_
    refine Q.run zm104 2 (i' := 14) (ls' := [some (.ref 106), some (.int (sI s 106 7))]) (st' := [.ref 106, .ref 106]) rfl ?_
    refine Q.map (A.gf (gI_of zm104 (e := (25, 3, .getfield 61, [4, 7])) rfl) (hq1.1.lt (a := 106) (by decide)) (hq1.1.T (a := 106) (p := (4, 13)) 28 rfl rfl) (by decide) rfl) ?_
    obtain ⟨s6, hs7, h⟩ := nx_so h
    refine Q.pf hs7 rfl (gI_of zm104 (e := (28, 3, .putfield 65, [4, 8, 0])) rfl) (hq1.1.lt (a := 106) (by decide)) (by decide) (hq1.1.T (a := 106) (p := (4, 13)) 28 rfl rfl) (by decide) rfl rfl ?_
    have hl8 : Ly tt cc s6 := by rw [hs7]; exact hq1.1.wId (by decide)
    cases h
    exact Q.ret (A.rv zm104 (show zM104.2.2.2.2.2[16]? = some (31, 1, .return_, []) from rfl) rfl) hl8
  · rw [if_neg hc5] at h
    refine Q.map (A.zF (gI_of zm104 (e := (11, 3, .ifCond .eq 12, [12])) rfl) (fun q => hc5 (of_decide_eq_true q))) ?_
    refine Q.run zm104 3 (i' := 10) (ls' := [some (.ref 106), some (.int (sI s 106 7))]) (st' := [.int (sI s 106 7), .int 1, .ref 106]) rfl ?_
    obtain ⟨s11, hc10, h⟩ := bu_so h
    have hq9 : Q 1 sio tt cc d 106 0 [some (.ref 106), some (.int 1), some (.int (sI s 106 7)), none] [] s3 (.inl none, s11) := dt106 (by omega) hq1.1  hc10
    refine Q.callV (gC_vi zm104 (show zM104.2.2.2.2.2[10]? = some (17, 3, .invokevirtual 215, [0, 106, 2, 4]) from rfl) zm106 (hq1.1.lt (a := 106) (by decide)) (hq1.1.T (a := 106) (p := (4, 13)) 28 rfl rfl) rfl (show aCr 2 106 [.int (sI s 106 7), .int 1, .ref 106] 4 = some ([some (.ref 106), some (.int 1), some (.int (sI s 106 7)), none], []) from rfl)) hq9 ?_
    refine Q.run zm104 1 (i' := 16) (ls' := [some (.ref 106), some (.int (sI s 106 7))]) (st' := []) rfl ?_
    cases h
    exact Q.ret (A.rv zm104 (show zM104.2.2.2.2.2[16]? = some (31, 1, .return_, []) from rfl) rfl) hq9.1
/-! 110 FormulaTrees.errorName(I)Ljava/lang/String; -/
set_option maxRecDepth 100000 in
theorem zm110 : zP[110]? = some zM110 := rfl
def dm110 (x0 : Int32) : Option (Value) :=
  if x0 = 1 then
    some (.ref 21)
  else
    if x0 = 2 then
      some (.ref 23)
    else
      if x0 = 3 then
        some (.ref 25)
      else
        if x0 = 4 then
          some (.ref 27)
        else
          if x0 = 5 then
            some (.ref 29)
          else
            if x0 = 6 then
              some (.ref 31)
            else
              some (.ref 33)
set_option maxRecDepth 100000 in
theorem dt110 {sio : Bool} {tt : Nat} {cc : Nat → Nat → Int32} {d : Nat} (hd : 0 ≤ d) {x0 : Int32} {s : aS} (hl : Ly tt cc s) {o : Value} (h : dm110  x0 = some o) : Q 1 sio tt cc d 110 0 [some (.int x0)] [] s (.inl (some o), s) := by
  unfold dm110 at h
  refine Q.run zm110 1 (i' := 1) (ls' := [some (.int x0)]) (st' := [.int x0]) rfl ?_
  by_cases hc1 : x0 = 1
  · rw [if_pos hc1] at h
    refine Q.map (A.ts (gI_of zm110 (e := (1, 39, .tableswitch 57 1 6 #[39, 42, 45, 48, 51, 54], [14, 2, 4, 6, 8, 10, 12])) rfl) (t := 2) (by rw [hc1] <;> decide)) ?_
    refine Q.run zm110 1 (i' := 3) (ls' := [some (.int x0)]) (st' := [.ref 21]) rfl ?_
    cases h
    exact Q.ret (A.ra zm110 (show zM110.2.2.2.2.2[3]? = some (42, 1, .areturn, []) from rfl) rfl rfl rfl) hl
  · rw [if_neg hc1] at h
    by_cases hc2 : x0 = 2
    · rw [if_pos hc2] at h
      refine Q.map (A.ts (gI_of zm110 (e := (1, 39, .tableswitch 57 1 6 #[39, 42, 45, 48, 51, 54], [14, 2, 4, 6, 8, 10, 12])) rfl) (t := 4) (by rw [hc2] <;> decide)) ?_
      refine Q.run zm110 1 (i' := 5) (ls' := [some (.int x0)]) (st' := [.ref 23]) rfl ?_
      cases h
      exact Q.ret (A.ra zm110 (show zM110.2.2.2.2.2[5]? = some (45, 1, .areturn, []) from rfl) rfl rfl rfl) hl
    · rw [if_neg hc2] at h
      by_cases hc3 : x0 = 3
      · rw [if_pos hc3] at h
        refine Q.map (A.ts (gI_of zm110 (e := (1, 39, .tableswitch 57 1 6 #[39, 42, 45, 48, 51, 54], [14, 2, 4, 6, 8, 10, 12])) rfl) (t := 6) (by rw [hc3] <;> decide)) ?_
        refine Q.run zm110 1 (i' := 7) (ls' := [some (.int x0)]) (st' := [.ref 25]) rfl ?_
        cases h
        exact Q.ret (A.ra zm110 (show zM110.2.2.2.2.2[7]? = some (48, 1, .areturn, []) from rfl) rfl rfl rfl) hl
      · rw [if_neg hc3] at h
        by_cases hc4 : x0 = 4
        · rw [if_pos hc4] at h
          refine Q.map (A.ts (gI_of zm110 (e := (1, 39, .tableswitch 57 1 6 #[39, 42, 45, 48, 51, 54], [14, 2, 4, 6, 8, 10, 12])) rfl) (t := 8) (by rw [hc4] <;> decide)) ?_
          refine Q.run zm110 1 (i' := 9) (ls' := [some (.int x0)]) (st' := [.ref 27]) rfl ?_
          cases h
          exact Q.ret (A.ra zm110 (show zM110.2.2.2.2.2[9]? = some (51, 1, .areturn, []) from rfl) rfl rfl rfl) hl
        · rw [if_neg hc4] at h
          by_cases hc5 : x0 = 5
          · rw [if_pos hc5] at h
            refine Q.map (A.ts (gI_of zm110 (e := (1, 39, .tableswitch 57 1 6 #[39, 42, 45, 48, 51, 54], [14, 2, 4, 6, 8, 10, 12])) rfl) (t := 10) (by rw [hc5] <;> decide)) ?_
            refine Q.run zm110 1 (i' := 11) (ls' := [some (.int x0)]) (st' := [.ref 29]) rfl ?_
            cases h
            exact Q.ret (A.ra zm110 (show zM110.2.2.2.2.2[11]? = some (54, 1, .areturn, []) from rfl) rfl rfl rfl) hl
          · rw [if_neg hc5] at h
            by_cases hc6 : x0 = 6
            · rw [if_pos hc6] at h
              refine Q.map (A.ts (gI_of zm110 (e := (1, 39, .tableswitch 57 1 6 #[39, 42, 45, 48, 51, 54], [14, 2, 4, 6, 8, 10, 12])) rfl) (t := 12) (by rw [hc6] <;> decide)) ?_
              refine Q.run zm110 1 (i' := 13) (ls' := [some (.int x0)]) (st' := [.ref 31]) rfl ?_
              cases h
              exact Q.ret (A.ra zm110 (show zM110.2.2.2.2.2[13]? = some (57, 1, .areturn, []) from rfl) rfl rfl rfl) hl
            · rw [if_neg hc6] at h
              refine Q.map (A.ts (gI_of zm110 (e := (1, 39, .tableswitch 57 1 6 #[39, 42, 45, 48, 51, 54], [14, 2, 4, 6, 8, 10, 12])) rfl) (t := 14) (by have := (show x0.toInt ≠ 1 ∧ x0.toInt ≠ 2 ∧ x0.toInt ≠ 3 ∧ x0.toInt ≠ 4 ∧ x0.toInt ≠ 5 ∧ x0.toInt ≠ 6 from ⟨i32_ne (n := 1) hc1 (by decide), i32_ne (n := 2) hc2 (by decide), i32_ne (n := 3) hc3 (by decide), i32_ne (n := 4) hc4 (by decide), i32_ne (n := 5) hc5 (by decide), i32_ne (n := 6) hc6 (by decide)⟩); rw [if_pos]; omega)) ?_
              refine Q.run zm110 1 (i' := 15) (ls' := [some (.int x0)]) (st' := [.ref 33]) rfl ?_
              cases h
              exact Q.ret (A.ra zm110 (show zM110.2.2.2.2.2[15]? = some (60, 1, .areturn, []) from rfl) rfl rfl rfl) hl
/-! 109 FormulaTrees$Reader.errorThatBegins(II)I -/
set_option maxRecDepth 100000 in
theorem zm109 : zP[109]? = some zM109 := rfl
def dm109_2 : Nat → Int32 → Int32 → Int32 → aS → Option (Int32 × aS)
  | 0, _, _, _, _ => none
  | n + 1, x1, x2, x3, s =>
    if 7 < x3 then
      some (0, s)
    else
      bu (dm110 x3) fun r4 =>
      vR r4 fun b5 =>
      if aK s b5 70 then
        bv (dm49 79 b5 x2 x1 s) fun r11 s10 =>
        if r11 = 0 then
          dm109_2 n x1 x2 (x3 + 1) s10
        else
          some (x3, s10)
      else none
set_option maxRecDepth 100000 in
theorem dt109_2 {sio : Bool} {tt : Nat} {cc : Nat → Nat → Int32} {d : Nat} (hd : 5 ≤ d) : ∀ (n : Nat) {x1 : Int32} {x2 : Int32} {x3 : Int32} {s : aS} (_ : Ly tt cc s) {o : Int32 × aS} (_ : dm109_2  n x1 x2 x3 s = some o), Q 1 sio tt cc d 109 2 [some (.ref 106), some (.int x1), some (.int x2), some (.int x3)] [] s (.inl (some (.int o.1)), o.2) := by
  obtain ⟨d, rfl⟩ : ∃ e, d = e + 1 := ⟨d - 1, by omega⟩
  intro n
  induction n with
  | zero => intro x1 x2 x3 s hl o h; rw [dm109_2] at h; cases h
  | succ n ih =>
    intro x1 x2 x3 s hl o h
    rw [dm109_2] at h
    refine Q.run zm109 2 (i' := 4) (ls' := [some (.ref 106), some (.int x1), some (.int x2), some (.int x3)]) (st' := [.int 7, .int x3]) rfl ?_
    by_cases hc1 : 7 < x3
    · rw [if_pos hc1] at h
      refine Q.map (A.bT (gI_of zm109 (e := (5, 3, .if_icmp .gt 27, [17])) rfl) (decide_eq_true hc1)) ?_
      refine Q.run zm109 1 (i' := 18) (ls' := [some (.ref 106), some (.int x1), some (.int x2), some (.int x3)]) (st' := [.int 0]) rfl ?_
      cases h
      exact Q.ret (A.ri zm109 (show zM109.2.2.2.2.2[18]? = some (33, 1, .ireturn, []) from rfl) rfl rfl) hl
    · rw [if_neg hc1] at h
      refine Q.map (A.bF (gI_of zm109 (e := (5, 3, .if_icmp .gt 27, [17])) rfl) (fun q => hc1 (of_decide_eq_true q))) ?_
      refine Q.run zm109 1 (i' := 6) (ls' := [some (.ref 106), some (.int x1), some (.int x2), some (.int x3)]) (st' := [.ref 106]) rfl ?_
      refine Q.map (A.gf (gI_of zm109 (e := (9, 3, .getfield 41, [4, 0])) rfl) (hl.lt (a := 106) (by decide)) (hl.T (a := 106) (p := (4, 13)) 28 rfl rfl) (by decide) (hl.R 8 rfl)) ?_
      refine Q.run zm109 1 (i' := 8) (ls' := [some (.ref 106), some (.int x1), some (.int x2), some (.int x3)]) (st' := [.int x3, .ref 79]) rfl ?_
      obtain ⟨r4, hc3, h⟩ := bu_so h
      have hq2 : Q 1 sio tt cc d 110 0 [some (.int x3)] [] s (.inl (some r4), s) := dt110 (by omega) hl  hc3
      obtain ⟨b5, hv6, h9⟩ := vR_so h
      clear h
      subst hv6
      have h := h9
      obtain ⟨hr7, h⟩ := ite_so h
      refine Q.callR (gC_st zm109 (show zM109.2.2.2.2.2[8]? = some (13, 3, .invokestatic 231, [0, 110, 1]) from rfl) zm110 (show aC 1 [.int x3, .ref 79] 1 = some ([some (.int x3)], [.ref 79]) from rfl)) hq2 ?_
      refine Q.run zm109 2 (i' := 11) (ls' := [some (.ref 106), some (.int x1), some (.int x2), some (.int x3)]) (st' := [.int x1, .int x2, .ref b5, .ref 79]) rfl ?_
      obtain ⟨r11, s10, hc9, h⟩ := bv_so h
      have hq8 : Q 1 sio tt cc d 49 0 [some (.ref 79), some (.ref b5), some (.int x2), some (.int x1), none, none] [] s (.inl (some (.int r11)), s10) := dt49 (by omega) hl (hl.Kd (a := 79) (c := 1) (n := 2) 1 rfl rfl (by decide)) hr7 hc9
      refine Q.callI (gC_vi zm109 (show zM109.2.2.2.2.2[11]? = some (18, 3, .invokevirtual 241, [0, 49, 3, 1]) from rfl) zm49 (hl.lt (a := 79) (by decide)) (hl.T (a := 79) (p := (1, 2)) 1 rfl rfl) rfl (show aCr 3 79 [.int x1, .int x2, .ref b5, .ref 79] 6 = some ([some (.ref 79), some (.ref b5), some (.int x2), some (.int x1), none, none], []) from rfl)) hq8 ?_
      have hr12 : aK s10 b5 70 := hq8.2.1.k hr7
      by_cases hc13 : r11 = 0
      · rw [if_pos hc13] at h
        refine Q.map (A.zT (gI_of zm109 (e := (21, 3, .ifCond .eq 5, [15])) rfl) (decide_eq_true hc13)) ?_
        refine Q.run zm109 2 (i' := 2) (ls' := [some (.ref 106), some (.int x1), some (.int x2), some (.int (x3 + 1))]) (st' := []) rfl ?_
        exact ih hq8.1  h
      · rw [if_neg hc13] at h
        refine Q.map (A.zF (gI_of zm109 (e := (21, 3, .ifCond .eq 5, [15])) rfl) (fun q => hc13 (of_decide_eq_true q))) ?_
        refine Q.run zm109 1 (i' := 14) (ls' := [some (.ref 106), some (.int x1), some (.int x2), some (.int x3)]) (st' := [.int x3]) rfl ?_
        cases h
        exact Q.ret (A.ri zm109 (show zM109.2.2.2.2.2[14]? = some (25, 1, .ireturn, []) from rfl) rfl rfl) hq8.1
def dm109 (x1 : Int32) (x2 : Int32) (s : aS) : Option (Int32 × aS) :=
  dm109_2 5000 x1 x2 1 s
set_option maxRecDepth 100000 in
theorem dt109 {sio : Bool} {tt : Nat} {cc : Nat → Nat → Int32} {d : Nat} (hd : 5 ≤ d) {x1 : Int32} {x2 : Int32} {s : aS} (hl : Ly tt cc s) {o : Int32 × aS} (h : dm109  x1 x2 s = some o) : Q 1 sio tt cc d 109 0 [some (.ref 106), some (.int x1), some (.int x2), none] [] s (.inl (some (.int o.1)), o.2) := by
  unfold dm109 at h
  obtain ⟨d, rfl⟩ : ∃ e, d = e + 1 := ⟨d - 1, by omega⟩
  refine Q.run zm109 2 (i' := 2) (ls' := [some (.ref 106), some (.int x1), some (.int x2), some (.int 1)]) (st' := []) rfl ?_
  exact dt109_2 hd _ hl  h
/-! 111 FormulaTrees$Reader.keepValue(III)V -/
set_option maxRecDepth 100000 in
theorem zm111 : zP[111]? = some zM111 := rfl
def dm111 (x1 : Int32) (x2 : Int32) (x3 : Int32) (s : aS) : Option (aS) :=
  bv (dm70 x3 s) fun r4 s3 =>
  if r4 = 0 then
    some s3
  else
    vN (sR s3 106 6) (
      none
    ) fun b7 =>
      if aK s3 b7 3 then
        bu (dm94 b7 s3) fun r11 =>
        vN (sR s3 106 6) (
          none
        ) fun b13 =>
          if aK s3 b13 3 then
            bu (dm72 b13 r11 x1 0 s3) fun s17 =>
            vN (sR s17 106 6) (
              none
            ) fun b21 =>
              if aK s17 b21 3 then
                bu (dm60 b21 r11 8 x2 s17) fun s25 =>
                bu (dm81 r11 s25) fun s31 =>
                some s31
              else none
          else none
      else none
set_option maxRecDepth 100000 in
theorem dt111 {sio : Bool} {tt : Nat} {cc : Nat → Nat → Int32} {d : Nat} (hd : 2 ≤ d) {x1 : Int32} {x2 : Int32} {x3 : Int32} {s : aS} (hl : Ly tt cc s) {o : aS} (h : dm111  x1 x2 x3 s = some o) : Q 1 sio tt cc d 111 0 [some (.ref 106), some (.int x1), some (.int x2), some (.int x3), none] [] s (.inl none, o) := by
  unfold dm111 at h
  obtain ⟨d, rfl⟩ : ∃ e, d = e + 1 := ⟨d - 1, by omega⟩
  refine Q.run zm111 2 (i' := 2) (ls' := [some (.ref 106), some (.int x1), some (.int x2), some (.int x3), none]) (st' := [.int x3, .ref 106]) rfl ?_
  obtain ⟨r4, s3, hc2, h⟩ := bv_so h
  have hq1 : Q 1 sio tt cc d 70 0 [some (.ref 106), some (.int x3), none] [] s (.inl (some (.int r4)), s3) := dt70 (by omega) hl  hc2
  refine Q.callI (gC_vi zm111 (show zM111.2.2.2.2.2[2]? = some (2, 3, .invokevirtual 144, [0, 70, 1, 4]) from rfl) zm70 (hl.lt (a := 106) (by decide)) (hl.T (a := 106) (p := (4, 13)) 28 rfl rfl) rfl (show aCr 1 106 [.int x3, .ref 106] 3 = some ([some (.ref 106), some (.int x3), none], []) from rfl)) hq1 ?_
  by_cases hc5 : r4 = 0
  · rw [if_pos hc5] at h
    refine Q.map (A.zT (gI_of zm111 (e := (5, 3, .ifCond .eq 41, [23])) rfl) (decide_eq_true hc5)) ?_
    cases h
    exact Q.ret (A.rv zm111 (show zM111.2.2.2.2.2[23]? = some (46, 1, .return_, []) from rfl) rfl) hq1.1
  · rw [if_neg hc5] at h
    refine Q.map (A.zF (gI_of zm111 (e := (5, 3, .ifCond .eq 41, [23])) rfl) (fun q => hc5 (of_decide_eq_true q))) ?_
    refine Q.run zm111 1 (i' := 5) (ls' := [some (.ref 106), some (.int x1), some (.int x2), some (.int x3), none]) (st' := [.ref 106]) rfl ?_
    rcases vN_so h with ⟨hv6, h⟩ | ⟨b7, hv6, h⟩
    · refine Q.map (A.gf (gI_of zm111 (e := (9, 3, .getfield 48, [4, 6])) rfl) (hq1.1.lt (a := 106) (by decide)) (hq1.1.T (a := 106) (p := (4, 13)) 28 rfl rfl) (by decide) hv6) ?_
      cases h
    · obtain ⟨hr8, h⟩ := ite_so h
      refine Q.map (A.gf (gI_of zm111 (e := (9, 3, .getfield 48, [4, 6])) rfl) (hq1.1.lt (a := 106) (by decide)) (hq1.1.T (a := 106) (p := (4, 13)) 28 rfl rfl) (by decide) hv6) ?_
      obtain ⟨r11, hc10, h⟩ := bu_so h
      have hq9 : Q 1 sio tt cc d 94 0 [some (.ref b7)] [] s3 (.inl (some (.int r11)), s3) := dt94 (by omega) hq1.1 hr8 hc10
      refine Q.callI (gC_vi zm111 (show zM111.2.2.2.2.2[6]? = some (12, 3, .invokevirtual 116, [0, 94, 0, 3]) from rfl) zm94 hr8.1 (hq1.1.tr hr8).1 rfl (show aCr 0 b7 [.ref b7] 1 = some ([some (.ref b7)], []) from rfl)) hq9 ?_
      refine Q.run zm111 2 (i' := 9) (ls' := [some (.ref 106), some (.int x1), some (.int x2), some (.int x3), some (.int r11)]) (st' := [.ref 106]) rfl ?_
      rcases vN_so h with ⟨hv12, h⟩ | ⟨b13, hv12, h⟩
      · refine Q.map (A.gf (gI_of zm111 (e := (18, 3, .getfield 48, [4, 6])) rfl) (hq1.1.lt (a := 106) (by decide)) (hq1.1.T (a := 106) (p := (4, 13)) 28 rfl rfl) (by decide) hv12) ?_
        refine Q.run zm111 3 (i' := 13) (ls' := [some (.ref 106), some (.int x1), some (.int x2), some (.int x3), some (.int r11)]) (st' := [.int 0, .int x1, .int r11, .null]) rfl ?_
        cases h
      · obtain ⟨hr14, h⟩ := ite_so h
        refine Q.map (A.gf (gI_of zm111 (e := (18, 3, .getfield 48, [4, 6])) rfl) (hq1.1.lt (a := 106) (by decide)) (hq1.1.T (a := 106) (p := (4, 13)) 28 rfl rfl) (by decide) hv12) ?_
        refine Q.run zm111 3 (i' := 13) (ls' := [some (.ref 106), some (.int x1), some (.int x2), some (.int x3), some (.int r11)]) (st' := [.int 0, .int x1, .int r11, .ref b13]) rfl ?_
        obtain ⟨s17, hc16, h⟩ := bu_so h
        have hq15 : Q 1 sio tt cc d 72 0 [some (.ref b13), some (.int r11), some (.int x1), some (.int 0), none] [] s3 (.inl none, s17) := dt72 (by omega) hq1.1 hr14 hc16
        refine Q.callV (gC_vi zm111 (show zM111.2.2.2.2.2[13]? = some (25, 3, .invokevirtual 150, [0, 72, 3, 3]) from rfl) zm72 hr14.1 (hq1.1.tr hr14).1 rfl (show aCr 3 b13 [.int 0, .int x1, .int r11, .ref b13] 5 = some ([some (.ref b13), some (.int r11), some (.int x1), some (.int 0), none], []) from rfl)) hq15 ?_
        have hr18 : aK s17 b7 3 := hq15.2.1.k hr8
        have hr19 : aK s17 b13 3 := hq15.2.1.k hr14
        refine Q.run zm111 1 (i' := 15) (ls' := [some (.ref 106), some (.int x1), some (.int x2), some (.int x3), some (.int r11)]) (st' := [.ref 106]) rfl ?_
        rcases vN_so h with ⟨hv20, h⟩ | ⟨b21, hv20, h⟩
        · refine Q.map (A.gf (gI_of zm111 (e := (29, 3, .getfield 48, [4, 6])) rfl) (hq15.1.lt (a := 106) (by decide)) (hq15.1.T (a := 106) (p := (4, 13)) 28 rfl rfl) (by decide) hv20) ?_
          refine Q.run zm111 3 (i' := 19) (ls' := [some (.ref 106), some (.int x1), some (.int x2), some (.int x3), some (.int r11)]) (st' := [.int x2, .int 8, .int r11, .null]) rfl ?_
          cases h
        · obtain ⟨hr22, h⟩ := ite_so h
          refine Q.map (A.gf (gI_of zm111 (e := (29, 3, .getfield 48, [4, 6])) rfl) (hq15.1.lt (a := 106) (by decide)) (hq15.1.T (a := 106) (p := (4, 13)) 28 rfl rfl) (by decide) hv20) ?_
          refine Q.run zm111 3 (i' := 19) (ls' := [some (.ref 106), some (.int x1), some (.int x2), some (.int x3), some (.int r11)]) (st' := [.int x2, .int 8, .int r11, .ref b21]) rfl ?_
          obtain ⟨s25, hc24, h⟩ := bu_so h
          have hq23 : Q 1 sio tt cc d 60 0 [some (.ref b21), some (.int r11), some (.int 8), some (.int x2)] [] s17 (.inl none, s25) := dt60 (by omega) hq15.1 hr22 hc24
          refine Q.callV (gC_vi zm111 (show zM111.2.2.2.2.2[19]? = some (37, 3, .invokevirtual 180, [0, 60, 3, 3]) from rfl) zm60 hr22.1 (hq15.1.tr hr22).1 rfl (show aCr 3 b21 [.int x2, .int 8, .int r11, .ref b21] 4 = some ([some (.ref b21), some (.int r11), some (.int 8), some (.int x2)], []) from rfl)) hq23 ?_
          have hr26 : aK s25 b7 3 := hq23.2.1.k hr18
          have hr27 : aK s25 b13 3 := hq23.2.1.k hr19
          have hr28 : aK s25 b21 3 := hq23.2.1.k hr22
          refine Q.run zm111 2 (i' := 22) (ls' := [some (.ref 106), some (.int x1), some (.int x2), some (.int x3), some (.int r11)]) (st' := [.int r11, .ref 106]) rfl ?_
          obtain ⟨s31, hc30, h⟩ := bu_so h
          have hq29 : Q 1 sio tt cc d 81 0 [some (.ref 106), some (.int r11)] [] s25 (.inl none, s31) := dt81 (by omega) hq23.1  hc30
          refine Q.callV (gC_vi zm111 (show zM111.2.2.2.2.2[22]? = some (43, 3, .invokevirtual 186, [0, 81, 1, 4]) from rfl) zm81 (hq23.1.lt (a := 106) (by decide)) (hq23.1.T (a := 106) (p := (4, 13)) 28 rfl rfl) rfl (show aCr 1 106 [.int r11, .ref 106] 2 = some ([some (.ref 106), some (.int r11)], []) from rfl)) hq29 ?_
          have hr32 : aK s31 b7 3 := hq29.2.1.k hr26
          have hr33 : aK s31 b13 3 := hq29.2.1.k hr27
          have hr34 : aK s31 b21 3 := hq29.2.1.k hr28
          cases h
          exact Q.ret (A.rv zm111 (show zM111.2.2.2.2.2[23]? = some (46, 1, .return_, []) from rfl) rfl) hq29.1
/-! 108 FormulaTrees$Reader.readError()V -/
set_option maxRecDepth 100000 in
theorem zm108 : zP[108]? = some zM108 := rfl
def dm108_38 (x1 : Int32) (x2 : Int32) (s : aS) : Option (aS) :=
  bu (dm110 x2) fun r3 =>
  vR r3 fun b4 =>
  if aK s b4 70 then
    bu (dm254 b4 s) fun r9 =>
    nx (wI s 106 7 (x1 + r9)) fun s10 =>
    bu (dm111 2 x2 x1 s10) fun s16 =>
    some s16
  else none
set_option maxRecDepth 100000 in
theorem dt108_38 {sio : Bool} {tt : Nat} {cc : Nat → Nat → Int32} {d : Nat} (hd : 6 ≤ d) {x1 : Int32} {x2 : Int32} {x3 : Int32} {g4 : Option Value} {s : aS} (hl : Ly tt cc s) {o : aS} (h : dm108_38  x1 x2 s = some o) : Q 1 sio tt cc d 108 38 [some (.ref 106), some (.int x1), some (.int x2), some (.int x3), g4] [] s (.inl none, o) := by
  unfold dm108_38 at h
  obtain ⟨d, rfl⟩ : ∃ e, d = e + 1 := ⟨d - 1, by omega⟩
  refine Q.run zm108 3 (i' := 41) (ls' := [some (.ref 106), some (.int x1), some (.int x2), some (.int x3), g4]) (st' := [.int x2, .int x1, .ref 106]) rfl ?_
  obtain ⟨r3, hc2, h⟩ := bu_so h
  have hq1 : Q 1 sio tt cc d 110 0 [some (.int x2)] [] s (.inl (some r3), s) := dt110 (by omega) hl  hc2
  obtain ⟨b4, hv5, h9⟩ := vR_so h
  clear h
  subst hv5
  have h := h9
  obtain ⟨hr6, h⟩ := ite_so h
  refine Q.callR (gC_st zm108 (show zM108.2.2.2.2.2[41]? = some (70, 3, .invokestatic 231, [0, 110, 1]) from rfl) zm110 (show aC 1 [.int x2, .int x1, .ref 106] 1 = some ([some (.int x2)], [.int x1, .ref 106]) from rfl)) hq1 ?_
  obtain ⟨r9, hc8, h⟩ := bu_so h
  have hq7 : Q 1 sio tt cc d 254 0 [some (.ref b4)] [] s (.inl (some (.int r9)), s) := dt254 (by omega) hl hr6 hc8
  refine Q.callI (gC_vi zm108 (show zM108.2.2.2.2.2[42]? = some (73, 3, .invokevirtual 235, [0, 254, 0, 70]) from rfl) zm254 hr6.1 (hl.tx hr6).1 rfl (show aCr 0 b4 [.ref b4, .int x1, .ref 106] 1 = some ([some (.ref b4)], [.int x1, .ref 106]) from rfl)) hq7 ?_
  refine Q.run zm108 1 (i' := 44) (ls' := [some (.ref 106), some (.int x1), some (.int x2), some (.int x3), g4]) (st' := [.int (x1 + r9), .ref 106]) rfl ?_
  obtain ⟨s10, hs11, h⟩ := nx_so h
  refine Q.pf hs11 rfl (gI_of zm108 (e := (77, 3, .putfield 61, [4, 7, 0])) rfl) (hl.lt (a := 106) (by decide)) (by decide) (hl.T (a := 106) (p := (4, 13)) 28 rfl rfl) (by decide) rfl rfl ?_
  have hl12 : Ly tt cc s10 := by rw [hs11]; exact hl.wId (by decide)
  have hr13 : aK s10 b4 70 := by rw [hs11]; exact hr6
  refine Q.run zm108 4 (i' := 49) (ls' := [some (.ref 106), some (.int x1), some (.int x2), some (.int x3), g4]) (st' := [.int x1, .int x2, .int 2, .ref 106]) rfl ?_
  obtain ⟨s16, hc15, h⟩ := bu_so h
  have hq14 : Q 1 sio tt cc d 111 0 [some (.ref 106), some (.int 2), some (.int x2), some (.int x1), none] [] s10 (.inl none, s16) := dt111 (by omega) hl12  hc15
  refine Q.callV (gC_vi zm108 (show zM108.2.2.2.2.2[49]? = some (84, 3, .invokevirtual 238, [0, 111, 3, 4]) from rfl) zm111 (hl12.lt (a := 106) (by decide)) (hl12.T (a := 106) (p := (4, 13)) 28 rfl rfl) rfl (show aCr 3 106 [.int x1, .int x2, .int 2, .ref 106] 5 = some ([some (.ref 106), some (.int 2), some (.int x2), some (.int x1), none], []) from rfl)) hq14 ?_
  have hr17 : aK s16 b4 70 := hq14.2.1.k hr13
  cases h
  exact Q.ret (A.rv zm108 (show zM108.2.2.2.2.2[50]? = some (87, 1, .return_, []) from rfl) rfl) hq14.1
def dm108_35 (k7 : Int32 → Int32 → Int32 → aS → Option (aS)) (x1 : Int32) (x3 : Int32) (y0 : Int32) (s : aS) : Option (aS) :=
  k7 x1 y0 (x3 + 1) s
set_option maxRecDepth 100000 in
theorem dt108_35 {sio : Bool} {tt : Nat} {cc : Nat → Nat → Int32} {d : Nat} (hd : 6 ≤ d) {k7 : Int32 → Int32 → Int32 → aS → Option (aS)} (hk7 : ∀ {x1 : Int32} {x2 : Int32} {x3 : Int32} {g4 : Option Value} {s : aS}, Ly tt cc s → ∀ {o : aS}, k7 x1 x2 x3 s = some o → Q 1 sio tt cc d 108 7 [some (.ref 106), some (.int x1), some (.int x2), some (.int x3), g4] [] s (.inl none, o)) {x1 : Int32} {x3 : Int32} {y0 : Int32} {x2 : Int32} {x4 : Int32} {s : aS} (hl : Ly tt cc s) {o : aS} (h : dm108_35 k7 x1 x3 y0 s = some o) : Q 1 sio tt cc d 108 35 [some (.ref 106), some (.int x1), some (.int x2), some (.int x3), some (.int x4)] [.int y0] s (.inl none, o) := by
  unfold dm108_35 at h
  obtain ⟨d, rfl⟩ : ∃ e, d = e + 1 := ⟨d - 1, by omega⟩
  refine Q.run zm108 3 (i' := 7) (ls' := [some (.ref 106), some (.int x1), some (.int y0), some (.int (x3 + 1)), some (.int x4)]) (st' := []) rfl ?_
  exact hk7 hl  h
def dm108_7 : Nat → Int32 → Int32 → Int32 → aS → Option (aS)
  | 0, _, _, _, _ => none
  | n + 1, x1, x2, x3, s =>
    if 7 < x3 then
      dm108_38 x1 x2 s
    else
      if x2 = 0 then
        bv (dm109 x1 x3 s) fun r6 s5 =>
        if r6 = 0 then
          nx (wI s5 106 8 ((x1 + x3) - 1)) fun s8 =>
          some s8
        else
          bu (dm110 r6) fun r13 =>
          vR r13 fun b14 =>
          if aK s5 b14 70 then
            bu (dm254 b14 s5) fun r19 =>
            if r19 = x3 then
              dm108_35 (dm108_7 n) x1 x3 r6 s5
            else
              dm108_35 (dm108_7 n) x1 x3 0 s5
          else none
      else
        dm108_38 x1 x2 s
set_option maxRecDepth 100000 in
theorem dt108_7 {sio : Bool} {tt : Nat} {cc : Nat → Nat → Int32} {d : Nat} (hd : 6 ≤ d) : ∀ (n : Nat) {x1 : Int32} {x2 : Int32} {x3 : Int32} {g4 : Option Value} {s : aS} (_ : Ly tt cc s) {o : aS} (_ : dm108_7  n x1 x2 x3 s = some o), Q 1 sio tt cc d 108 7 [some (.ref 106), some (.int x1), some (.int x2), some (.int x3), g4] [] s (.inl none, o) := by
  obtain ⟨d, rfl⟩ : ∃ e, d = e + 1 := ⟨d - 1, by omega⟩
  intro n
  induction n with
  | zero => intro x1 x2 x3 g4 s hl o h; rw [dm108_7] at h; cases h
  | succ n ih =>
    intro x1 x2 x3 g4 s hl o h
    rw [dm108_7] at h
    refine Q.run zm108 2 (i' := 9) (ls' := [some (.ref 106), some (.int x1), some (.int x2), some (.int x3), g4]) (st' := [.int 7, .int x3]) rfl ?_
    by_cases hc1 : 7 < x3
    · rw [if_pos hc1] at h
      refine Q.map (A.bT (gI_of zm108 (e := (12, 3, .if_icmp .gt 55, [38])) rfl) (decide_eq_true hc1)) ?_
      exact dt108_38 hd hl  h
    · rw [if_neg hc1] at h
      refine Q.map (A.bF (gI_of zm108 (e := (12, 3, .if_icmp .gt 55, [38])) rfl) (fun q => hc1 (of_decide_eq_true q))) ?_
      refine Q.run zm108 1 (i' := 11) (ls' := [some (.ref 106), some (.int x1), some (.int x2), some (.int x3), g4]) (st' := [.int x2]) rfl ?_
      by_cases hc2 : x2 = 0
      · rw [if_pos hc2] at h
        refine Q.map (A.zF (gI_of zm108 (e := (16, 3, .ifCond .ne 51, [38])) rfl) (fun q => of_decide_eq_true q hc2)) ?_
        refine Q.run zm108 3 (i' := 15) (ls' := [some (.ref 106), some (.int x1), some (.int x2), some (.int x3), g4]) (st' := [.int x3, .int x1, .ref 106]) rfl ?_
        obtain ⟨r6, s5, hc4, h⟩ := bv_so h
        have hq3 : Q 1 sio tt cc d 109 0 [some (.ref 106), some (.int x1), some (.int x3), none] [] s (.inl (some (.int r6)), s5) := dt109 (by omega) hl  hc4
        refine Q.callI (gC_vi zm108 (show zM108.2.2.2.2.2[15]? = some (22, 3, .invokevirtual 228, [0, 109, 2, 4]) from rfl) zm109 (hl.lt (a := 106) (by decide)) (hl.T (a := 106) (p := (4, 13)) 28 rfl rfl) rfl (show aCr 2 106 [.int x3, .int x1, .ref 106] 4 = some ([some (.ref 106), some (.int x1), some (.int x3), none], []) from rfl)) hq3 ?_
        refine Q.run zm108 2 (i' := 18) (ls' := [some (.ref 106), some (.int x1), some (.int x2), some (.int x3), some (.int r6)]) (st' := [.int r6]) rfl ?_
        by_cases hc7 : r6 = 0
        · rw [if_pos hc7] at h
          refine Q.map (A.zF (gI_of zm108 (e := (29, 3, .ifCond .ne 13, [27])) rfl) (fun q => of_decide_eq_true q hc7)) ?_
          refine Q.run zm108 6 (i' := 25) (ls' := [some (.ref 106), some (.int x1), some (.int x2), some (.int x3), some (.int r6)]) (st' := [.int ((x1 + x3) - 1), .ref 106]) rfl ?_
          obtain ⟨s8, hs9, h⟩ := nx_so h
          refine Q.pf hs9 rfl (gI_of zm108 (e := (38, 3, .putfield 65, [4, 8, 0])) rfl) (hq3.1.lt (a := 106) (by decide)) (by decide) (hq3.1.T (a := 106) (p := (4, 13)) 28 rfl rfl) (by decide) rfl rfl ?_
          have hl10 : Ly tt cc s8 := by rw [hs9]; exact hq3.1.wId (by decide)
          cases h
          exact Q.ret (A.rv zm108 (show zM108.2.2.2.2.2[26]? = some (41, 1, .return_, []) from rfl) rfl) hl10
        · rw [if_neg hc7] at h
          refine Q.map (A.zT (gI_of zm108 (e := (29, 3, .ifCond .ne 13, [27])) rfl) (decide_eq_true hc7)) ?_
          refine Q.run zm108 1 (i' := 28) (ls' := [some (.ref 106), some (.int x1), some (.int x2), some (.int x3), some (.int r6)]) (st' := [.int r6]) rfl ?_
          obtain ⟨r13, hc12, h⟩ := bu_so h
          have hq11 : Q 1 sio tt cc d 110 0 [some (.int r6)] [] s5 (.inl (some r13), s5) := dt110 (by omega) hq3.1  hc12
          obtain ⟨b14, hv15, h9⟩ := vR_so h
          clear h
          subst hv15
          have h := h9
          obtain ⟨hr16, h⟩ := ite_so h
          refine Q.callR (gC_st zm108 (show zM108.2.2.2.2.2[28]? = some (44, 3, .invokestatic 231, [0, 110, 1]) from rfl) zm110 (show aC 1 [.int r6] 1 = some ([some (.int r6)], []) from rfl)) hq11 ?_
          obtain ⟨r19, hc18, h⟩ := bu_so h
          have hq17 : Q 1 sio tt cc d 254 0 [some (.ref b14)] [] s5 (.inl (some (.int r19)), s5) := dt254 (by omega) hq3.1 hr16 hc18
          refine Q.callI (gC_vi zm108 (show zM108.2.2.2.2.2[29]? = some (47, 3, .invokevirtual 235, [0, 254, 0, 70]) from rfl) zm254 hr16.1 (hq3.1.tx hr16).1 rfl (show aCr 0 b14 [.ref b14] 1 = some ([some (.ref b14)], []) from rfl)) hq17 ?_
          refine Q.run zm108 1 (i' := 31) (ls' := [some (.ref 106), some (.int x1), some (.int x2), some (.int x3), some (.int r6)]) (st' := [.int x3, .int r19]) rfl ?_
          by_cases hc20 : r19 = x3
          · rw [if_pos hc20] at h
            refine Q.map (A.bF (gI_of zm108 (e := (51, 3, .if_icmp .ne 8, [34])) rfl) (fun q => of_decide_eq_true q hc20)) ?_
            refine Q.run zm108 2 (i' := 35) (ls' := [some (.ref 106), some (.int x1), some (.int x2), some (.int x3), some (.int r6)]) (st' := [.int r6]) rfl ?_
            exact dt108_35 hd ih hq3.1  h
          · rw [if_neg hc20] at h
            refine Q.map (A.bT (gI_of zm108 (e := (51, 3, .if_icmp .ne 8, [34])) rfl) (decide_eq_true hc20)) ?_
            refine Q.run zm108 1 (i' := 35) (ls' := [some (.ref 106), some (.int x1), some (.int x2), some (.int x3), some (.int r6)]) (st' := [.int 0]) rfl ?_
            exact dt108_35 hd ih hq3.1  h
      · rw [if_neg hc2] at h
        refine Q.map (A.zT (gI_of zm108 (e := (16, 3, .ifCond .ne 51, [38])) rfl) (decide_eq_true hc2)) ?_
        exact dt108_38 hd hl  h
def dm108 (s : aS) : Option (aS) :=
  dm108_7 5000 (sI s 106 7) 0 1 s
set_option maxRecDepth 100000 in
theorem dt108 {sio : Bool} {tt : Nat} {cc : Nat → Nat → Int32} {d : Nat} (hd : 6 ≤ d) {s : aS} (hl : Ly tt cc s) {o : aS} (h : dm108  s = some o) : Q 1 sio tt cc d 108 0 [some (.ref 106), none, none, none, none] [] s (.inl none, o) := by
  unfold dm108 at h
  obtain ⟨d, rfl⟩ : ∃ e, d = e + 1 := ⟨d - 1, by omega⟩
  refine Q.run zm108 1 (i' := 1) (ls' := [some (.ref 106), none, none, none, none]) (st' := [.ref 106]) rfl ?_
  refine Q.map (A.gf (gI_of zm108 (e := (1, 3, .getfield 61, [4, 7])) rfl) (hl.lt (a := 106) (by decide)) (hl.T (a := 106) (p := (4, 13)) 28 rfl rfl) (by decide) rfl) ?_
  refine Q.run zm108 5 (i' := 7) (ls' := [some (.ref 106), some (.int (sI s 106 7)), some (.int 0), some (.int 1), none]) (st' := []) rfl ?_
  exact dt108_7 hd _ hl  h
end
