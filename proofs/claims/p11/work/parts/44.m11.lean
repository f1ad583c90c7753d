/-! 62 FormulaTrees.read(II)I -/
set_option maxRecDepth 100000 in
theorem zm62 : zP[62]? = some zM62 := rfl
def dm62_46 (x3 : Int32) (c1 : Nat) (s : aS) : Option (xZ × aS) :=
  nx (wR s 78 6 (.ref c1)) fun s1 =>
  some (.inl (some (.int x3)), s1)
set_option maxRecDepth 100000 in
theorem dt62_46 {sio : Bool} {tt : Nat} {cc : Nat → Nat → Int32} {d : Nat} (hd : 10 ≤ d) {x3 : Int32} {c1 : Nat} {x1 : Int32} {x2 : Int32} {g4 : Option Value} {s : aS} (hl : Ly tt cc s) (hk_c1 : aK s c1 3) {o : xZ × aS} (h : dm62_46  x3 c1 s = some o) : Q 1 sio tt cc d 62 46 [some (.ref 78), some (.int x1), some (.int x2), some (.int x3), g4] [.ref c1, .ref 78] s o := by
  unfold dm62_46 at h
  obtain ⟨d, rfl⟩ : ∃ e, d = e + 1 := ⟨d - 1, by omega⟩
  obtain ⟨s1, hs2, h⟩ := nx_so h
  refine Q.pr hs2 rfl (gI_of zm62 (e := (88, 3, .putfield 36, [0, 6, 2])) rfl) (hl.lt (a := 78) (by decide)) (by decide) (hl.T (a := 78) (p := (0, 7)) 0 rfl rfl) (by decide) rfl rfl ?_
  have hl3 : Ly tt cc s1 := by rw [hs2]; exact hl.wRd (hl.T (a := 78) (p := (0, 7)) 0 rfl rfl) (by decide) (by decide)
  have hr4 : aK s1 c1 3 := by rw [hs2]; exact hk_c1
  refine Q.run zm62 1 (i' := 48) (ls' := [some (.ref 78), some (.int x1), some (.int x2), some (.int x3), g4]) (st' := [.int x3]) rfl ?_
  cases h
  exact Q.ret (A.ri zm62 (show zM62.2.2.2.2.2[48]? = some (92, 1, .ireturn, []) from rfl) rfl rfl) hl3
def dm62_8 (s : aS) : Option (xZ × aS) :=
  some (.inr 2, nw s 82 0)
set_option maxRecDepth 100000 in
theorem dt62_8 {sio : Bool} {tt : Nat} {cc : Nat → Nat → Int32} {d : Nat} (hd : 10 ≤ d) {x1 : Int32} {x2 : Int32} {s : aS} (hl : Ly tt cc s) {o : xZ × aS} (h : dm62_8  s = some o) : Q 1 sio tt cc d 62 8 [some (.ref 78), some (.int x1), some (.int x2), none, none] [] s o := by
  unfold dm62_8 at h
  obtain ⟨d, rfl⟩ : ∃ e, d = e + 1 := ⟨d - 1, by omega⟩
  cases h
  exact Q.t zm62 (show zM62.2.2.2.2.2[8]? = some (18, 3, .new 100, [202]) from rfl) rfl rfl hl.gL (by omega) hl
def dm62 (x1 : Int32) (x2 : Int32) (s : aS) : Option (xZ × aS) :=
  bu (dm55 x1) fun r3 =>
  if r3 = 0 then
    dm62_8 s
  else
    bu (dm40 x2 s) fun r7 =>
    if r7 = 0 then
      dm62_8 s
    else
      vN (sR s 78 6) (
        none
      ) fun b10 =>
        if aK s b10 3 then
          bv (dm63 b10 s) fun r15 s14 =>
          if r15 = (-1) then
            if aB x1 8 then
              vN (sR s14 100 (jN x1)) (
                vN (sR s14 78 6) (
                  none
                ) fun b23 =>
                  if aK s14 b23 3 then
                    if aB x1 8 then
                      nx (wR s14 100 (jN x1) (.ref b23)) fun s26 =>
                      if aB x1 8 then
                        nx (wI s26 101 (jN x1) x2) fun s32 =>
                        nx (nTree s32) fun s37 => nx (sL s32) fun b40 =>
                        dm62_46 r15 b40 s37
                      else none
                    else none
                  else none
              ) fun b20 =>
                if aK s14 b20 3 then
                  vN (sR s14 78 6) (
                    none
                  ) fun b47 =>
                    if aK s14 b47 3 then
                      if aB x1 8 then
                        nx (wR s14 100 (jN x1) (.ref b47)) fun s50 =>
                        if aB x1 8 then
                          nx (wI s50 101 (jN x1) x2) fun s57 =>
                          dm62_46 r15 b20 s57
                        else none
                      else none
                    else none
                else none
            else none
          else
            some (.inl (some (.int r15)), s14)
        else none
set_option maxRecDepth 100000 in
theorem dt62 {sio : Bool} {tt : Nat} {cc : Nat → Nat → Int32} {d : Nat} (hd : 10 ≤ d) {x1 : Int32} {x2 : Int32} {s : aS} (hl : Ly tt cc s) {o : xZ × aS} (h : dm62  x1 x2 s = some o) : Q 1 sio tt cc d 62 0 [some (.ref 78), some (.int x1), some (.int x2), none, none] [] s o := by
  unfold dm62 at h
  obtain ⟨d, rfl⟩ : ∃ e, d = e + 1 := ⟨d - 1, by omega⟩
  refine Q.run zm62 1 (i' := 1) (ls' := [some (.ref 78), some (.int x1), some (.int x2), none, none]) (st' := [.int x1]) rfl ?_
  obtain ⟨r3, hc2, h⟩ := bu_so h
  have hq1 : Q 1 sio tt cc d 55 0 [some (.int x1)] [] s (.inl (some (.int r3)), s) := dt55 (by omega) hl  hc2
  refine Q.callI (gC_st zm62 (show zM62.2.2.2.2.2[1]? = some (1, 3, .invokestatic 125, [0, 55, 1]) from rfl) zm55 (show aC 1 [.int x1] 1 = some ([some (.int x1)], []) from rfl)) hq1 ?_
  by_cases hc4 : r3 = 0
  · rw [if_pos hc4] at h
    refine Q.map (A.zT (gI_of zm62 (e := (4, 3, .ifCond .eq 14, [8])) rfl) (decide_eq_true hc4)) ?_
    exact dt62_8 hd hl  h
  · rw [if_neg hc4] at h
    refine Q.map (A.zF (gI_of zm62 (e := (4, 3, .ifCond .eq 14, [8])) rfl) (fun q => hc4 (of_decide_eq_true q))) ?_
    refine Q.run zm62 1 (i' := 4) (ls' := [some (.ref 78), some (.int x1), some (.int x2), none, none]) (st' := [.ref 78]) rfl ?_
    refine Q.map (A.gf (gI_of zm62 (e := (8, 3, .getfield 21, [0, 1])) rfl) (hl.lt (a := 78) (by decide)) (hl.T (a := 78) (p := (0, 7)) 0 rfl rfl) (by decide) (hl.R 1 rfl)) ?_
    refine Q.run zm62 1 (i' := 6) (ls' := [some (.ref 78), some (.int x1), some (.int x2), none, none]) (st' := [.int x2, .ref 81]) rfl ?_
    obtain ⟨r7, hc6, h⟩ := bu_so h
    have hq5 : Q 1 sio tt cc d 40 0 [some (.ref 81), some (.int x2)] [] s (.inl (some (.int r7)), s) := dt40 (by omega) hl  hc6
    refine Q.callI (gC_vi zm62 (show zM62.2.2.2.2.2[6]? = some (12, 3, .invokevirtual 96, [0, 40, 1, 2]) from rfl) zm40 (hl.lt (a := 81) (by decide)) (hl.T (a := 81) (p := (2, 3)) 3 rfl rfl) rfl (show aCr 1 81 [.int x2, .ref 81] 2 = some ([some (.ref 81), some (.int x2)], []) from rfl)) hq5 ?_
    by_cases hc8 : r7 = 0
    · rw [if_pos hc8] at h
      refine Q.map (A.zF (gI_of zm62 (e := (15, 3, .ifCond .ne 13, [13])) rfl) (fun q => of_decide_eq_true q hc8)) ?_
      exact dt62_8 hd hl  h
    · rw [if_neg hc8] at h
      refine Q.map (A.zT (gI_of zm62 (e := (15, 3, .ifCond .ne 13, [13])) rfl) (decide_eq_true hc8)) ?_
      refine Q.run zm62 1 (i' := 14) (ls' := [some (.ref 78), some (.int x1), some (.int x2), none, none]) (st' := [.ref 78]) rfl ?_
      refine Q.map (A.gf (gI_of zm62 (e := (29, 3, .getfield 45, [0, 4])) rfl) (hl.lt (a := 78) (by decide)) (hl.T (a := 78) (p := (0, 7)) 0 rfl rfl) (by decide) (hl.R 4 rfl)) ?_
      refine Q.run zm62 1 (i' := 16) (ls' := [some (.ref 78), some (.int x1), some (.int x2), none, none]) (st' := [.ref 78, .ref 106]) rfl ?_
      rcases vN_so h with ⟨hv9, h⟩ | ⟨b10, hv9, h⟩
      · refine Q.map (A.gf (gI_of zm62 (e := (33, 3, .getfield 36, [0, 6])) rfl) (hl.lt (a := 78) (by decide)) (hl.T (a := 78) (p := (0, 7)) 0 rfl rfl) (by decide) hv9) ?_
        cases h
      · obtain ⟨hr11, h⟩ := ite_so h
        refine Q.map (A.gf (gI_of zm62 (e := (33, 3, .getfield 36, [0, 6])) rfl) (hl.lt (a := 78) (by decide)) (hl.T (a := 78) (p := (0, 7)) 0 rfl rfl) (by decide) hv9) ?_
        obtain ⟨r15, s14, hc13, h⟩ := bv_so h
        have hq12 : Q 1 sio tt cc d 63 0 [some (.ref 106), some (.ref b10), none] [] s (.inl (some (.int r15)), s14) := dt63 (by omega) hl hr11 hc13
        refine Q.callI (gC_vi zm62 (show zM62.2.2.2.2.2[17]? = some (36, 3, .invokevirtual 130, [0, 63, 1, 4]) from rfl) zm63 (hl.lt (a := 106) (by decide)) (hl.T (a := 106) (p := (4, 13)) 28 rfl rfl) rfl (show aCr 1 106 [.ref b10, .ref 106] 3 = some ([some (.ref 106), some (.ref b10), none], []) from rfl)) hq12 ?_
        have hr16 : aK s14 b10 3 := hq12.2.1.k hr11
        refine Q.run zm62 3 (i' := 21) (ls' := [some (.ref 78), some (.int x1), some (.int x2), some (.int r15), none]) (st' := [.int (-1), .int r15]) rfl ?_
        by_cases hc17 : r15 = (-1)
        · rw [if_pos hc17] at h
          refine Q.map (A.bF (gI_of zm62 (e := (42, 3, .if_icmp .ne 49, [47])) rfl) (fun q => of_decide_eq_true q hc17)) ?_
          refine Q.run zm62 1 (i' := 23) (ls' := [some (.ref 78), some (.int x1), some (.int x2), some (.int r15), none]) (st' := [.ref 78]) rfl ?_
          refine Q.map (A.gf (gI_of zm62 (e := (46, 3, .getfield 27, [0, 2])) rfl) (hq12.1.lt (a := 78) (by decide)) (hq12.1.T (a := 78) (p := (0, 7)) 0 rfl rfl) (by decide) (hq12.1.R 2 rfl)) ?_
          refine Q.run zm62 1 (i' := 25) (ls' := [some (.ref 78), some (.int x1), some (.int x2), some (.int r15), none]) (st' := [.int x1, .ref 100]) rfl ?_
          obtain ⟨hc18, h⟩ := ite_so h
          rcases vN_so h with ⟨hv19, h⟩ | ⟨b20, hv19, h⟩
          · refine Q.map (A.aa (gI_of zm62 (e := (50, 1, .aaload, [])) rfl) (hq12.1.lt (a := 100) (by decide)) (hq12.1.T (a := 100) (p := (113, 8)) 22 rfl rfl) (by decide) hc18 hv19) ?_
            refine Q.run zm62 2 (i' := 28) (ls' := [some (.ref 78), some (.int x1), some (.int x2), some (.int r15), some (.null)]) (st' := [.ref 78]) rfl ?_
            refine Q.map (A.gf (gI_of zm62 (e := (54, 3, .getfield 27, [0, 2])) rfl) (hq12.1.lt (a := 78) (by decide)) (hq12.1.T (a := 78) (p := (0, 7)) 0 rfl rfl) (by decide) (hq12.1.R 2 rfl)) ?_
            refine Q.run zm62 2 (i' := 31) (ls' := [some (.ref 78), some (.int x1), some (.int x2), some (.int r15), some (.null)]) (st' := [.ref 78, .int x1, .ref 100]) rfl ?_
            rcases vN_so h with ⟨hv22, h⟩ | ⟨b23, hv22, h⟩
            · refine Q.map (A.gf (gI_of zm62 (e := (59, 3, .getfield 36, [0, 6])) rfl) (hq12.1.lt (a := 78) (by decide)) (hq12.1.T (a := 78) (p := (0, 7)) 0 rfl rfl) (by decide) hv22) ?_
              cases h
            · obtain ⟨hr24, h⟩ := ite_so h
              refine Q.map (A.gf (gI_of zm62 (e := (59, 3, .getfield 36, [0, 6])) rfl) (hq12.1.lt (a := 78) (by decide)) (hq12.1.T (a := 78) (p := (0, 7)) 0 rfl rfl) (by decide) hv22) ?_
              obtain ⟨hc25, h⟩ := ite_so h
              obtain ⟨s26, hs27, h⟩ := nx_so h
              refine Q.as hs27 rfl (gI_of zm62 (e := (62, 1, .aastore, [3])) rfl) (hq12.1.lt (a := 100) (by decide)) (by decide) (by decide) (hq12.1.T (a := 100) (p := (113, 8)) 22 rfl rfl) hr24.1 (hq12.1.tr hr24).1 hc25 ?_
              have hl28 : Ly tt cc s26 := by rw [hs27]; exact hq12.1.wRd (hq12.1.T (a := 100) (p := (113, 8)) 22 rfl rfl) (by decide) (lay_noR _)
              have hr29 : aK s26 b10 3 := by rw [hs27]; exact hr16
              have hr30 : aK s26 b23 3 := by rw [hs27]; exact hr24
              refine Q.run zm62 1 (i' := 34) (ls' := [some (.ref 78), some (.int x1), some (.int x2), some (.int r15), some (.null)]) (st' := [.ref 78]) rfl ?_
              refine Q.map (A.gf (gI_of zm62 (e := (64, 3, .getfield 31, [0, 3])) rfl) (hl28.lt (a := 78) (by decide)) (hl28.T (a := 78) (p := (0, 7)) 0 rfl rfl) (by decide) (hl28.R 3 rfl)) ?_
              refine Q.run zm62 2 (i' := 37) (ls' := [some (.ref 78), some (.int x1), some (.int x2), some (.int r15), some (.null)]) (st' := [.int x2, .int x1, .ref 101]) rfl ?_
              obtain ⟨hc31, h⟩ := ite_so h
              obtain ⟨s32, hs33, h⟩ := nx_so h
              refine Q.is hs33 rfl (gI_of zm62 (e := (69, 1, .iastore, [])) rfl) (hl28.lt (a := 101) (by decide)) (by decide) (hl28.T (a := 101) (p := (100, 8)) 23 rfl rfl) hc31 ?_
              have hl34 : Ly tt cc s32 := by rw [hs33]; exact hl28.wId (by decide)
              have hr35 : aK s32 b10 3 := by rw [hs33]; exact hr29
              have hr36 : aK s32 b23 3 := by rw [hs33]; exact hr30
              refine Q.run zm62 3 (i' := 41) (ls' := [some (.ref 78), some (.int x1), some (.int x2), some (.int r15), some (.null)]) (st' := [.ref 78]) rfl ?_
              obtain ⟨s37, hs38, h⟩ := nx_so h
              obtain ⟨b40, hb41, h⟩ := nx_so h
              have hq42 := lay_tree hl34.gL hl34
              refine Q.tree hs38 hl34.gL hb41 zm62 (gI_of zm62 (e := (76, 3, .new 25, [3, 2, 2, 0])) rfl) (gI_of zm62 (e := (79, 1, .dup, [])) rfl) (show zM62.2.2.2.2.2[43]? = some (80, 3, .invokespecial 35, [0, 19, 0]) from rfl) (eq_true (show 2 ≤ 8 by decide)) (by omega) hl34 ?_
              have hl39 : Ly tt cc s37 := by rw [hs38]; exact hq42.1
              have hr43 : aK s37 b10 3 := by rw [hs38]; exact hq42.2.1.k hr35
              have hr44 : aK s37 b23 3 := by rw [hs38]; exact hq42.2.1.k hr36
              have hr45 : aK s37 b40 3 := by rw [hs38, hb41]; exact hq42.2.2
              refine Q.run zm62 1 (i' := 46) (ls' := [some (.ref 78), some (.int x1), some (.int x2), some (.int r15), some (.null)]) (st' := [.ref b40, .ref 78]) rfl ?_
              exact dt62_46 hd hl39 hr45 h
          · obtain ⟨hr21, h⟩ := ite_so h
            refine Q.map (A.aa (gI_of zm62 (e := (50, 1, .aaload, [])) rfl) (hq12.1.lt (a := 100) (by decide)) (hq12.1.T (a := 100) (p := (113, 8)) 22 rfl rfl) (by decide) hc18 hv19) ?_
            refine Q.run zm62 2 (i' := 28) (ls' := [some (.ref 78), some (.int x1), some (.int x2), some (.int r15), some (.ref b20)]) (st' := [.ref 78]) rfl ?_
            refine Q.map (A.gf (gI_of zm62 (e := (54, 3, .getfield 27, [0, 2])) rfl) (hq12.1.lt (a := 78) (by decide)) (hq12.1.T (a := 78) (p := (0, 7)) 0 rfl rfl) (by decide) (hq12.1.R 2 rfl)) ?_
            refine Q.run zm62 2 (i' := 31) (ls' := [some (.ref 78), some (.int x1), some (.int x2), some (.int r15), some (.ref b20)]) (st' := [.ref 78, .int x1, .ref 100]) rfl ?_
            rcases vN_so h with ⟨hv46, h⟩ | ⟨b47, hv46, h⟩
            · refine Q.map (A.gf (gI_of zm62 (e := (59, 3, .getfield 36, [0, 6])) rfl) (hq12.1.lt (a := 78) (by decide)) (hq12.1.T (a := 78) (p := (0, 7)) 0 rfl rfl) (by decide) hv46) ?_
              cases h
            · obtain ⟨hr48, h⟩ := ite_so h
              refine Q.map (A.gf (gI_of zm62 (e := (59, 3, .getfield 36, [0, 6])) rfl) (hq12.1.lt (a := 78) (by decide)) (hq12.1.T (a := 78) (p := (0, 7)) 0 rfl rfl) (by decide) hv46) ?_
              obtain ⟨hc49, h⟩ := ite_so h
              obtain ⟨s50, hs51, h⟩ := nx_so h
              refine Q.as hs51 rfl (gI_of zm62 (e := (62, 1, .aastore, [3])) rfl) (hq12.1.lt (a := 100) (by decide)) (by decide) (by decide) (hq12.1.T (a := 100) (p := (113, 8)) 22 rfl rfl) hr48.1 (hq12.1.tr hr48).1 hc49 ?_
              have hl52 : Ly tt cc s50 := by rw [hs51]; exact hq12.1.wRd (hq12.1.T (a := 100) (p := (113, 8)) 22 rfl rfl) (by decide) (lay_noR _)
              have hr53 : aK s50 b10 3 := by rw [hs51]; exact hr16
              have hr54 : aK s50 b20 3 := by rw [hs51]; exact hr21
              have hr55 : aK s50 b47 3 := by rw [hs51]; exact hr48
              refine Q.run zm62 1 (i' := 34) (ls' := [some (.ref 78), some (.int x1), some (.int x2), some (.int r15), some (.ref b20)]) (st' := [.ref 78]) rfl ?_
              refine Q.map (A.gf (gI_of zm62 (e := (64, 3, .getfield 31, [0, 3])) rfl) (hl52.lt (a := 78) (by decide)) (hl52.T (a := 78) (p := (0, 7)) 0 rfl rfl) (by decide) (hl52.R 3 rfl)) ?_
              refine Q.run zm62 2 (i' := 37) (ls' := [some (.ref 78), some (.int x1), some (.int x2), some (.int r15), some (.ref b20)]) (st' := [.int x2, .int x1, .ref 101]) rfl ?_
              obtain ⟨hc56, h⟩ := ite_so h
              obtain ⟨s57, hs58, h⟩ := nx_so h
              refine Q.is hs58 rfl (gI_of zm62 (e := (69, 1, .iastore, [])) rfl) (hl52.lt (a := 101) (by decide)) (by decide) (hl52.T (a := 101) (p := (100, 8)) 23 rfl rfl) hc56 ?_
              have hl59 : Ly tt cc s57 := by rw [hs58]; exact hl52.wId (by decide)
              have hr60 : aK s57 b10 3 := by rw [hs58]; exact hr53
              have hr61 : aK s57 b20 3 := by rw [hs58]; exact hr54
              have hr62 : aK s57 b47 3 := by rw [hs58]; exact hr55
              refine Q.run zm62 4 (i' := 46) (ls' := [some (.ref 78), some (.int x1), some (.int x2), some (.int r15), some (.ref b20)]) (st' := [.ref b20, .ref 78]) rfl ?_
              exact dt62_46 hd hl59 hr61 h
        · rw [if_neg hc17] at h
          refine Q.map (A.bT (gI_of zm62 (e := (42, 3, .if_icmp .ne 49, [47])) rfl) (decide_eq_true hc17)) ?_
          refine Q.run zm62 1 (i' := 48) (ls' := [some (.ref 78), some (.int x1), some (.int x2), some (.int r15), none]) (st' := [.int r15]) rfl ?_
          cases h
          exact Q.ret (A.ri zm62 (show zM62.2.2.2.2.2[48]? = some (92, 1, .ireturn, []) from rfl) rfl rfl) hq12.1
/-! 5 FormulaTreesLaw.read(LFormulaTrees;II[J)I -/
set_option maxRecDepth 100000 in
theorem zm5 : zP[5]? = some zM5 := rfl
def dm5 (x1 : Int32) (x2 : Int32) (s : aS) : Option (Int32 × aS) :=
  bv (dm62 x1 x2 s) fun z4 s3 =>
  zN z4 (fun v5 =>
    vI v5 fun r7 =>
    if aB 0 1 then
      nx (wJ s3 148 (jN 0) r7.toInt64) fun s10 =>
      some (0, s10)
    else none
  ) fun e6 =>
    if e6 = 2 then
      some (1, s3)
    else
      none
set_option maxRecDepth 100000 in
theorem dt5 {sio : Bool} {tt : Nat} {cc : Nat → Nat → Int32} {d : Nat} (hd : 11 ≤ d) {x1 : Int32} {x2 : Int32} {s : aS} (hl : Ly tt cc s) {o : Int32 × aS} (h : dm5  x1 x2 s = some o) : Q 1 sio tt cc d 5 0 [some (.ref 78), some (.int x1), some (.int x2), some (.ref 148), none] [] s (.inl (some (.int o.1)), o.2) := by
  unfold dm5 at h
  obtain ⟨d, rfl⟩ : ∃ e, d = e + 1 := ⟨d - 1, by omega⟩
  refine Q.run zm5 5 (i' := 5) (ls' := [some (.ref 78), some (.int x1), some (.int x2), some (.ref 148), none]) (st' := [.int x2, .int x1, .ref 78, .int 0, .ref 148]) rfl ?_
  obtain ⟨z4, s3, hc2, h⟩ := bv_so h
  have hq1 : Q 1 sio tt cc d 62 0 [some (.ref 78), some (.int x1), some (.int x2), none, none] [] s (z4, s3) := dt62 (by omega) hl  hc2
  rcases zN_so h with ⟨v5, hz13, h8⟩ | ⟨e6, hz13, h8⟩
  · clear h
    subst hz13
    have h := h8
    obtain ⟨r7, hv8, h9⟩ := vI_so h
    clear h
    subst hv8
    have h := h9
    refine Q.callI (gC_vi zm5 (show zM5.2.2.2.2.2[5]? = some (5, 3, .invokevirtual 30, [0, 62, 2, 0]) from rfl) zm62 (hl.lt (a := 78) (by decide)) (hl.T (a := 78) (p := (0, 7)) 0 rfl rfl) rfl (show aCr 2 78 [.int x2, .int x1, .ref 78, .int 0, .ref 148] 5 = some ([some (.ref 78), some (.int x1), some (.int x2), none, none], [.int 0, .ref 148]) from rfl)) hq1 ?_
    refine Q.run zm5 1 (i' := 7) (ls' := [some (.ref 78), some (.int x1), some (.int x2), some (.ref 148), none]) (st' := [.long r7.toInt64, .int 0, .ref 148]) rfl ?_
    obtain ⟨hc9, h⟩ := ite_so h
    obtain ⟨s10, hs11, h⟩ := nx_so h
    refine Q.lS hs11 rfl (gI_of zm5 (e := (9, 1, .lastore, [])) rfl) (hq1.1.lt (a := 148) (by decide)) (by decide) (hq1.1.T (a := 148) (p := (104, 1)) 70 rfl rfl) hc9 ?_
    have hl12 : Ly tt cc s10 := by rw [hs11]; exact hq1.1.wJd
    refine Q.run zm5 2 (i' := 13) (ls' := [some (.ref 78), some (.int x1), some (.int x2), some (.ref 148), none]) (st' := [.int 0]) rfl ?_
    cases h
    exact Q.ret (A.ri zm5 (show zM5.2.2.2.2.2[13]? = some (18, 1, .ireturn, []) from rfl) rfl rfl) hl12
  · clear h
    subst hz13
    have h := h8
    by_cases hc14 : e6 = 2
    · rw [if_pos hc14] at h
      subst hc14
      refine Q.hc (gC_vi zm5 (show zM5.2.2.2.2.2[5]? = some (5, 3, .invokevirtual 30, [0, 62, 2, 0]) from rfl) zm62 (hl.lt (a := 78) (by decide)) (hl.T (a := 78) (p := (0, 7)) 0 rfl rfl) rfl (show aCr 2 78 [.int x2, .int x1, .ref 78, .int 0, .ref 148] 5 = some ([some (.ref 78), some (.int x1), some (.int x2), none, none], [.int 0, .ref 148]) from rfl)) hq1 (t := 9) rfl ?_
      refine Q.run zm5 2 (i' := 11) (ls' := [some (.ref 78), some (.int x1), some (.int x2), some (.ref 148), some (.ref (sL s3 - 1))]) (st' := [.int 1]) rfl ?_
      cases h
      exact Q.ret (A.ri zm5 (show zM5.2.2.2.2.2[11]? = some (16, 1, .ireturn, []) from rfl) rfl rfl) hq1.1
    · rw [if_neg hc14] at h
      cases h
/-! 186 FormulaTreesModel.fail(I)V -/
set_option maxRecDepth 100000 in
theorem zm186 : zP[186]? = some zM186 := rfl
def dm186 (x1 : Int32) (s : aS) : Option (aS) :=
  nx (wI s 121 27 1) fun s1 =>
  nx (wI s1 121 26 x1) fun s4 =>
  some s4
set_option maxRecDepth 100000 in
theorem dt186 {sio : Bool} {tt : Nat} {cc : Nat → Nat → Int32} {d : Nat} (hd : 0 ≤ d) {x1 : Int32} {s : aS} (hl : Ly tt cc s) {o : aS} (h : dm186  x1 s = some o) : Q 2 sio tt cc d 186 0 [some (.ref 121), some (.int x1)] [] s (.inl none, o) := by
  unfold dm186 at h
  refine Q.run zm186 2 (i' := 2) (ls' := [some (.ref 121), some (.int x1)]) (st' := [.int 1, .ref 121]) rfl ?_
  obtain ⟨s1, hs2, h⟩ := nx_so h
  refine Q.pf hs2 rfl (gI_of zm186 (e := (2, 3, .putfield 134, [9, 27, 1])) rfl) (hl.lt (a := 121) (by decide)) (by decide) (hl.T (a := 121) (p := (9, 45)) 43 rfl rfl) (by decide) rfl rfl ?_
  have hl3 : Ly tt cc s1 := by rw [hs2]; exact hl.wId (by decide)
  refine Q.run zm186 2 (i' := 5) (ls' := [some (.ref 121), some (.int x1)]) (st' := [.int x1, .ref 121]) rfl ?_
  obtain ⟨s4, hs5, h⟩ := nx_so h
  refine Q.pf hs5 rfl (gI_of zm186 (e := (7, 3, .putfield 138, [9, 26, 0])) rfl) (hl3.lt (a := 121) (by decide)) (by decide) (hl3.T (a := 121) (p := (9, 45)) 43 rfl rfl) (by decide) rfl rfl ?_
  have hl6 : Ly tt cc s4 := by rw [hs5]; exact hl3.wId (by decide)
  cases h
  exact Q.ret (A.rv zm186 (show zM186.2.2.2.2.2[6]? = some (10, 1, .return_, []) from rfl) rfl) hl6
/-! 187 FormulaTreesModel.make(I)I -/
set_option maxRecDepth 100000 in
theorem zm187 : zP[187]? = some zM187 := rfl
def dm187 (x1 : Int32) (s : aS) : Option (Int32 × aS) :=
  if aB (1024 + (sI s 121 21)) 1152 then
    nx (wI s 128 (jN (1024 + (sI s 121 21))) x1) fun s2 =>
    if aB (1024 + (sI s 121 21)) 1152 then
      nx (wI s2 129 (jN (1024 + (sI s 121 21))) 0) fun s6 =>
      if aB (1024 + (sI s 121 21)) 1152 then
        nx (wI s6 130 (jN (1024 + (sI s 121 21))) (-1)) fun s10 =>
        if aB (1024 + (sI s 121 21)) 1152 then
          nx (wI s10 131 (jN (1024 + (sI s 121 21))) 0) fun s14 =>
          if aB (1024 + (sI s 121 21)) 1152 then
            nx (wI s14 132 (jN (1024 + (sI s 121 21))) 0) fun s18 =>
            if aB (1024 + (sI s 121 21)) 1152 then
              nx (wI s18 133 (jN (1024 + (sI s 121 21))) 0) fun s22 =>
              if aB (1024 + (sI s 121 21)) 1152 then
                nx (wI s22 134 (jN (1024 + (sI s 121 21))) 0) fun s26 =>
                if aB (1024 + (sI s 121 21)) 1152 then
                  nx (wI s26 135 (jN (1024 + (sI s 121 21))) 0) fun s30 =>
                  if aB (1024 + (sI s 121 21)) 1152 then
                    nx (wI s30 136 (jN (1024 + (sI s 121 21))) 0) fun s34 =>
                    if aB (1024 + (sI s 121 21)) 1152 then
                      nx (wI s34 137 (jN (1024 + (sI s 121 21))) 0) fun s38 =>
                      if aB (1024 + (sI s 121 21)) 1152 then
                        nx (wI s38 138 (jN (1024 + (sI s 121 21))) 0) fun s42 =>
                        if aB (sI s 121 21) 128 then
                          nx (wI s42 140 (jN (sI s 121 21)) (-1)) fun s46 =>
                          if aB (sI s 121 21) 128 then
                            nx (wI s46 141 (jN (sI s 121 21)) (-1)) fun s50 =>
                            if aB (sI s 121 21) 128 then
                              nx (wI s50 142 (jN (sI s 121 21)) (-1)) fun s54 =>
                              nx (wI s54 121 21 ((sI s54 121 21) + 1)) fun s57 =>
                              some (sI s 121 21, s57)
                            else none
                          else none
                        else none
                      else none
                    else none
                  else none
                else none
              else none
            else none
          else none
        else none
      else none
    else none
  else none
set_option maxRecDepth 100000 in
theorem dt187 {sio : Bool} {tt : Nat} {cc : Nat → Nat → Int32} {d : Nat} (hd : 0 ≤ d) {x1 : Int32} {s : aS} (hl : Ly tt cc s) {o : Int32 × aS} (h : dm187  x1 s = some o) : Q 2 sio tt cc d 187 0 [some (.ref 121), some (.int x1), none, none] [] s (.inl (some (.int o.1)), o.2) := by
  unfold dm187 at h
  refine Q.run zm187 1 (i' := 1) (ls' := [some (.ref 121), some (.int x1), none, none]) (st' := [.ref 121]) rfl ?_
  refine Q.map (A.gf (gI_of zm187 (e := (1, 3, .getfield 141, [9, 21])) rfl) (hl.lt (a := 121) (by decide)) (hl.T (a := 121) (p := (9, 45)) 43 rfl rfl) (by decide) rfl) ?_
  refine Q.run zm187 6 (i' := 8) (ls' := [some (.ref 121), some (.int x1), some (.int (sI s 121 21)), some (.int (1024 + (sI s 121 21)))]) (st' := [.ref 121]) rfl ?_
  refine Q.map (A.gf (gI_of zm187 (e := (12, 3, .getfield 29, [9, 9])) rfl) (hl.lt (a := 121) (by decide)) (hl.T (a := 121) (p := (9, 45)) 43 rfl rfl) (by decide) (hl.R 29 rfl)) ?_
  refine Q.run zm187 2 (i' := 11) (ls' := [some (.ref 121), some (.int x1), some (.int (sI s 121 21)), some (.int (1024 + (sI s 121 21)))]) (st' := [.int x1, .int (1024 + (sI s 121 21)), .ref 128]) rfl ?_
  obtain ⟨hc1, h⟩ := ite_so h
  obtain ⟨s2, hs3, h⟩ := nx_so h
  refine Q.is hs3 rfl (gI_of zm187 (e := (17, 1, .iastore, [])) rfl) (hl.lt (a := 128) (by decide)) (by decide) (hl.T (a := 128) (p := (100, 1152)) 50 rfl rfl) hc1 ?_
  have hl4 : Ly tt cc s2 := by rw [hs3]; exact hl.wId (by decide)
  refine Q.run zm187 1 (i' := 13) (ls' := [some (.ref 121), some (.int x1), some (.int (sI s 121 21)), some (.int (1024 + (sI s 121 21)))]) (st' := [.ref 121]) rfl ?_
  refine Q.map (A.gf (gI_of zm187 (e := (19, 3, .getfield 32, [9, 10])) rfl) (hl4.lt (a := 121) (by decide)) (hl4.T (a := 121) (p := (9, 45)) 43 rfl rfl) (by decide) (hl4.R 30 rfl)) ?_
  refine Q.run zm187 2 (i' := 16) (ls' := [some (.ref 121), some (.int x1), some (.int (sI s 121 21)), some (.int (1024 + (sI s 121 21)))]) (st' := [.int 0, .int (1024 + (sI s 121 21)), .ref 129]) rfl ?_
  obtain ⟨hc5, h⟩ := ite_so h
  obtain ⟨s6, hs7, h⟩ := nx_so h
  refine Q.is hs7 rfl (gI_of zm187 (e := (24, 1, .iastore, [])) rfl) (hl4.lt (a := 129) (by decide)) (by decide) (hl4.T (a := 129) (p := (100, 1152)) 51 rfl rfl) hc5 ?_
  have hl8 : Ly tt cc s6 := by rw [hs7]; exact hl4.wId (by decide)
  refine Q.run zm187 1 (i' := 18) (ls' := [some (.ref 121), some (.int x1), some (.int (sI s 121 21)), some (.int (1024 + (sI s 121 21)))]) (st' := [.ref 121]) rfl ?_
  refine Q.map (A.gf (gI_of zm187 (e := (26, 3, .getfield 35, [9, 11])) rfl) (hl8.lt (a := 121) (by decide)) (hl8.T (a := 121) (p := (9, 45)) 43 rfl rfl) (by decide) (hl8.R 31 rfl)) ?_
  refine Q.run zm187 2 (i' := 21) (ls' := [some (.ref 121), some (.int x1), some (.int (sI s 121 21)), some (.int (1024 + (sI s 121 21)))]) (st' := [.int (-1), .int (1024 + (sI s 121 21)), .ref 130]) rfl ?_
  obtain ⟨hc9, h⟩ := ite_so h
  obtain ⟨s10, hs11, h⟩ := nx_so h
  refine Q.is hs11 rfl (gI_of zm187 (e := (31, 1, .iastore, [])) rfl) (hl8.lt (a := 130) (by decide)) (by decide) (hl8.T (a := 130) (p := (100, 1152)) 52 rfl rfl) hc9 ?_
  have hl12 : Ly tt cc s10 := by rw [hs11]; exact hl8.wId (by decide)
  refine Q.run zm187 1 (i' := 23) (ls' := [some (.ref 121), some (.int x1), some (.int (sI s 121 21)), some (.int (1024 + (sI s 121 21)))]) (st' := [.ref 121]) rfl ?_
  refine Q.map (A.gf (gI_of zm187 (e := (33, 3, .getfield 38, [9, 12])) rfl) (hl12.lt (a := 121) (by decide)) (hl12.T (a := 121) (p := (9, 45)) 43 rfl rfl) (by decide) (hl12.R 32 rfl)) ?_
  refine Q.run zm187 2 (i' := 26) (ls' := [some (.ref 121), some (.int x1), some (.int (sI s 121 21)), some (.int (1024 + (sI s 121 21)))]) (st' := [.int 0, .int (1024 + (sI s 121 21)), .ref 131]) rfl ?_
  obtain ⟨hc13, h⟩ := ite_so h
  obtain ⟨s14, hs15, h⟩ := nx_so h
  refine Q.is hs15 rfl (gI_of zm187 (e := (38, 1, .iastore, [])) rfl) (hl12.lt (a := 131) (by decide)) (by decide) (hl12.T (a := 131) (p := (100, 1152)) 53 rfl rfl) hc13 ?_
  have hl16 : Ly tt cc s14 := by rw [hs15]; exact hl12.wId (by decide)
  refine Q.run zm187 1 (i' := 28) (ls' := [some (.ref 121), some (.int x1), some (.int (sI s 121 21)), some (.int (1024 + (sI s 121 21)))]) (st' := [.ref 121]) rfl ?_
  refine Q.map (A.gf (gI_of zm187 (e := (40, 3, .getfield 41, [9, 13])) rfl) (hl16.lt (a := 121) (by decide)) (hl16.T (a := 121) (p := (9, 45)) 43 rfl rfl) (by decide) (hl16.R 33 rfl)) ?_
  refine Q.run zm187 2 (i' := 31) (ls' := [some (.ref 121), some (.int x1), some (.int (sI s 121 21)), some (.int (1024 + (sI s 121 21)))]) (st' := [.int 0, .int (1024 + (sI s 121 21)), .ref 132]) rfl ?_
  obtain ⟨hc17, h⟩ := ite_so h
  obtain ⟨s18, hs19, h⟩ := nx_so h
  refine Q.is hs19 rfl (gI_of zm187 (e := (45, 1, .iastore, [])) rfl) (hl16.lt (a := 132) (by decide)) (by decide) (hl16.T (a := 132) (p := (100, 1152)) 54 rfl rfl) hc17 ?_
  have hl20 : Ly tt cc s18 := by rw [hs19]; exact hl16.wId (by decide)
  refine Q.run zm187 1 (i' := 33) (ls' := [some (.ref 121), some (.int x1), some (.int (sI s 121 21)), some (.int (1024 + (sI s 121 21)))]) (st' := [.ref 121]) rfl ?_
  refine Q.map (A.gf (gI_of zm187 (e := (47, 3, .getfield 44, [9, 14])) rfl) (hl20.lt (a := 121) (by decide)) (hl20.T (a := 121) (p := (9, 45)) 43 rfl rfl) (by decide) (hl20.R 34 rfl)) ?_
  refine Q.run zm187 2 (i' := 36) (ls' := [some (.ref 121), some (.int x1), some (.int (sI s 121 21)), some (.int (1024 + (sI s 121 21)))]) (st' := [.int 0, .int (1024 + (sI s 121 21)), .ref 133]) rfl ?_
  obtain ⟨hc21, h⟩ := ite_so h
  obtain ⟨s22, hs23, h⟩ := nx_so h
  refine Q.is hs23 rfl (gI_of zm187 (e := (52, 1, .iastore, [])) rfl) (hl20.lt (a := 133) (by decide)) (by decide) (hl20.T (a := 133) (p := (100, 1152)) 55 rfl rfl) hc21 ?_
  have hl24 : Ly tt cc s22 := by rw [hs23]; exact hl20.wId (by decide)
  refine Q.run zm187 1 (i' := 38) (ls' := [some (.ref 121), some (.int x1), some (.int (sI s 121 21)), some (.int (1024 + (sI s 121 21)))]) (st' := [.ref 121]) rfl ?_
  refine Q.map (A.gf (gI_of zm187 (e := (54, 3, .getfield 47, [9, 15])) rfl) (hl24.lt (a := 121) (by decide)) (hl24.T (a := 121) (p := (9, 45)) 43 rfl rfl) (by decide) (hl24.R 35 rfl)) ?_
  refine Q.run zm187 2 (i' := 41) (ls' := [some (.ref 121), some (.int x1), some (.int (sI s 121 21)), some (.int (1024 + (sI s 121 21)))]) (st' := [.int 0, .int (1024 + (sI s 121 21)), .ref 134]) rfl ?_
  obtain ⟨hc25, h⟩ := ite_so h
  obtain ⟨s26, hs27, h⟩ := nx_so h
  refine Q.is hs27 rfl (gI_of zm187 (e := (59, 1, .iastore, [])) rfl) (hl24.lt (a := 134) (by decide)) (by decide) (hl24.T (a := 134) (p := (100, 1152)) 56 rfl rfl) hc25 ?_
  have hl28 : Ly tt cc s26 := by rw [hs27]; exact hl24.wId (by decide)
  refine Q.run zm187 1 (i' := 43) (ls' := [some (.ref 121), some (.int x1), some (.int (sI s 121 21)), some (.int (1024 + (sI s 121 21)))]) (st' := [.ref 121]) rfl ?_
  refine Q.map (A.gf (gI_of zm187 (e := (61, 3, .getfield 50, [9, 16])) rfl) (hl28.lt (a := 121) (by decide)) (hl28.T (a := 121) (p := (9, 45)) 43 rfl rfl) (by decide) (hl28.R 36 rfl)) ?_
  refine Q.run zm187 2 (i' := 46) (ls' := [some (.ref 121), some (.int x1), some (.int (sI s 121 21)), some (.int (1024 + (sI s 121 21)))]) (st' := [.int 0, .int (1024 + (sI s 121 21)), .ref 135]) rfl ?_
  obtain ⟨hc29, h⟩ := ite_so h
  obtain ⟨s30, hs31, h⟩ := nx_so h
  refine Q.is hs31 rfl (gI_of zm187 (e := (66, 1, .iastore, [])) rfl) (hl28.lt (a := 135) (by decide)) (by decide) (hl28.T (a := 135) (p := (100, 1152)) 57 rfl rfl) hc29 ?_
  have hl32 : Ly tt cc s30 := by rw [hs31]; exact hl28.wId (by decide)
  refine Q.run zm187 1 (i' := 48) (ls' := [some (.ref 121), some (.int x1), some (.int (sI s 121 21)), some (.int (1024 + (sI s 121 21)))]) (st' := [.ref 121]) rfl ?_
  refine Q.map (A.gf (gI_of zm187 (e := (68, 3, .getfield 53, [9, 17])) rfl) (hl32.lt (a := 121) (by decide)) (hl32.T (a := 121) (p := (9, 45)) 43 rfl rfl) (by decide) (hl32.R 37 rfl)) ?_
  refine Q.run zm187 2 (i' := 51) (ls' := [some (.ref 121), some (.int x1), some (.int (sI s 121 21)), some (.int (1024 + (sI s 121 21)))]) (st' := [.int 0, .int (1024 + (sI s 121 21)), .ref 136]) rfl ?_
  obtain ⟨hc33, h⟩ := ite_so h
  obtain ⟨s34, hs35, h⟩ := nx_so h
  refine Q.is hs35 rfl (gI_of zm187 (e := (73, 1, .iastore, [])) rfl) (hl32.lt (a := 136) (by decide)) (by decide) (hl32.T (a := 136) (p := (100, 1152)) 58 rfl rfl) hc33 ?_
  have hl36 : Ly tt cc s34 := by rw [hs35]; exact hl32.wId (by decide)
  refine Q.run zm187 1 (i' := 53) (ls' := [some (.ref 121), some (.int x1), some (.int (sI s 121 21)), some (.int (1024 + (sI s 121 21)))]) (st' := [.ref 121]) rfl ?_
  refine Q.map (A.gf (gI_of zm187 (e := (75, 3, .getfield 56, [9, 18])) rfl) (hl36.lt (a := 121) (by decide)) (hl36.T (a := 121) (p := (9, 45)) 43 rfl rfl) (by decide) (hl36.R 38 rfl)) ?_
  refine Q.run zm187 2 (i' := 56) (ls' := [some (.ref 121), some (.int x1), some (.int (sI s 121 21)), some (.int (1024 + (sI s 121 21)))]) (st' := [.int 0, .int (1024 + (sI s 121 21)), .ref 137]) rfl ?_
  obtain ⟨hc37, h⟩ := ite_so h
  obtain ⟨s38, hs39, h⟩ := nx_so h
  refine Q.is hs39 rfl (gI_of zm187 (e := (80, 1, .iastore, [])) rfl) (hl36.lt (a := 137) (by decide)) (by decide) (hl36.T (a := 137) (p := (100, 1152)) 59 rfl rfl) hc37 ?_
  have hl40 : Ly tt cc s38 := by rw [hs39]; exact hl36.wId (by decide)
  refine Q.run zm187 1 (i' := 58) (ls' := [some (.ref 121), some (.int x1), some (.int (sI s 121 21)), some (.int (1024 + (sI s 121 21)))]) (st' := [.ref 121]) rfl ?_
  refine Q.map (A.gf (gI_of zm187 (e := (82, 3, .getfield 59, [9, 19])) rfl) (hl40.lt (a := 121) (by decide)) (hl40.T (a := 121) (p := (9, 45)) 43 rfl rfl) (by decide) (hl40.R 39 rfl)) ?_
  refine Q.run zm187 2 (i' := 61) (ls' := [some (.ref 121), some (.int x1), some (.int (sI s 121 21)), some (.int (1024 + (sI s 121 21)))]) (st' := [.int 0, .int (1024 + (sI s 121 21)), .ref 138]) rfl ?_
  obtain ⟨hc41, h⟩ := ite_so h
  obtain ⟨s42, hs43, h⟩ := nx_so h
  refine Q.is hs43 rfl (gI_of zm187 (e := (87, 1, .iastore, [])) rfl) (hl40.lt (a := 138) (by decide)) (by decide) (hl40.T (a := 138) (p := (100, 1152)) 60 rfl rfl) hc41 ?_
  have hl44 : Ly tt cc s42 := by rw [hs43]; exact hl40.wId (by decide)
  refine Q.run zm187 1 (i' := 63) (ls' := [some (.ref 121), some (.int x1), some (.int (sI s 121 21)), some (.int (1024 + (sI s 121 21)))]) (st' := [.ref 121]) rfl ?_
  refine Q.map (A.gf (gI_of zm187 (e := (89, 3, .getfield 65, [9, 22])) rfl) (hl44.lt (a := 121) (by decide)) (hl44.T (a := 121) (p := (9, 45)) 43 rfl rfl) (by decide) (hl44.R 41 rfl)) ?_
  refine Q.run zm187 2 (i' := 66) (ls' := [some (.ref 121), some (.int x1), some (.int (sI s 121 21)), some (.int (1024 + (sI s 121 21)))]) (st' := [.int (-1), .int (sI s 121 21), .ref 140]) rfl ?_
  obtain ⟨hc45, h⟩ := ite_so h
  obtain ⟨s46, hs47, h⟩ := nx_so h
  refine Q.is hs47 rfl (gI_of zm187 (e := (94, 1, .iastore, [])) rfl) (hl44.lt (a := 140) (by decide)) (by decide) (hl44.T (a := 140) (p := (100, 128)) 62 rfl rfl) hc45 ?_
  have hl48 : Ly tt cc s46 := by rw [hs47]; exact hl44.wId (by decide)
  refine Q.run zm187 1 (i' := 68) (ls' := [some (.ref 121), some (.int x1), some (.int (sI s 121 21)), some (.int (1024 + (sI s 121 21)))]) (st' := [.ref 121]) rfl ?_
  refine Q.map (A.gf (gI_of zm187 (e := (96, 3, .getfield 68, [9, 23])) rfl) (hl48.lt (a := 121) (by decide)) (hl48.T (a := 121) (p := (9, 45)) 43 rfl rfl) (by decide) (hl48.R 42 rfl)) ?_
  refine Q.run zm187 2 (i' := 71) (ls' := [some (.ref 121), some (.int x1), some (.int (sI s 121 21)), some (.int (1024 + (sI s 121 21)))]) (st' := [.int (-1), .int (sI s 121 21), .ref 141]) rfl ?_
  obtain ⟨hc49, h⟩ := ite_so h
  obtain ⟨s50, hs51, h⟩ := nx_so h
  refine Q.is hs51 rfl (gI_of zm187 (e := (101, 1, .iastore, [])) rfl) (hl48.lt (a := 141) (by decide)) (by decide) (hl48.T (a := 141) (p := (100, 128)) 63 rfl rfl) hc49 ?_
  have hl52 : Ly tt cc s50 := by rw [hs51]; exact hl48.wId (by decide)
  refine Q.run zm187 1 (i' := 73) (ls' := [some (.ref 121), some (.int x1), some (.int (sI s 121 21)), some (.int (1024 + (sI s 121 21)))]) (st' := [.ref 121]) rfl ?_
  refine Q.map (A.gf (gI_of zm187 (e := (103, 3, .getfield 71, [9, 24])) rfl) (hl52.lt (a := 121) (by decide)) (hl52.T (a := 121) (p := (9, 45)) 43 rfl rfl) (by decide) (hl52.R 43 rfl)) ?_
  refine Q.run zm187 2 (i' := 76) (ls' := [some (.ref 121), some (.int x1), some (.int (sI s 121 21)), some (.int (1024 + (sI s 121 21)))]) (st' := [.int (-1), .int (sI s 121 21), .ref 142]) rfl ?_
  obtain ⟨hc53, h⟩ := ite_so h
  obtain ⟨s54, hs55, h⟩ := nx_so h
  refine Q.is hs55 rfl (gI_of zm187 (e := (108, 1, .iastore, [])) rfl) (hl52.lt (a := 142) (by decide)) (by decide) (hl52.T (a := 142) (p := (100, 128)) 64 rfl rfl) hc53 ?_
  have hl56 : Ly tt cc s54 := by rw [hs55]; exact hl52.wId (by decide)
  refine Q.run zm187 2 (i' := 79) (ls' := [some (.ref 121), some (.int x1), some (.int (sI s 121 21)), some (.int (1024 + (sI s 121 21)))]) (st' := [.ref 121, .ref 121]) rfl ?_
  refine Q.map (A.gf (gI_of zm187 (e := (111, 3, .getfield 141, [9, 21])) rfl) (hl56.lt (a := 121) (by decide)) (hl56.T (a := 121) (p := (9, 45)) 43 rfl rfl) (by decide) rfl) ?_
  refine Q.run zm187 2 (i' := 82) (ls' := [some (.ref 121), some (.int x1), some (.int (sI s 121 21)), some (.int (1024 + (sI s 121 21)))]) (st' := [.int ((sI s54 121 21) + 1), .ref 121]) rfl ?_
  obtain ⟨s57, hs58, h⟩ := nx_so h
  refine Q.pf hs58 rfl (gI_of zm187 (e := (116, 3, .putfield 141, [9, 21, 0])) rfl) (hl56.lt (a := 121) (by decide)) (by decide) (hl56.T (a := 121) (p := (9, 45)) 43 rfl rfl) (by decide) rfl rfl ?_
  have hl59 : Ly tt cc s57 := by rw [hs58]; exact hl56.wId (by decide)
  refine Q.run zm187 1 (i' := 84) (ls' := [some (.ref 121), some (.int x1), some (.int (sI s 121 21)), some (.int (1024 + (sI s 121 21)))]) (st' := [.int (sI s 121 21)]) rfl ?_
  cases h
  exact Q.ret (A.ri zm187 (show zM187.2.2.2.2.2[84]? = some (120, 1, .ireturn, []) from rfl) rfl rfl) hl59
/-! 188 FormulaTreesModel.hold(II)V -/
set_option maxRecDepth 100000 in
theorem zm188 : zP[188]? = some zM188 := rfl
def dm188 (x1 : Int32) (x2 : Int32) (s : aS) : Option (aS) :=
  if aB (sI s 121 32) 300 then
    nx (wI s 145 (jN (sI s 121 32)) x1) fun s2 =>
    if aB (sI s2 121 32) 300 then
      nx (wI s2 146 (jN (sI s2 121 32)) x2) fun s6 =>
      nx (wI s6 121 32 ((sI s6 121 32) + 1)) fun s9 =>
      some s9
    else none
  else none
set_option maxRecDepth 100000 in
theorem dt188 {sio : Bool} {tt : Nat} {cc : Nat → Nat → Int32} {d : Nat} (hd : 0 ≤ d) {x1 : Int32} {x2 : Int32} {s : aS} (hl : Ly tt cc s) {o : aS} (h : dm188  x1 x2 s = some o) : Q 2 sio tt cc d 188 0 [some (.ref 121), some (.int x1), some (.int x2)] [] s (.inl none, o) := by
  unfold dm188 at h
  refine Q.run zm188 1 (i' := 1) (ls' := [some (.ref 121), some (.int x1), some (.int x2)]) (st' := [.ref 121]) rfl ?_
  refine Q.map (A.gf (gI_of zm188 (e := (1, 3, .getfield 80, [9, 30])) rfl) (hl.lt (a := 121) (by decide)) (hl.T (a := 121) (p := (9, 45)) 43 rfl rfl) (by decide) (hl.R 46 rfl)) ?_
  refine Q.run zm188 1 (i' := 3) (ls' := [some (.ref 121), some (.int x1), some (.int x2)]) (st' := [.ref 121, .ref 145]) rfl ?_
  refine Q.map (A.gf (gI_of zm188 (e := (5, 3, .getfield 147, [9, 32])) rfl) (hl.lt (a := 121) (by decide)) (hl.T (a := 121) (p := (9, 45)) 43 rfl rfl) (by decide) rfl) ?_
  refine Q.run zm188 1 (i' := 5) (ls' := [some (.ref 121), some (.int x1), some (.int x2)]) (st' := [.int x1, .int (sI s 121 32), .ref 145]) rfl ?_
  obtain ⟨hc1, h⟩ := ite_so h
  obtain ⟨s2, hs3, h⟩ := nx_so h
  refine Q.is hs3 rfl (gI_of zm188 (e := (9, 1, .iastore, [])) rfl) (hl.lt (a := 145) (by decide)) (by decide) (hl.T (a := 145) (p := (100, 300)) 67 rfl rfl) hc1 ?_
  have hl4 : Ly tt cc s2 := by rw [hs3]; exact hl.wId (by decide)
  refine Q.run zm188 1 (i' := 7) (ls' := [some (.ref 121), some (.int x1), some (.int x2)]) (st' := [.ref 121]) rfl ?_
  refine Q.map (A.gf (gI_of zm188 (e := (11, 3, .getfield 83, [9, 31])) rfl) (hl4.lt (a := 121) (by decide)) (hl4.T (a := 121) (p := (9, 45)) 43 rfl rfl) (by decide) (hl4.R 47 rfl)) ?_
  refine Q.run zm188 1 (i' := 9) (ls' := [some (.ref 121), some (.int x1), some (.int x2)]) (st' := [.ref 121, .ref 146]) rfl ?_
  refine Q.map (A.gf (gI_of zm188 (e := (15, 3, .getfield 147, [9, 32])) rfl) (hl4.lt (a := 121) (by decide)) (hl4.T (a := 121) (p := (9, 45)) 43 rfl rfl) (by decide) rfl) ?_
  refine Q.run zm188 1 (i' := 11) (ls' := [some (.ref 121), some (.int x1), some (.int x2)]) (st' := [.int x2, .int (sI s2 121 32), .ref 146]) rfl ?_
  obtain ⟨hc5, h⟩ := ite_so h
  obtain ⟨s6, hs7, h⟩ := nx_so h
  refine Q.is hs7 rfl (gI_of zm188 (e := (19, 1, .iastore, [])) rfl) (hl4.lt (a := 146) (by decide)) (by decide) (hl4.T (a := 146) (p := (100, 300)) 68 rfl rfl) hc5 ?_
  have hl8 : Ly tt cc s6 := by rw [hs7]; exact hl4.wId (by decide)
  refine Q.run zm188 2 (i' := 14) (ls' := [some (.ref 121), some (.int x1), some (.int x2)]) (st' := [.ref 121, .ref 121]) rfl ?_
  refine Q.map (A.gf (gI_of zm188 (e := (22, 3, .getfield 147, [9, 32])) rfl) (hl8.lt (a := 121) (by decide)) (hl8.T (a := 121) (p := (9, 45)) 43 rfl rfl) (by decide) rfl) ?_
  refine Q.run zm188 2 (i' := 17) (ls' := [some (.ref 121), some (.int x1), some (.int x2)]) (st' := [.int ((sI s6 121 32) + 1), .ref 121]) rfl ?_
  obtain ⟨s9, hs10, h⟩ := nx_so h
  refine Q.pf hs10 rfl (gI_of zm188 (e := (27, 3, .putfield 147, [9, 32, 0])) rfl) (hl8.lt (a := 121) (by decide)) (by decide) (hl8.T (a := 121) (p := (9, 45)) 43 rfl rfl) (by decide) rfl rfl ?_
  have hl11 : Ly tt cc s9 := by rw [hs10]; exact hl8.wId (by decide)
  cases h
  exact Q.ret (A.rv zm188 (show zM188.2.2.2.2.2[18]? = some (30, 1, .return_, []) from rfl) rfl) hl11
/-! 191 FormulaTreesModel.rank(I)I -/
set_option maxRecDepth 100000 in
theorem zm191 : zP[191]? = some zM191 := rfl
def dm191 (x0 : Int32) : Option (Int32) :=
  if 9 ≤ x0 then
    if x0 = 9 then
      some 7
    else
      if x0 = 10 then
        some 6
      else
        if x0 = 11 then
          some 5
        else
          if 14 ≤ x0 then
            if 16 ≤ x0 then
              if x0 = 16 then
                some 2
              else
                some 1
            else
              some 3
          else
            some 4
  else
    some 8
set_option maxRecDepth 100000 in
theorem dt191 {sio : Bool} {tt : Nat} {cc : Nat → Nat → Int32} {d : Nat} (hd : 0 ≤ d) {x0 : Int32} {s : aS} (hl : Ly tt cc s) {o : Int32} (h : dm191  x0 = some o) : Q 2 sio tt cc d 191 0 [some (.int x0)] [] s (.inl (some (.int o)), s) := by
  unfold dm191 at h
  refine Q.run zm191 2 (i' := 2) (ls' := [some (.int x0)]) (st' := [.int 9, .int x0]) rfl ?_
  by_cases hc1 : 9 ≤ x0
  · rw [if_pos hc1] at h
    refine Q.map (A.bT (gI_of zm191 (e := (3, 3, .if_icmp .ge 8, [5])) rfl) (decide_eq_true hc1)) ?_
    refine Q.run zm191 2 (i' := 7) (ls' := [some (.int x0)]) (st' := [.int 9, .int x0]) rfl ?_
    by_cases hc2 : x0 = 9
    · rw [if_pos hc2] at h
      refine Q.map (A.bF (gI_of zm191 (e := (14, 3, .if_icmp .ne 8, [10])) rfl) (fun q => of_decide_eq_true q hc2)) ?_
      refine Q.run zm191 2 (i' := 36) (ls' := [some (.int x0)]) (st' := [.int 7]) rfl ?_
      cases h
      exact Q.ret (A.ri zm191 (show zM191.2.2.2.2.2[36]? = some (74, 1, .ireturn, []) from rfl) rfl rfl) hl
    · rw [if_neg hc2] at h
      refine Q.map (A.bT (gI_of zm191 (e := (14, 3, .if_icmp .ne 8, [10])) rfl) (decide_eq_true hc2)) ?_
      refine Q.run zm191 2 (i' := 12) (ls' := [some (.int x0)]) (st' := [.int 10, .int x0]) rfl ?_
      by_cases hc3 : x0 = 10
      · rw [if_pos hc3] at h
        refine Q.map (A.bF (gI_of zm191 (e := (25, 3, .if_icmp .ne 8, [15])) rfl) (fun q => of_decide_eq_true q hc3)) ?_
        refine Q.run zm191 2 (i' := 36) (ls' := [some (.int x0)]) (st' := [.int 6]) rfl ?_
        cases h
        exact Q.ret (A.ri zm191 (show zM191.2.2.2.2.2[36]? = some (74, 1, .ireturn, []) from rfl) rfl rfl) hl
      · rw [if_neg hc3] at h
        refine Q.map (A.bT (gI_of zm191 (e := (25, 3, .if_icmp .ne 8, [15])) rfl) (decide_eq_true hc3)) ?_
        refine Q.run zm191 2 (i' := 17) (ls' := [some (.int x0)]) (st' := [.int 11, .int x0]) rfl ?_
        by_cases hc4 : x0 = 11
        · rw [if_pos hc4] at h
          refine Q.map (A.bF (gI_of zm191 (e := (36, 3, .if_icmp .ne 7, [20])) rfl) (fun q => of_decide_eq_true q hc4)) ?_
          refine Q.run zm191 2 (i' := 36) (ls' := [some (.int x0)]) (st' := [.int 5]) rfl ?_
          cases h
          exact Q.ret (A.ri zm191 (show zM191.2.2.2.2.2[36]? = some (74, 1, .ireturn, []) from rfl) rfl rfl) hl
        · rw [if_neg hc4] at h
          refine Q.map (A.bT (gI_of zm191 (e := (36, 3, .if_icmp .ne 7, [20])) rfl) (decide_eq_true hc4)) ?_
          refine Q.run zm191 2 (i' := 22) (ls' := [some (.int x0)]) (st' := [.int 14, .int x0]) rfl ?_
          by_cases hc5 : 14 ≤ x0
          · rw [if_pos hc5] at h
            refine Q.map (A.bT (gI_of zm191 (e := (46, 3, .if_icmp .ge 7, [25])) rfl) (decide_eq_true hc5)) ?_
            refine Q.run zm191 2 (i' := 27) (ls' := [some (.int x0)]) (st' := [.int 16, .int x0]) rfl ?_
            by_cases hc6 : 16 ≤ x0
            · rw [if_pos hc6] at h
              refine Q.map (A.bT (gI_of zm191 (e := (56, 3, .if_icmp .ge 7, [30])) rfl) (decide_eq_true hc6)) ?_
              refine Q.run zm191 2 (i' := 32) (ls' := [some (.int x0)]) (st' := [.int 16, .int x0]) rfl ?_
              by_cases hc7 : x0 = 16
              · rw [if_pos hc7] at h
                refine Q.map (A.bF (gI_of zm191 (e := (66, 3, .if_icmp .ne 7, [35])) rfl) (fun q => of_decide_eq_true q hc7)) ?_
                refine Q.run zm191 2 (i' := 36) (ls' := [some (.int x0)]) (st' := [.int 2]) rfl ?_
                cases h
                exact Q.ret (A.ri zm191 (show zM191.2.2.2.2.2[36]? = some (74, 1, .ireturn, []) from rfl) rfl rfl) hl
              · rw [if_neg hc7] at h
                refine Q.map (A.bT (gI_of zm191 (e := (66, 3, .if_icmp .ne 7, [35])) rfl) (decide_eq_true hc7)) ?_
                refine Q.run zm191 1 (i' := 36) (ls' := [some (.int x0)]) (st' := [.int 1]) rfl ?_
                cases h
                exact Q.ret (A.ri zm191 (show zM191.2.2.2.2.2[36]? = some (74, 1, .ireturn, []) from rfl) rfl rfl) hl
            · rw [if_neg hc6] at h
              refine Q.map (A.bF (gI_of zm191 (e := (56, 3, .if_icmp .ge 7, [30])) rfl) (fun q => hc6 (of_decide_eq_true q))) ?_
              refine Q.run zm191 2 (i' := 36) (ls' := [some (.int x0)]) (st' := [.int 3]) rfl ?_
              cases h
              exact Q.ret (A.ri zm191 (show zM191.2.2.2.2.2[36]? = some (74, 1, .ireturn, []) from rfl) rfl rfl) hl
          · rw [if_neg hc5] at h
            refine Q.map (A.bF (gI_of zm191 (e := (46, 3, .if_icmp .ge 7, [25])) rfl) (fun q => hc5 (of_decide_eq_true q))) ?_
            refine Q.run zm191 2 (i' := 36) (ls' := [some (.int x0)]) (st' := [.int 4]) rfl ?_
            cases h
            exact Q.ret (A.ri zm191 (show zM191.2.2.2.2.2[36]? = some (74, 1, .ireturn, []) from rfl) rfl rfl) hl
  · rw [if_neg hc1] at h
    refine Q.map (A.bF (gI_of zm191 (e := (3, 3, .if_icmp .ge 8, [5])) rfl) (fun q => hc1 (of_decide_eq_true q))) ?_
    refine Q.run zm191 2 (i' := 36) (ls' := [some (.int x0)]) (st' := [.int 8]) rfl ?_
    cases h
    exact Q.ret (A.ri zm191 (show zM191.2.2.2.2.2[36]? = some (74, 1, .ireturn, []) from rfl) rfl rfl) hl
/-! 192 FormulaTreesModel.pop()I -/
set_option maxRecDepth 100000 in
theorem zm192 : zP[192]? = some zM192 := rfl
def dm192 (s : aS) : Option (Int32 × aS) :=
  nx (wI s 121 29 ((sI s 121 29) - 1)) fun s1 =>
  if aB (sI s1 121 29) 130 then
    some (sI s1 144 (jN (sI s1 121 29)), s1)
  else none
set_option maxRecDepth 100000 in
theorem dt192 {sio : Bool} {tt : Nat} {cc : Nat → Nat → Int32} {d : Nat} (hd : 0 ≤ d) {s : aS} (hl : Ly tt cc s) {o : Int32 × aS} (h : dm192  s = some o) : Q 2 sio tt cc d 192 0 [some (.ref 121)] [] s (.inl (some (.int o.1)), o.2) := by
  unfold dm192 at h
  refine Q.run zm192 2 (i' := 2) (ls' := [some (.ref 121)]) (st' := [.ref 121, .ref 121]) rfl ?_
  refine Q.map (A.gf (gI_of zm192 (e := (2, 3, .getfield 144, [9, 29])) rfl) (hl.lt (a := 121) (by decide)) (hl.T (a := 121) (p := (9, 45)) 43 rfl rfl) (by decide) rfl) ?_
  refine Q.run zm192 2 (i' := 5) (ls' := [some (.ref 121)]) (st' := [.int ((sI s 121 29) - 1), .ref 121]) rfl ?_
  obtain ⟨s1, hs2, h⟩ := nx_so h
  refine Q.pf hs2 rfl (gI_of zm192 (e := (7, 3, .putfield 144, [9, 29, 0])) rfl) (hl.lt (a := 121) (by decide)) (by decide) (hl.T (a := 121) (p := (9, 45)) 43 rfl rfl) (by decide) rfl rfl ?_
  have hl3 : Ly tt cc s1 := by rw [hs2]; exact hl.wId (by decide)
  refine Q.run zm192 1 (i' := 7) (ls' := [some (.ref 121)]) (st' := [.ref 121]) rfl ?_
  refine Q.map (A.gf (gI_of zm192 (e := (11, 3, .getfield 77, [9, 28])) rfl) (hl3.lt (a := 121) (by decide)) (hl3.T (a := 121) (p := (9, 45)) 43 rfl rfl) (by decide) (hl3.R 45 rfl)) ?_
  refine Q.run zm192 1 (i' := 9) (ls' := [some (.ref 121)]) (st' := [.ref 121, .ref 144]) rfl ?_
  refine Q.map (A.gf (gI_of zm192 (e := (15, 3, .getfield 144, [9, 29])) rfl) (hl3.lt (a := 121) (by decide)) (hl3.T (a := 121) (p := (9, 45)) 43 rfl rfl) (by decide) rfl) ?_
  obtain ⟨hc4, h⟩ := ite_so h
  refine Q.map (A.ia (gI_of zm192 (e := (18, 1, .iaload, [])) rfl) (hl3.lt (a := 144) (by decide)) (hl3.T (a := 144) (p := (100, 130)) 66 rfl rfl) hc4) ?_
  cases h
  exact Q.ret (A.ri zm192 (show zM192.2.2.2.2.2[11]? = some (19, 1, .ireturn, []) from rfl) rfl rfl) hl3
/-! 193 FormulaTreesModel.child(II)V -/
set_option maxRecDepth 100000 in
theorem zm193 : zP[193]? = some zM193 := rfl
def dm193_19 (x1 : Int32) (x2 : Int32) (s : aS) : Option (aS) :=
  if aB x1 128 then
    nx (wI s 141 (jN x1) x2) fun s2 =>
    if aB (1024 + x1) 1152 then
      if aB (1024 + x1) 1152 then
        nx (wI s2 129 (jN (1024 + x1)) ((sI s2 129 (jN (1024 + x1))) + 1)) fun s7 =>
        some s7
      else none
    else none
  else none
set_option maxRecDepth 100000 in
theorem dt193_19 {sio : Bool} {tt : Nat} {cc : Nat → Nat → Int32} {d : Nat} (hd : 0 ≤ d) {x1 : Int32} {x2 : Int32} {s : aS} (hl : Ly tt cc s) {o : aS} (h : dm193_19  x1 x2 s = some o) : Q 2 sio tt cc d 193 19 [some (.ref 121), some (.int x1), some (.int x2)] [] s (.inl none, o) := by
  unfold dm193_19 at h
  refine Q.run zm193 1 (i' := 20) (ls' := [some (.ref 121), some (.int x1), some (.int x2)]) (st' := [.ref 121]) rfl ?_
  refine Q.map (A.gf (gI_of zm193 (e := (32, 3, .getfield 68, [9, 23])) rfl) (hl.lt (a := 121) (by decide)) (hl.T (a := 121) (p := (9, 45)) 43 rfl rfl) (by decide) (hl.R 42 rfl)) ?_
  refine Q.run zm193 2 (i' := 23) (ls' := [some (.ref 121), some (.int x1), some (.int x2)]) (st' := [.int x2, .int x1, .ref 141]) rfl ?_
  obtain ⟨hc1, h⟩ := ite_so h
  obtain ⟨s2, hs3, h⟩ := nx_so h
  refine Q.is hs3 rfl (gI_of zm193 (e := (37, 1, .iastore, [])) rfl) (hl.lt (a := 141) (by decide)) (by decide) (hl.T (a := 141) (p := (100, 128)) 63 rfl rfl) hc1 ?_
  have hl4 : Ly tt cc s2 := by rw [hs3]; exact hl.wId (by decide)
  refine Q.run zm193 1 (i' := 25) (ls' := [some (.ref 121), some (.int x1), some (.int x2)]) (st' := [.ref 121]) rfl ?_
  refine Q.map (A.gf (gI_of zm193 (e := (39, 3, .getfield 32, [9, 10])) rfl) (hl4.lt (a := 121) (by decide)) (hl4.T (a := 121) (p := (9, 45)) 43 rfl rfl) (by decide) (hl4.R 30 rfl)) ?_
  refine Q.run zm193 4 (i' := 30) (ls' := [some (.ref 121), some (.int x1), some (.int x2)]) (st' := [.int (1024 + x1), .ref 129, .int (1024 + x1), .ref 129]) rfl ?_
  obtain ⟨hc5, h⟩ := ite_so h
  refine Q.map (A.ia (gI_of zm193 (e := (48, 1, .iaload, [])) rfl) (hl4.lt (a := 129) (by decide)) (hl4.T (a := 129) (p := (100, 1152)) 51 rfl rfl) hc5) ?_
  refine Q.run zm193 2 (i' := 33) (ls' := [some (.ref 121), some (.int x1), some (.int x2)]) (st' := [.int ((sI s2 129 (jN (1024 + x1))) + 1), .int (1024 + x1), .ref 129]) rfl ?_
  obtain ⟨hc6, h⟩ := ite_so h
  obtain ⟨s7, hs8, h⟩ := nx_so h
  refine Q.is hs8 rfl (gI_of zm193 (e := (51, 1, .iastore, [])) rfl) (hl4.lt (a := 129) (by decide)) (by decide) (hl4.T (a := 129) (p := (100, 1152)) 51 rfl rfl) hc6 ?_
  have hl9 : Ly tt cc s7 := by rw [hs8]; exact hl4.wId (by decide)
  cases h
  exact Q.ret (A.rv zm193 (show zM193.2.2.2.2.2[34]? = some (52, 1, .return_, []) from rfl) rfl) hl9
def dm193 (x1 : Int32) (x2 : Int32) (s : aS) : Option (aS) :=
  if aB x1 128 then
    if 0 ≤ (sI s 140 (jN x1)) then
      if aB x1 128 then
        if aB (sI s 141 (jN x1)) 128 then
          nx (wI s 142 (jN (sI s 141 (jN x1))) x2) fun s5 =>
          dm193_19 x1 x2 s5
        else none
      else none
    else
      if aB x1 128 then
        nx (wI s 140 (jN x1) x2) fun s9 =>
        dm193_19 x1 x2 s9
      else none
  else none
set_option maxRecDepth 100000 in
theorem dt193 {sio : Bool} {tt : Nat} {cc : Nat → Nat → Int32} {d : Nat} (hd : 0 ≤ d) {x1 : Int32} {x2 : Int32} {s : aS} (hl : Ly tt cc s) {o : aS} (h : dm193  x1 x2 s = some o) : Q 2 sio tt cc d 193 0 [some (.ref 121), some (.int x1), some (.int x2)] [] s (.inl none, o) := by
  unfold dm193 at h
  refine Q.run zm193 1 (i' := 1) (ls' := [some (.ref 121), some (.int x1), some (.int x2)]) (st' := [.ref 121]) rfl ?_
  refine Q.map (A.gf (gI_of zm193 (e := (1, 3, .getfield 65, [9, 22])) rfl) (hl.lt (a := 121) (by decide)) (hl.T (a := 121) (p := (9, 45)) 43 rfl rfl) (by decide) (hl.R 41 rfl)) ?_
  refine Q.run zm193 1 (i' := 3) (ls' := [some (.ref 121), some (.int x1), some (.int x2)]) (st' := [.int x1, .ref 140]) rfl ?_
  obtain ⟨hc1, h⟩ := ite_so h
  refine Q.map (A.ia (gI_of zm193 (e := (5, 1, .iaload, [])) rfl) (hl.lt (a := 140) (by decide)) (hl.T (a := 140) (p := (100, 128)) 62 rfl rfl) hc1) ?_
  by_cases hc2 : 0 ≤ (sI s 140 (jN x1))
  · rw [if_pos hc2] at h
    refine Q.map (A.zT (gI_of zm193 (e := (6, 3, .ifCond .ge 13, [11])) rfl) (decide_eq_true hc2)) ?_
    refine Q.run zm193 1 (i' := 12) (ls' := [some (.ref 121), some (.int x1), some (.int x2)]) (st' := [.ref 121]) rfl ?_
    refine Q.map (A.gf (gI_of zm193 (e := (20, 3, .getfield 71, [9, 24])) rfl) (hl.lt (a := 121) (by decide)) (hl.T (a := 121) (p := (9, 45)) 43 rfl rfl) (by decide) (hl.R 43 rfl)) ?_
    refine Q.run zm193 1 (i' := 14) (ls' := [some (.ref 121), some (.int x1), some (.int x2)]) (st' := [.ref 121, .ref 142]) rfl ?_
    refine Q.map (A.gf (gI_of zm193 (e := (24, 3, .getfield 68, [9, 23])) rfl) (hl.lt (a := 121) (by decide)) (hl.T (a := 121) (p := (9, 45)) 43 rfl rfl) (by decide) (hl.R 42 rfl)) ?_
    refine Q.run zm193 1 (i' := 16) (ls' := [some (.ref 121), some (.int x1), some (.int x2)]) (st' := [.int x1, .ref 141, .ref 142]) rfl ?_
    obtain ⟨hc3, h⟩ := ite_so h
    refine Q.map (A.ia (gI_of zm193 (e := (28, 1, .iaload, [])) rfl) (hl.lt (a := 141) (by decide)) (hl.T (a := 141) (p := (100, 128)) 63 rfl rfl) hc3) ?_
    refine Q.run zm193 1 (i' := 18) (ls' := [some (.ref 121), some (.int x1), some (.int x2)]) (st' := [.int x2, .int (sI s 141 (jN x1)), .ref 142]) rfl ?_
    obtain ⟨hc4, h⟩ := ite_so h
    obtain ⟨s5, hs6, h⟩ := nx_so h
    refine Q.is hs6 rfl (gI_of zm193 (e := (30, 1, .iastore, [])) rfl) (hl.lt (a := 142) (by decide)) (by decide) (hl.T (a := 142) (p := (100, 128)) 64 rfl rfl) hc4 ?_
    have hl7 : Ly tt cc s5 := by rw [hs6]; exact hl.wId (by decide)
    exact dt193_19 hd hl7  h
  · rw [if_neg hc2] at h
    refine Q.map (A.zF (gI_of zm193 (e := (6, 3, .ifCond .ge 13, [11])) rfl) (fun q => hc2 (of_decide_eq_true q))) ?_
    refine Q.run zm193 1 (i' := 6) (ls' := [some (.ref 121), some (.int x1), some (.int x2)]) (st' := [.ref 121]) rfl ?_
    refine Q.map (A.gf (gI_of zm193 (e := (10, 3, .getfield 65, [9, 22])) rfl) (hl.lt (a := 121) (by decide)) (hl.T (a := 121) (p := (9, 45)) 43 rfl rfl) (by decide) (hl.R 41 rfl)) ?_
    refine Q.run zm193 2 (i' := 9) (ls' := [some (.ref 121), some (.int x1), some (.int x2)]) (st' := [.int x2, .int x1, .ref 140]) rfl ?_
    obtain ⟨hc8, h⟩ := ite_so h
    obtain ⟨s9, hs10, h⟩ := nx_so h
    refine Q.is hs10 rfl (gI_of zm193 (e := (15, 1, .iastore, [])) rfl) (hl.lt (a := 140) (by decide)) (by decide) (hl.T (a := 140) (p := (100, 128)) 62 rfl rfl) hc8 ?_
    have hl11 : Ly tt cc s9 := by rw [hs10]; exact hl.wId (by decide)
    refine Q.run zm193 1 (i' := 19) (ls' := [some (.ref 121), some (.int x1), some (.int x2)]) (st' := []) rfl ?_
    exact dt193_19 hd hl11  h
/-! 194 FormulaTreesModel.push(I)V -/
set_option maxRecDepth 100000 in
theorem zm194 : zP[194]? = some zM194 := rfl
def dm194 (x1 : Int32) (s : aS) : Option (aS) :=
  if aB (sI s 121 29) 130 then
    nx (wI s 144 (jN (sI s 121 29)) x1) fun s2 =>
    nx (wI s2 121 29 ((sI s2 121 29) + 1)) fun s5 =>
    some s5
  else none
set_option maxRecDepth 100000 in
theorem dt194 {sio : Bool} {tt : Nat} {cc : Nat → Nat → Int32} {d : Nat} (hd : 0 ≤ d) {x1 : Int32} {s : aS} (hl : Ly tt cc s) {o : aS} (h : dm194  x1 s = some o) : Q 2 sio tt cc d 194 0 [some (.ref 121), some (.int x1)] [] s (.inl none, o) := by
  unfold dm194 at h
  refine Q.run zm194 1 (i' := 1) (ls' := [some (.ref 121), some (.int x1)]) (st' := [.ref 121]) rfl ?_
  refine Q.map (A.gf (gI_of zm194 (e := (1, 3, .getfield 77, [9, 28])) rfl) (hl.lt (a := 121) (by decide)) (hl.T (a := 121) (p := (9, 45)) 43 rfl rfl) (by decide) (hl.R 45 rfl)) ?_
  refine Q.run zm194 1 (i' := 3) (ls' := [some (.ref 121), some (.int x1)]) (st' := [.ref 121, .ref 144]) rfl ?_
  refine Q.map (A.gf (gI_of zm194 (e := (5, 3, .getfield 144, [9, 29])) rfl) (hl.lt (a := 121) (by decide)) (hl.T (a := 121) (p := (9, 45)) 43 rfl rfl) (by decide) rfl) ?_
  refine Q.run zm194 1 (i' := 5) (ls' := [some (.ref 121), some (.int x1)]) (st' := [.int x1, .int (sI s 121 29), .ref 144]) rfl ?_
  obtain ⟨hc1, h⟩ := ite_so h
  obtain ⟨s2, hs3, h⟩ := nx_so h
  refine Q.is hs3 rfl (gI_of zm194 (e := (9, 1, .iastore, [])) rfl) (hl.lt (a := 144) (by decide)) (by decide) (hl.T (a := 144) (p := (100, 130)) 66 rfl rfl) hc1 ?_
  have hl4 : Ly tt cc s2 := by rw [hs3]; exact hl.wId (by decide)
  refine Q.run zm194 2 (i' := 8) (ls' := [some (.ref 121), some (.int x1)]) (st' := [.ref 121, .ref 121]) rfl ?_
  refine Q.map (A.gf (gI_of zm194 (e := (12, 3, .getfield 144, [9, 29])) rfl) (hl4.lt (a := 121) (by decide)) (hl4.T (a := 121) (p := (9, 45)) 43 rfl rfl) (by decide) rfl) ?_
  refine Q.run zm194 2 (i' := 11) (ls' := [some (.ref 121), some (.int x1)]) (st' := [.int ((sI s2 121 29) + 1), .ref 121]) rfl ?_
  obtain ⟨s5, hs6, h⟩ := nx_so h
  refine Q.pf hs6 rfl (gI_of zm194 (e := (17, 3, .putfield 144, [9, 29, 0])) rfl) (hl4.lt (a := 121) (by decide)) (by decide) (hl4.T (a := 121) (p := (9, 45)) 43 rfl rfl) (by decide) rfl rfl ?_
  have hl7 : Ly tt cc s5 := by rw [hs6]; exact hl4.wId (by decide)
  cases h
  exact Q.ret (A.rv zm194 (show zM194.2.2.2.2.2[12]? = some (20, 1, .return_, []) from rfl) rfl) hl7
/-! 190 FormulaTreesModel.reduce(I)V -/
set_option maxRecDepth 100000 in
theorem zm190 : zP[190]? = some zM190 := rfl
def dm190_58 (k0 : Int32 → aS → Option (aS)) (x1 : Int32) (x2 : Int32) (x3 : Int32) (s : aS) : Option (aS) :=
  bu (dm193 x2 x3 s) fun s3 =>
  bu (dm194 x2 s3) fun s6 =>
  k0 x1 s6
set_option maxRecDepth 100000 in
theorem dt190_58 {sio : Bool} {tt : Nat} {cc : Nat → Nat → Int32} {d : Nat} (hd : 1 ≤ d) {k0 : Int32 → aS → Option (aS)} (hk0 : ∀ {x1 : Int32} {g2 : Option Value} {g3 : Option Value} {s : aS}, Ly tt cc s → ∀ {o : aS}, k0 x1 s = some o → Q 2 sio tt cc d 190 0 [some (.ref 121), some (.int x1), g2, g3] [] s (.inl none, o)) {x1 : Int32} {x2 : Int32} {x3 : Int32} {s : aS} (hl : Ly tt cc s) {o : aS} (h : dm190_58 k0 x1 x2 x3 s = some o) : Q 2 sio tt cc d 190 58 [some (.ref 121), some (.int x1), some (.int x2), some (.int x3)] [] s (.inl none, o) := by
  unfold dm190_58 at h
  obtain ⟨d, rfl⟩ : ∃ e, d = e + 1 := ⟨d - 1, by omega⟩
  refine Q.run zm190 3 (i' := 61) (ls' := [some (.ref 121), some (.int x1), some (.int x2), some (.int x3)]) (st' := [.int x3, .int x2, .ref 121]) rfl ?_
  obtain ⟨s3, hc2, h⟩ := bu_so h
  have hq1 : Q 2 sio tt cc d 193 0 [some (.ref 121), some (.int x2), some (.int x3)] [] s (.inl none, s3) := dt193 (by omega) hl  hc2
  refine Q.callV (gC_vi zm190 (show zM190.2.2.2.2.2[61]? = some (108, 3, .invokevirtual 157, [0, 193, 2, 9]) from rfl) zm193 (hl.lt (a := 121) (by decide)) (hl.T (a := 121) (p := (9, 45)) 43 rfl rfl) rfl (show aCr 2 121 [.int x3, .int x2, .ref 121] 3 = some ([some (.ref 121), some (.int x2), some (.int x3)], []) from rfl)) hq1 ?_
  refine Q.run zm190 2 (i' := 64) (ls' := [some (.ref 121), some (.int x1), some (.int x2), some (.int x3)]) (st' := [.int x2, .ref 121]) rfl ?_
  obtain ⟨s6, hc5, h⟩ := bu_so h
  have hq4 : Q 2 sio tt cc d 194 0 [some (.ref 121), some (.int x2)] [] s3 (.inl none, s6) := dt194 (by omega) hq1.1  hc5
  refine Q.callV (gC_vi zm190 (show zM190.2.2.2.2.2[64]? = some (113, 3, .invokevirtual 161, [0, 194, 1, 9]) from rfl) zm194 (hq1.1.lt (a := 121) (by decide)) (hq1.1.T (a := 121) (p := (9, 45)) 43 rfl rfl) rfl (show aCr 1 121 [.int x2, .ref 121] 2 = some ([some (.ref 121), some (.int x2)], []) from rfl)) hq4 ?_
  refine Q.run zm190 1 (i' := 0) (ls' := [some (.ref 121), some (.int x1), some (.int x2), some (.int x3)]) (st' := []) rfl ?_
  exact hk0 hq4.1  h
def dm190_0 : Nat → Int32 → aS → Option (aS)
  | 0, _, _ => none
  | n + 1, x1, s =>
    if (sI s 121 32) ≤ 0 then
      some s
    else
      if aB ((sI s 121 32) - 1) 300 then
        if (sI s 145 (jN ((sI s 121 32) - 1))) = 100 then
          some s
        else
          if aB ((sI s 121 32) - 1) 300 then
            if (sI s 145 (jN ((sI s 121 32) - 1))) = 7 then
              some s
            else
              if aB ((sI s 121 32) - 1) 300 then
                bu (dm191 (sI s 145 (jN ((sI s 121 32) - 1)))) fun r9 =>
                if r9 < x1 then
                  some s
                else
                  nx (wI s 121 32 ((sI s 121 32) - 1)) fun s11 =>
                  if aB (sI s11 121 32) 300 then
                    bv (dm192 s11) fun r18 s17 =>
                    if aB (sI s17 121 32) 300 then
                      if (sI s17 145 (jN (sI s17 121 32))) = 10 then
                        dm190_58 (dm190_0 n) x1 (sI s11 146 (jN (sI s11 121 32))) r18 s17
                      else
                        bv (dm192 s17) fun r24 s23 =>
                        bu (dm193 (sI s11 146 (jN (sI s11 121 32))) r24 s23) fun s27 =>
                        dm190_58 (dm190_0 n) x1 (sI s11 146 (jN (sI s11 121 32))) r18 s27
                    else none
                  else none
              else none
          else none
      else none
set_option maxRecDepth 100000 in
theorem dt190_0 {sio : Bool} {tt : Nat} {cc : Nat → Nat → Int32} {d : Nat} (hd : 1 ≤ d) : ∀ (n : Nat) {x1 : Int32} {g2 : Option Value} {g3 : Option Value} {s : aS} (_ : Ly tt cc s) {o : aS} (_ : dm190_0  n x1 s = some o), Q 2 sio tt cc d 190 0 [some (.ref 121), some (.int x1), g2, g3] [] s (.inl none, o) := by
  obtain ⟨d, rfl⟩ : ∃ e, d = e + 1 := ⟨d - 1, by omega⟩
  intro n
  induction n with
  | zero => intro x1 g2 g3 s hl o h; rw [dm190_0] at h; cases h
  | succ n ih =>
    intro x1 g2 g3 s hl o h
    rw [dm190_0] at h
    refine Q.run zm190 1 (i' := 1) (ls' := [some (.ref 121), some (.int x1), g2, g3]) (st' := [.ref 121]) rfl ?_
    refine Q.map (A.gf (gI_of zm190 (e := (1, 3, .getfield 147, [9, 32])) rfl) (hl.lt (a := 121) (by decide)) (hl.T (a := 121) (p := (9, 45)) 43 rfl rfl) (by decide) rfl) ?_
    by_cases hc1 : (sI s 121 32) ≤ 0
    · rw [if_pos hc1] at h
      refine Q.map (A.zT (gI_of zm190 (e := (4, 3, .ifCond .le 115, [66])) rfl) (decide_eq_true hc1)) ?_
      cases h
      exact Q.ret (A.rv zm190 (show zM190.2.2.2.2.2[66]? = some (119, 1, .return_, []) from rfl) rfl) hl
    · rw [if_neg hc1] at h
      refine Q.map (A.zF (gI_of zm190 (e := (4, 3, .ifCond .le 115, [66])) rfl) (fun q => hc1 (of_decide_eq_true q))) ?_
      refine Q.run zm190 1 (i' := 4) (ls' := [some (.ref 121), some (.int x1), g2, g3]) (st' := [.ref 121]) rfl ?_
      refine Q.map (A.gf (gI_of zm190 (e := (8, 3, .getfield 80, [9, 30])) rfl) (hl.lt (a := 121) (by decide)) (hl.T (a := 121) (p := (9, 45)) 43 rfl rfl) (by decide) (hl.R 46 rfl)) ?_
      refine Q.run zm190 1 (i' := 6) (ls' := [some (.ref 121), some (.int x1), g2, g3]) (st' := [.ref 121, .ref 145]) rfl ?_
      refine Q.map (A.gf (gI_of zm190 (e := (12, 3, .getfield 147, [9, 32])) rfl) (hl.lt (a := 121) (by decide)) (hl.T (a := 121) (p := (9, 45)) 43 rfl rfl) (by decide) rfl) ?_
      refine Q.run zm190 2 (i' := 9) (ls' := [some (.ref 121), some (.int x1), g2, g3]) (st' := [.int ((sI s 121 32) - 1), .ref 145]) rfl ?_
      obtain ⟨hc2, h⟩ := ite_so h
      refine Q.map (A.ia (gI_of zm190 (e := (17, 1, .iaload, [])) rfl) (hl.lt (a := 145) (by decide)) (hl.T (a := 145) (p := (100, 300)) 67 rfl rfl) hc2) ?_
      refine Q.run zm190 1 (i' := 11) (ls' := [some (.ref 121), some (.int x1), g2, g3]) (st' := [.int 100, .int (sI s 145 (jN ((sI s 121 32) - 1)))]) rfl ?_
      by_cases hc3 : (sI s 145 (jN ((sI s 121 32) - 1))) = 100
      · rw [if_pos hc3] at h
        refine Q.map (A.bT (gI_of zm190 (e := (20, 3, .if_icmp .eq 99, [66])) rfl) (decide_eq_true hc3)) ?_
        cases h
        exact Q.ret (A.rv zm190 (show zM190.2.2.2.2.2[66]? = some (119, 1, .return_, []) from rfl) rfl) hl
      · rw [if_neg hc3] at h
        refine Q.map (A.bF (gI_of zm190 (e := (20, 3, .if_icmp .eq 99, [66])) rfl) (fun q => hc3 (of_decide_eq_true q))) ?_
        refine Q.run zm190 1 (i' := 13) (ls' := [some (.ref 121), some (.int x1), g2, g3]) (st' := [.ref 121]) rfl ?_
        refine Q.map (A.gf (gI_of zm190 (e := (24, 3, .getfield 80, [9, 30])) rfl) (hl.lt (a := 121) (by decide)) (hl.T (a := 121) (p := (9, 45)) 43 rfl rfl) (by decide) (hl.R 46 rfl)) ?_
        refine Q.run zm190 1 (i' := 15) (ls' := [some (.ref 121), some (.int x1), g2, g3]) (st' := [.ref 121, .ref 145]) rfl ?_
        refine Q.map (A.gf (gI_of zm190 (e := (28, 3, .getfield 147, [9, 32])) rfl) (hl.lt (a := 121) (by decide)) (hl.T (a := 121) (p := (9, 45)) 43 rfl rfl) (by decide) rfl) ?_
        refine Q.run zm190 2 (i' := 18) (ls' := [some (.ref 121), some (.int x1), g2, g3]) (st' := [.int ((sI s 121 32) - 1), .ref 145]) rfl ?_
        obtain ⟨hc4, h⟩ := ite_so h
        refine Q.map (A.ia (gI_of zm190 (e := (33, 1, .iaload, [])) rfl) (hl.lt (a := 145) (by decide)) (hl.T (a := 145) (p := (100, 300)) 67 rfl rfl) hc4) ?_
        refine Q.run zm190 1 (i' := 20) (ls' := [some (.ref 121), some (.int x1), g2, g3]) (st' := [.int 7, .int (sI s 145 (jN ((sI s 121 32) - 1)))]) rfl ?_
        by_cases hc5 : (sI s 145 (jN ((sI s 121 32) - 1))) = 7
        · rw [if_pos hc5] at h
          refine Q.map (A.bT (gI_of zm190 (e := (36, 3, .if_icmp .eq 83, [66])) rfl) (decide_eq_true hc5)) ?_
          cases h
          exact Q.ret (A.rv zm190 (show zM190.2.2.2.2.2[66]? = some (119, 1, .return_, []) from rfl) rfl) hl
        · rw [if_neg hc5] at h
          refine Q.map (A.bF (gI_of zm190 (e := (36, 3, .if_icmp .eq 83, [66])) rfl) (fun q => hc5 (of_decide_eq_true q))) ?_
          refine Q.run zm190 1 (i' := 22) (ls' := [some (.ref 121), some (.int x1), g2, g3]) (st' := [.ref 121]) rfl ?_
          refine Q.map (A.gf (gI_of zm190 (e := (40, 3, .getfield 80, [9, 30])) rfl) (hl.lt (a := 121) (by decide)) (hl.T (a := 121) (p := (9, 45)) 43 rfl rfl) (by decide) (hl.R 46 rfl)) ?_
          refine Q.run zm190 1 (i' := 24) (ls' := [some (.ref 121), some (.int x1), g2, g3]) (st' := [.ref 121, .ref 145]) rfl ?_
          refine Q.map (A.gf (gI_of zm190 (e := (44, 3, .getfield 147, [9, 32])) rfl) (hl.lt (a := 121) (by decide)) (hl.T (a := 121) (p := (9, 45)) 43 rfl rfl) (by decide) rfl) ?_
          refine Q.run zm190 2 (i' := 27) (ls' := [some (.ref 121), some (.int x1), g2, g3]) (st' := [.int ((sI s 121 32) - 1), .ref 145]) rfl ?_
          obtain ⟨hc6, h⟩ := ite_so h
          refine Q.map (A.ia (gI_of zm190 (e := (49, 1, .iaload, [])) rfl) (hl.lt (a := 145) (by decide)) (hl.T (a := 145) (p := (100, 300)) 67 rfl rfl) hc6) ?_
          obtain ⟨r9, hc8, h⟩ := bu_so h
          have hq7 : Q 2 sio tt cc d 191 0 [some (.int (sI s 145 (jN ((sI s 121 32) - 1))))] [] s (.inl (some (.int r9)), s) := dt191 (by omega) hl  hc8
          refine Q.callI (gC_st zm190 (show zM190.2.2.2.2.2[28]? = some (50, 3, .invokestatic 150, [0, 191, 1]) from rfl) zm191 (show aC 1 [.int (sI s 145 (jN ((sI s 121 32) - 1)))] 1 = some ([some (.int (sI s 145 (jN ((sI s 121 32) - 1))))], []) from rfl)) hq7 ?_
          refine Q.run zm190 1 (i' := 30) (ls' := [some (.ref 121), some (.int x1), g2, g3]) (st' := [.int x1, .int r9]) rfl ?_
          by_cases hc10 : r9 < x1
          · rw [if_pos hc10] at h
            refine Q.map (A.bT (gI_of zm190 (e := (54, 3, .if_icmp .lt 65, [66])) rfl) (decide_eq_true hc10)) ?_
            cases h
            exact Q.ret (A.rv zm190 (show zM190.2.2.2.2.2[66]? = some (119, 1, .return_, []) from rfl) rfl) hl
          · rw [if_neg hc10] at h
            refine Q.map (A.bF (gI_of zm190 (e := (54, 3, .if_icmp .lt 65, [66])) rfl) (fun q => hc10 (of_decide_eq_true q))) ?_
            refine Q.run zm190 2 (i' := 33) (ls' := [some (.ref 121), some (.int x1), g2, g3]) (st' := [.ref 121, .ref 121]) rfl ?_
            refine Q.map (A.gf (gI_of zm190 (e := (59, 3, .getfield 147, [9, 32])) rfl) (hl.lt (a := 121) (by decide)) (hl.T (a := 121) (p := (9, 45)) 43 rfl rfl) (by decide) rfl) ?_
            refine Q.run zm190 2 (i' := 36) (ls' := [some (.ref 121), some (.int x1), g2, g3]) (st' := [.int ((sI s 121 32) - 1), .ref 121]) rfl ?_
            obtain ⟨s11, hs12, h⟩ := nx_so h
            refine Q.pf hs12 rfl (gI_of zm190 (e := (64, 3, .putfield 147, [9, 32, 0])) rfl) (hl.lt (a := 121) (by decide)) (by decide) (hl.T (a := 121) (p := (9, 45)) 43 rfl rfl) (by decide) rfl rfl ?_
            have hl13 : Ly tt cc s11 := by rw [hs12]; exact hl.wId (by decide)
            refine Q.run zm190 1 (i' := 38) (ls' := [some (.ref 121), some (.int x1), g2, g3]) (st' := [.ref 121]) rfl ?_
            refine Q.map (A.gf (gI_of zm190 (e := (68, 3, .getfield 83, [9, 31])) rfl) (hl13.lt (a := 121) (by decide)) (hl13.T (a := 121) (p := (9, 45)) 43 rfl rfl) (by decide) (hl13.R 47 rfl)) ?_
            refine Q.run zm190 1 (i' := 40) (ls' := [some (.ref 121), some (.int x1), g2, g3]) (st' := [.ref 121, .ref 146]) rfl ?_
            refine Q.map (A.gf (gI_of zm190 (e := (72, 3, .getfield 147, [9, 32])) rfl) (hl13.lt (a := 121) (by decide)) (hl13.T (a := 121) (p := (9, 45)) 43 rfl rfl) (by decide) rfl) ?_
            obtain ⟨hc14, h⟩ := ite_so h
            refine Q.map (A.ia (gI_of zm190 (e := (75, 1, .iaload, [])) rfl) (hl13.lt (a := 146) (by decide)) (hl13.T (a := 146) (p := (100, 300)) 68 rfl rfl) hc14) ?_
            refine Q.run zm190 2 (i' := 44) (ls' := [some (.ref 121), some (.int x1), some (.int (sI s11 146 (jN (sI s11 121 32)))), g3]) (st' := [.ref 121]) rfl ?_
            obtain ⟨r18, s17, hc16, h⟩ := bv_so h
            have hq15 : Q 2 sio tt cc d 192 0 [some (.ref 121)] [] s11 (.inl (some (.int r18)), s17) := dt192 (by omega) hl13  hc16
            refine Q.callI (gC_vi zm190 (show zM190.2.2.2.2.2[44]? = some (78, 3, .invokevirtual 153, [0, 192, 0, 9]) from rfl) zm192 (hl13.lt (a := 121) (by decide)) (hl13.T (a := 121) (p := (9, 45)) 43 rfl rfl) rfl (show aCr 0 121 [.ref 121] 1 = some ([some (.ref 121)], []) from rfl)) hq15 ?_
            refine Q.run zm190 2 (i' := 47) (ls' := [some (.ref 121), some (.int x1), some (.int (sI s11 146 (jN (sI s11 121 32)))), some (.int r18)]) (st' := [.ref 121]) rfl ?_
            refine Q.map (A.gf (gI_of zm190 (e := (83, 3, .getfield 80, [9, 30])) rfl) (hq15.1.lt (a := 121) (by decide)) (hq15.1.T (a := 121) (p := (9, 45)) 43 rfl rfl) (by decide) (hq15.1.R 46 rfl)) ?_
            refine Q.run zm190 1 (i' := 49) (ls' := [some (.ref 121), some (.int x1), some (.int (sI s11 146 (jN (sI s11 121 32)))), some (.int r18)]) (st' := [.ref 121, .ref 145]) rfl ?_
            refine Q.map (A.gf (gI_of zm190 (e := (87, 3, .getfield 147, [9, 32])) rfl) (hq15.1.lt (a := 121) (by decide)) (hq15.1.T (a := 121) (p := (9, 45)) 43 rfl rfl) (by decide) rfl) ?_
            obtain ⟨hc19, h⟩ := ite_so h
            refine Q.map (A.ia (gI_of zm190 (e := (90, 1, .iaload, [])) rfl) (hq15.1.lt (a := 145) (by decide)) (hq15.1.T (a := 145) (p := (100, 300)) 67 rfl rfl) hc19) ?_
            refine Q.run zm190 1 (i' := 52) (ls' := [some (.ref 121), some (.int x1), some (.int (sI s11 146 (jN (sI s11 121 32)))), some (.int r18)]) (st' := [.int 10, .int (sI s17 145 (jN (sI s17 121 32)))]) rfl ?_
            by_cases hc20 : (sI s17 145 (jN (sI s17 121 32))) = 10
            · rw [if_pos hc20] at h
              refine Q.map (A.bT (gI_of zm190 (e := (93, 3, .if_icmp .eq 12, [58])) rfl) (decide_eq_true hc20)) ?_
              exact dt190_58 hd ih hq15.1  h
            · rw [if_neg hc20] at h
              refine Q.map (A.bF (gI_of zm190 (e := (93, 3, .if_icmp .eq 12, [58])) rfl) (fun q => hc20 (of_decide_eq_true q))) ?_
              refine Q.run zm190 3 (i' := 56) (ls' := [some (.ref 121), some (.int x1), some (.int (sI s11 146 (jN (sI s11 121 32)))), some (.int r18)]) (st' := [.ref 121, .int (sI s11 146 (jN (sI s11 121 32))), .ref 121]) rfl ?_
              obtain ⟨r24, s23, hc22, h⟩ := bv_so h
              have hq21 : Q 2 sio tt cc d 192 0 [some (.ref 121)] [] s17 (.inl (some (.int r24)), s23) := dt192 (by omega) hq15.1  hc22
              refine Q.callI (gC_vi zm190 (show zM190.2.2.2.2.2[56]? = some (99, 3, .invokevirtual 153, [0, 192, 0, 9]) from rfl) zm192 (hq15.1.lt (a := 121) (by decide)) (hq15.1.T (a := 121) (p := (9, 45)) 43 rfl rfl) rfl (show aCr 0 121 [.ref 121, .int (sI s11 146 (jN (sI s11 121 32))), .ref 121] 1 = some ([some (.ref 121)], [.int (sI s11 146 (jN (sI s11 121 32))), .ref 121]) from rfl)) hq21 ?_
              obtain ⟨s27, hc26, h⟩ := bu_so h
              have hq25 : Q 2 sio tt cc d 193 0 [some (.ref 121), some (.int (sI s11 146 (jN (sI s11 121 32)))), some (.int r24)] [] s23 (.inl none, s27) := dt193 (by omega) hq21.1  hc26
              refine Q.callV (gC_vi zm190 (show zM190.2.2.2.2.2[57]? = some (102, 3, .invokevirtual 157, [0, 193, 2, 9]) from rfl) zm193 (hq21.1.lt (a := 121) (by decide)) (hq21.1.T (a := 121) (p := (9, 45)) 43 rfl rfl) rfl (show aCr 2 121 [.int r24, .int (sI s11 146 (jN (sI s11 121 32))), .ref 121] 3 = some ([some (.ref 121), some (.int (sI s11 146 (jN (sI s11 121 32)))), some (.int r24)], []) from rfl)) hq25 ?_
              exact dt190_58 hd ih hq25.1  h
def dm190 (x1 : Int32) (s : aS) : Option (aS) :=
  dm190_0 5000 x1 s
set_option maxRecDepth 100000 in
theorem dt190 {sio : Bool} {tt : Nat} {cc : Nat → Nat → Int32} {d : Nat} (hd : 1 ≤ d) {x1 : Int32} {s : aS} (hl : Ly tt cc s) {o : aS} (h : dm190  x1 s = some o) : Q 2 sio tt cc d 190 0 [some (.ref 121), some (.int x1), none, none] [] s (.inl none, o) := by
  unfold dm190 at h
  obtain ⟨d, rfl⟩ : ∃ e, d = e + 1 := ⟨d - 1, by omega⟩
  exact dt190_0 hd _ hl  h
/-! 189 FormulaTreesModel.close()V -/
set_option maxRecDepth 100000 in
theorem zm189 : zP[189]? = some zM189 := rfl
def dm189_39 (s : aS) : Option (aS) :=
  nx (wI s 121 36 0) fun s1 =>
  nx (wI s1 121 35 0) fun s4 =>
  nx (wI s4 121 26 ((sI s4 121 26) + 1)) fun s7 =>
  some s7
set_option maxRecDepth 100000 in
theorem dt189_39 {sio : Bool} {tt : Nat} {cc : Nat → Nat → Int32} {d : Nat} (hd : 2 ≤ d) {g1 : Option Value} {s : aS} (hl : Ly tt cc s) {o : aS} (h : dm189_39  s = some o) : Q 2 sio tt cc d 189 39 [some (.ref 121), g1] [] s (.inl none, o) := by
  unfold dm189_39 at h
  obtain ⟨d, rfl⟩ : ∃ e, d = e + 1 := ⟨d - 1, by omega⟩
  refine Q.run zm189 2 (i' := 41) (ls' := [some (.ref 121), g1]) (st' := [.int 0, .ref 121]) rfl ?_
  obtain ⟨s1, hs2, h⟩ := nx_so h
  refine Q.pf hs2 rfl (gI_of zm189 (e := (72, 3, .putfield 246, [9, 36, 1])) rfl) (hl.lt (a := 121) (by decide)) (by decide) (hl.T (a := 121) (p := (9, 45)) 43 rfl rfl) (by decide) rfl rfl ?_
  have hl3 : Ly tt cc s1 := by rw [hs2]; exact hl.wId (by decide)
  refine Q.run zm189 2 (i' := 44) (ls' := [some (.ref 121), g1]) (st' := [.int 0, .ref 121]) rfl ?_
  obtain ⟨s4, hs5, h⟩ := nx_so h
  refine Q.pf hs5 rfl (gI_of zm189 (e := (77, 3, .putfield 243, [9, 35, 0])) rfl) (hl3.lt (a := 121) (by decide)) (by decide) (hl3.T (a := 121) (p := (9, 45)) 43 rfl rfl) (by decide) rfl rfl ?_
  have hl6 : Ly tt cc s4 := by rw [hs5]; exact hl3.wId (by decide)
  refine Q.run zm189 2 (i' := 47) (ls' := [some (.ref 121), g1]) (st' := [.ref 121, .ref 121]) rfl ?_
  refine Q.map (A.gf (gI_of zm189 (e := (82, 3, .getfield 138, [9, 26])) rfl) (hl6.lt (a := 121) (by decide)) (hl6.T (a := 121) (p := (9, 45)) 43 rfl rfl) (by decide) rfl) ?_
  refine Q.run zm189 2 (i' := 50) (ls' := [some (.ref 121), g1]) (st' := [.int ((sI s4 121 26) + 1), .ref 121]) rfl ?_
  obtain ⟨s7, hs8, h⟩ := nx_so h
  refine Q.pf hs8 rfl (gI_of zm189 (e := (87, 3, .putfield 138, [9, 26, 0])) rfl) (hl6.lt (a := 121) (by decide)) (by decide) (hl6.T (a := 121) (p := (9, 45)) 43 rfl rfl) (by decide) rfl rfl ?_
  have hl9 : Ly tt cc s7 := by rw [hs8]; exact hl6.wId (by decide)
  cases h
  exact Q.ret (A.rv zm189 (show zM189.2.2.2.2.2[51]? = some (90, 1, .return_, []) from rfl) rfl) hl9
def dm189_36 (x1 : Int32) (s : aS) : Option (aS) :=
  bu (dm194 x1 s) fun s3 =>
  dm189_39 s3
set_option maxRecDepth 100000 in
theorem dt189_36 {sio : Bool} {tt : Nat} {cc : Nat → Nat → Int32} {d : Nat} (hd : 2 ≤ d) {x1 : Int32} {s : aS} (hl : Ly tt cc s) {o : aS} (h : dm189_36  x1 s = some o) : Q 2 sio tt cc d 189 36 [some (.ref 121), some (.int x1)] [] s (.inl none, o) := by
  unfold dm189_36 at h
  obtain ⟨d, rfl⟩ : ∃ e, d = e + 1 := ⟨d - 1, by omega⟩
  refine Q.run zm189 2 (i' := 38) (ls' := [some (.ref 121), some (.int x1)]) (st' := [.int x1, .ref 121]) rfl ?_
  obtain ⟨s3, hc2, h⟩ := bu_so h
  have hq1 : Q 2 sio tt cc d 194 0 [some (.ref 121), some (.int x1)] [] s (.inl none, s3) := dt194 (by omega) hl  hc2
  refine Q.callV (gC_vi zm189 (show zM189.2.2.2.2.2[38]? = some (67, 3, .invokevirtual 161, [0, 194, 1, 9]) from rfl) zm194 (hl.lt (a := 121) (by decide)) (hl.T (a := 121) (p := (9, 45)) 43 rfl rfl) rfl (show aCr 1 121 [.int x1, .ref 121] 2 = some ([some (.ref 121), some (.int x1)], []) from rfl)) hq1 ?_
  exact dt189_39 hd hq1.1  h
def dm189 (s : aS) : Option (aS) :=
  bu (dm190 0 s) fun s3 =>
  nx (wI s3 121 32 ((sI s3 121 32) - 1)) fun s4 =>
  nx (wI s4 121 33 ((sI s4 121 33) - 1)) fun s7 =>
  if aB (sI s7 121 32) 300 then
    if (sI s7 145 (jN (sI s7 121 32))) = 7 then
      if aB (sI s7 121 32) 300 then
        if (sI s7 121 36) = 0 then
          bv (dm192 s7) fun r17 s16 =>
          bu (dm193 (sI s7 146 (jN (sI s7 121 32))) r17 s16) fun s20 =>
          dm189_36 (sI s7 146 (jN (sI s7 121 32))) s20
        else
          dm189_36 (sI s7 146 (jN (sI s7 121 32))) s7
      else none
    else
      dm189_39 s7
  else none
set_option maxRecDepth 100000 in
theorem dt189 {sio : Bool} {tt : Nat} {cc : Nat → Nat → Int32} {d : Nat} (hd : 2 ≤ d) {s : aS} (hl : Ly tt cc s) {o : aS} (h : dm189  s = some o) : Q 2 sio tt cc d 189 0 [some (.ref 121), none] [] s (.inl none, o) := by
  unfold dm189 at h
  obtain ⟨d, rfl⟩ : ∃ e, d = e + 1 := ⟨d - 1, by omega⟩
  refine Q.run zm189 2 (i' := 2) (ls' := [some (.ref 121), none]) (st' := [.int 0, .ref 121]) rfl ?_
  obtain ⟨s3, hc2, h⟩ := bu_so h
  have hq1 : Q 2 sio tt cc d 190 0 [some (.ref 121), some (.int 0), none, none] [] s (.inl none, s3) := dt190 (by omega) hl  hc2
  refine Q.callV (gC_vi zm189 (show zM189.2.2.2.2.2[2]? = some (2, 3, .invokevirtual 282, [0, 190, 1, 9]) from rfl) zm190 (hl.lt (a := 121) (by decide)) (hl.T (a := 121) (p := (9, 45)) 43 rfl rfl) rfl (show aCr 1 121 [.int 0, .ref 121] 4 = some ([some (.ref 121), some (.int 0), none, none], []) from rfl)) hq1 ?_
  refine Q.run zm189 2 (i' := 5) (ls' := [some (.ref 121), none]) (st' := [.ref 121, .ref 121]) rfl ?_
  refine Q.map (A.gf (gI_of zm189 (e := (7, 3, .getfield 147, [9, 32])) rfl) (hq1.1.lt (a := 121) (by decide)) (hq1.1.T (a := 121) (p := (9, 45)) 43 rfl rfl) (by decide) rfl) ?_
  refine Q.run zm189 2 (i' := 8) (ls' := [some (.ref 121), none]) (st' := [.int ((sI s3 121 32) - 1), .ref 121]) rfl ?_
  obtain ⟨s4, hs5, h⟩ := nx_so h
  refine Q.pf hs5 rfl (gI_of zm189 (e := (12, 3, .putfield 147, [9, 32, 0])) rfl) (hq1.1.lt (a := 121) (by decide)) (by decide) (hq1.1.T (a := 121) (p := (9, 45)) 43 rfl rfl) (by decide) rfl rfl ?_
  have hl6 : Ly tt cc s4 := by rw [hs5]; exact hq1.1.wId (by decide)
  refine Q.run zm189 2 (i' := 11) (ls' := [some (.ref 121), none]) (st' := [.ref 121, .ref 121]) rfl ?_
  refine Q.map (A.gf (gI_of zm189 (e := (17, 3, .getfield 237, [9, 33])) rfl) (hl6.lt (a := 121) (by decide)) (hl6.T (a := 121) (p := (9, 45)) 43 rfl rfl) (by decide) rfl) ?_
  refine Q.run zm189 2 (i' := 14) (ls' := [some (.ref 121), none]) (st' := [.int ((sI s4 121 33) - 1), .ref 121]) rfl ?_
  obtain ⟨s7, hs8, h⟩ := nx_so h
  refine Q.pf hs8 rfl (gI_of zm189 (e := (22, 3, .putfield 237, [9, 33, 0])) rfl) (hl6.lt (a := 121) (by decide)) (by decide) (hl6.T (a := 121) (p := (9, 45)) 43 rfl rfl) (by decide) rfl rfl ?_
  have hl9 : Ly tt cc s7 := by rw [hs8]; exact hl6.wId (by decide)
  refine Q.run zm189 1 (i' := 16) (ls' := [some (.ref 121), none]) (st' := [.ref 121]) rfl ?_
  refine Q.map (A.gf (gI_of zm189 (e := (26, 3, .getfield 80, [9, 30])) rfl) (hl9.lt (a := 121) (by decide)) (hl9.T (a := 121) (p := (9, 45)) 43 rfl rfl) (by decide) (hl9.R 46 rfl)) ?_
  refine Q.run zm189 1 (i' := 18) (ls' := [some (.ref 121), none]) (st' := [.ref 121, .ref 145]) rfl ?_
  refine Q.map (A.gf (gI_of zm189 (e := (30, 3, .getfield 147, [9, 32])) rfl) (hl9.lt (a := 121) (by decide)) (hl9.T (a := 121) (p := (9, 45)) 43 rfl rfl) (by decide) rfl) ?_
  obtain ⟨hc10, h⟩ := ite_so h
  refine Q.map (A.ia (gI_of zm189 (e := (33, 1, .iaload, [])) rfl) (hl9.lt (a := 145) (by decide)) (hl9.T (a := 145) (p := (100, 300)) 67 rfl rfl) hc10) ?_
  refine Q.run zm189 1 (i' := 21) (ls' := [some (.ref 121), none]) (st' := [.int 7, .int (sI s7 145 (jN (sI s7 121 32)))]) rfl ?_
  by_cases hc11 : (sI s7 145 (jN (sI s7 121 32))) = 7
  · rw [if_pos hc11] at h
    refine Q.map (A.bF (gI_of zm189 (e := (36, 3, .if_icmp .ne 34, [39])) rfl) (fun q => of_decide_eq_true q hc11)) ?_
    refine Q.run zm189 1 (i' := 23) (ls' := [some (.ref 121), none]) (st' := [.ref 121]) rfl ?_
    refine Q.map (A.gf (gI_of zm189 (e := (40, 3, .getfield 83, [9, 31])) rfl) (hl9.lt (a := 121) (by decide)) (hl9.T (a := 121) (p := (9, 45)) 43 rfl rfl) (by decide) (hl9.R 47 rfl)) ?_
    refine Q.run zm189 1 (i' := 25) (ls' := [some (.ref 121), none]) (st' := [.ref 121, .ref 146]) rfl ?_
    refine Q.map (A.gf (gI_of zm189 (e := (44, 3, .getfield 147, [9, 32])) rfl) (hl9.lt (a := 121) (by decide)) (hl9.T (a := 121) (p := (9, 45)) 43 rfl rfl) (by decide) rfl) ?_
    obtain ⟨hc12, h⟩ := ite_so h
    refine Q.map (A.ia (gI_of zm189 (e := (47, 1, .iaload, [])) rfl) (hl9.lt (a := 146) (by decide)) (hl9.T (a := 146) (p := (100, 300)) 68 rfl rfl) hc12) ?_
    refine Q.run zm189 2 (i' := 29) (ls' := [some (.ref 121), some (.int (sI s7 146 (jN (sI s7 121 32))))]) (st' := [.ref 121]) rfl ?_
    refine Q.map (A.gf (gI_of zm189 (e := (50, 3, .getfield 246, [9, 36])) rfl) (hl9.lt (a := 121) (by decide)) (hl9.T (a := 121) (p := (9, 45)) 43 rfl rfl) (by decide) rfl) ?_
    by_cases hc13 : (sI s7 121 36) = 0
    · rw [if_pos hc13] at h
      refine Q.map (A.zF (gI_of zm189 (e := (53, 3, .ifCond .ne 12, [36])) rfl) (fun q => of_decide_eq_true q hc13)) ?_
      refine Q.run zm189 3 (i' := 34) (ls' := [some (.ref 121), some (.int (sI s7 146 (jN (sI s7 121 32))))]) (st' := [.ref 121, .int (sI s7 146 (jN (sI s7 121 32))), .ref 121]) rfl ?_
      obtain ⟨r17, s16, hc15, h⟩ := bv_so h
      have hq14 : Q 2 sio tt cc d 192 0 [some (.ref 121)] [] s7 (.inl (some (.int r17)), s16) := dt192 (by omega) hl9  hc15
      refine Q.callI (gC_vi zm189 (show zM189.2.2.2.2.2[34]? = some (59, 3, .invokevirtual 153, [0, 192, 0, 9]) from rfl) zm192 (hl9.lt (a := 121) (by decide)) (hl9.T (a := 121) (p := (9, 45)) 43 rfl rfl) rfl (show aCr 0 121 [.ref 121, .int (sI s7 146 (jN (sI s7 121 32))), .ref 121] 1 = some ([some (.ref 121)], [.int (sI s7 146 (jN (sI s7 121 32))), .ref 121]) from rfl)) hq14 ?_
      obtain ⟨s20, hc19, h⟩ := bu_so h
      have hq18 : Q 2 sio tt cc d 193 0 [some (.ref 121), some (.int (sI s7 146 (jN (sI s7 121 32)))), some (.int r17)] [] s16 (.inl none, s20) := dt193 (by omega) hq14.1  hc19
      refine Q.callV (gC_vi zm189 (show zM189.2.2.2.2.2[35]? = some (62, 3, .invokevirtual 157, [0, 193, 2, 9]) from rfl) zm193 (hq14.1.lt (a := 121) (by decide)) (hq14.1.T (a := 121) (p := (9, 45)) 43 rfl rfl) rfl (show aCr 2 121 [.int r17, .int (sI s7 146 (jN (sI s7 121 32))), .ref 121] 3 = some ([some (.ref 121), some (.int (sI s7 146 (jN (sI s7 121 32)))), some (.int r17)], []) from rfl)) hq18 ?_
      exact dt189_36 hd hq18.1  h
    · rw [if_neg hc13] at h
      refine Q.map (A.zT (gI_of zm189 (e := (53, 3, .ifCond .ne 12, [36])) rfl) (decide_eq_true hc13)) ?_
      exact dt189_36 hd hl9  h
  · rw [if_neg hc11] at h
    refine Q.map (A.bT (gI_of zm189 (e := (36, 3, .if_icmp .ne 34, [39])) rfl) (decide_eq_true hc11)) ?_
    exact dt189_39 hd hl9  h
