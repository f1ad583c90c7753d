/-! 68 FormulaTrees$Reader.readBehindOperand(I)V -/
set_option maxRecDepth 100000 in
theorem zm68 : zP[68]? = some zM68 := rfl
def dm68_52 (x1 : Int32) (s : aS) : Option (aS) :=
  bu (dm34 79 ((sI s 106 7) + 1) s) fun r3 =>
  bu (dm83 x1 r3) fun r6 =>
  bu (dm84 r6 s) fun s9 =>
  some s9
set_option maxRecDepth 100000 in
theorem dt68_52 {sio : Bool} {tt : Nat} {cc : Nat → Nat → Int32} {d : Nat} (hd : 4 ≤ d) {x1 : Int32} {s : aS} (hl : Ly tt cc s) {o : aS} (h : dm68_52  x1 s = some o) : Q 1 sio tt cc d 68 52 [some (.ref 106), some (.int x1)] [] s (.inl none, o) := by
  unfold dm68_52 at h
  obtain ⟨d, rfl⟩ : ∃ e, d = e + 1 := ⟨d - 1, by omega⟩
  refine Q.run zm68 3 (i' := 55) (ls' := [some (.ref 106), some (.int x1)]) (st' := [.ref 106, .int x1, .ref 106]) rfl ?_
  refine Q.map (A.gf (gI_of zm68 (e := (111, 3, .getfield 41, [4, 0])) rfl) (hl.lt (a := 106) (by decide)) (hl.T (a := 106) (p := (4, 13)) 28 rfl rfl) (by decide) (hl.R 8 rfl)) ?_
  refine Q.run zm68 1 (i' := 57) (ls' := [some (.ref 106), some (.int x1)]) (st' := [.ref 106, .ref 79, .int x1, .ref 106]) rfl ?_
  refine Q.map (A.gf (gI_of zm68 (e := (115, 3, .getfield 61, [4, 7])) rfl) (hl.lt (a := 106) (by decide)) (hl.T (a := 106) (p := (4, 13)) 28 rfl rfl) (by decide) rfl) ?_
  refine Q.run zm68 2 (i' := 60) (ls' := [some (.ref 106), some (.int x1)]) (st' := [.int ((sI s 106 7) + 1), .ref 79, .int x1, .ref 106]) rfl ?_
  obtain ⟨r3, hc2, h⟩ := bu_so h
  have hq1 : Q 1 sio tt cc d 34 0 [some (.ref 79), some (.int ((sI s 106 7) + 1))] [] s (.inl (some (.int r3)), s) := dt34 (by omega) hl (hl.Kd (a := 79) (c := 1) (n := 2) 1 rfl rfl (by decide)) hc2
  refine Q.callI (gC_vi zm68 (show zM68.2.2.2.2.2[60]? = some (120, 3, .invokevirtual 78, [0, 34, 1, 1]) from rfl) zm34 (hl.lt (a := 79) (by decide)) (hl.T (a := 79) (p := (1, 2)) 1 rfl rfl) rfl (show aCr 1 79 [.int ((sI s 106 7) + 1), .ref 79, .int x1, .ref 106] 2 = some ([some (.ref 79), some (.int ((sI s 106 7) + 1))], [.int x1, .ref 106]) from rfl)) hq1 ?_
  obtain ⟨r6, hc5, h⟩ := bu_so h
  have hq4 : Q 1 sio tt cc d 83 0 [some (.int x1), some (.int r3)] [] s (.inl (some (.int r6)), s) := dt83 (by omega) hl  hc5
  refine Q.callI (gC_st zm68 (show zM68.2.2.2.2.2[61]? = some (123, 3, .invokestatic 192, [0, 83, 2]) from rfl) zm83 (show aC 2 [.int r3, .int x1, .ref 106] 2 = some ([some (.int x1), some (.int r3)], [.ref 106]) from rfl)) hq4 ?_
  obtain ⟨s9, hc8, h⟩ := bu_so h
  have hq7 : Q 1 sio tt cc d 84 0 [some (.ref 106), some (.int r6), none, none, none] [] s (.inl none, s9) := dt84 (by omega) hl  hc8
  refine Q.callV (gC_vi zm68 (show zM68.2.2.2.2.2[62]? = some (126, 3, .invokevirtual 196, [0, 84, 1, 4]) from rfl) zm84 (hl.lt (a := 106) (by decide)) (hl.T (a := 106) (p := (4, 13)) 28 rfl rfl) rfl (show aCr 1 106 [.int r6, .ref 106] 5 = some ([some (.ref 106), some (.int r6), none, none, none], []) from rfl)) hq7 ?_
  cases h
  exact Q.ret (A.rv zm68 (show zM68.2.2.2.2.2[63]? = some (129, 1, .return_, []) from rfl) rfl) hq7.1
def dm68_40 (y1 : Int32) (s : aS) : Option (aS) :=
  bu (dm75 y1 s) fun s3 =>
  some s3
set_option maxRecDepth 100000 in
theorem dt68_40 {sio : Bool} {tt : Nat} {cc : Nat → Nat → Int32} {d : Nat} (hd : 4 ≤ d) {y1 : Int32} {x1 : Int32} {s : aS} (hl : Ly tt cc s) {o : aS} (h : dm68_40  y1 s = some o) : Q 1 sio tt cc d 68 40 [some (.ref 106), some (.int x1)] [.int y1, .ref 106] s (.inl none, o) := by
  unfold dm68_40 at h
  obtain ⟨d, rfl⟩ : ∃ e, d = e + 1 := ⟨d - 1, by omega⟩
  obtain ⟨s3, hc2, h⟩ := bu_so h
  have hq1 : Q 1 sio tt cc d 75 0 [some (.ref 106), some (.int y1)] [] s (.inl none, s3) := dt75 (by omega) hl  hc2
  refine Q.callV (gC_vi zm68 (show zM68.2.2.2.2.2[40]? = some (79, 3, .invokevirtual 165, [0, 75, 1, 4]) from rfl) zm75 (hl.lt (a := 106) (by decide)) (hl.T (a := 106) (p := (4, 13)) 28 rfl rfl) rfl (show aCr 1 106 [.int y1, .ref 106] 2 = some ([some (.ref 106), some (.int y1)], []) from rfl)) hq1 ?_
  refine Q.run zm68 1 (i' := 63) (ls' := [some (.ref 106), some (.int x1)]) (st' := []) rfl ?_
  cases h
  exact Q.ret (A.rv zm68 (show zM68.2.2.2.2.2[63]? = some (129, 1, .return_, []) from rfl) rfl) hq1.1
def dm68_42 (x1 : Int32) (s : aS) : Option (aS) :=
  if x1 = 41 then
    bu (dm82 s) fun r4 =>
    if r4 ≤ 0 then
      dm68_52 x1 s
    else
      bu (dm77 s) fun s8 =>
      some s8
  else
    dm68_52 x1 s
set_option maxRecDepth 100000 in
theorem dt68_42 {sio : Bool} {tt : Nat} {cc : Nat → Nat → Int32} {d : Nat} (hd : 4 ≤ d) {x1 : Int32} {s : aS} (hl : Ly tt cc s) {o : aS} (h : dm68_42  x1 s = some o) : Q 1 sio tt cc d 68 42 [some (.ref 106), some (.int x1)] [] s (.inl none, o) := by
  unfold dm68_42 at h
  obtain ⟨d, rfl⟩ : ∃ e, d = e + 1 := ⟨d - 1, by omega⟩
  refine Q.run zm68 2 (i' := 44) (ls' := [some (.ref 106), some (.int x1)]) (st' := [.int 41, .int x1]) rfl ?_
  by_cases hc1 : x1 = 41
  · rw [if_pos hc1] at h
    refine Q.map (A.bF (gI_of zm68 (e := (88, 3, .if_icmp .ne 20, [52])) rfl) (fun q => of_decide_eq_true q hc1)) ?_
    refine Q.run zm68 1 (i' := 46) (ls' := [some (.ref 106), some (.int x1)]) (st' := [.ref 106]) rfl ?_
    refine Q.map (A.gf (gI_of zm68 (e := (92, 3, .getfield 37, [4, 5])) rfl) (hl.lt (a := 106) (by decide)) (hl.T (a := 106) (p := (4, 13)) 28 rfl rfl) (by decide) (hl.R 13 rfl)) ?_
    obtain ⟨r4, hc3, h⟩ := bu_so h
    have hq2 : Q 1 sio tt cc d 82 0 [some (.ref 113)] [] s (.inl (some (.int r4)), s) := dt82 (by omega) hl  hc3
    refine Q.callI (gC_vi zm68 (show zM68.2.2.2.2.2[47]? = some (95, 3, .invokevirtual 93, [0, 82, 0, 7]) from rfl) zm82 (hl.lt (a := 113) (by decide)) (hl.T (a := 113) (p := (7, 4)) 35 rfl rfl) rfl (show aCr 0 113 [.ref 113] 1 = some ([some (.ref 113)], []) from rfl)) hq2 ?_
    by_cases hc5 : r4 ≤ 0
    · rw [if_pos hc5] at h
      refine Q.map (A.zT (gI_of zm68 (e := (98, 3, .ifCond .le 10, [52])) rfl) (decide_eq_true hc5)) ?_
      exact dt68_52 hd hl  h
    · rw [if_neg hc5] at h
      refine Q.map (A.zF (gI_of zm68 (e := (98, 3, .ifCond .le 10, [52])) rfl) (fun q => hc5 (of_decide_eq_true q))) ?_
      refine Q.run zm68 1 (i' := 50) (ls' := [some (.ref 106), some (.int x1)]) (st' := [.ref 106]) rfl ?_
      obtain ⟨s8, hc7, h⟩ := bu_so h
      have hq6 : Q 1 sio tt cc d 77 0 [some (.ref 106), none] [] s (.inl none, s8) := dt77 (by omega) hl  hc7
      refine Q.callV (gC_vi zm68 (show zM68.2.2.2.2.2[50]? = some (102, 3, .invokevirtual 162, [0, 77, 0, 4]) from rfl) zm77 (hl.lt (a := 106) (by decide)) (hl.T (a := 106) (p := (4, 13)) 28 rfl rfl) rfl (show aCr 0 106 [.ref 106] 2 = some ([some (.ref 106), none], []) from rfl)) hq6 ?_
      refine Q.run zm68 1 (i' := 63) (ls' := [some (.ref 106), some (.int x1)]) (st' := []) rfl ?_
      cases h
      exact Q.ret (A.rv zm68 (show zM68.2.2.2.2.2[63]? = some (129, 1, .return_, []) from rfl) rfl) hq6.1
  · rw [if_neg hc1] at h
    refine Q.map (A.bT (gI_of zm68 (e := (88, 3, .if_icmp .ne 20, [52])) rfl) (decide_eq_true hc1)) ?_
    exact dt68_52 hd hl  h
def dm68_29 (x1 : Int32) (s : aS) : Option (aS) :=
  bu (dm73 s) fun r3 =>
  if r3 = 0 then
    dm68_42 x1 s
  else
    if x1 = 41 then
      dm68_40 1 s
    else
      dm68_40 0 s
set_option maxRecDepth 100000 in
theorem dt68_29 {sio : Bool} {tt : Nat} {cc : Nat → Nat → Int32} {d : Nat} (hd : 4 ≤ d) {x1 : Int32} {s : aS} (hl : Ly tt cc s) {o : aS} (h : dm68_29  x1 s = some o) : Q 1 sio tt cc d 68 29 [some (.ref 106), some (.int x1)] [] s (.inl none, o) := by
  unfold dm68_29 at h
  obtain ⟨d, rfl⟩ : ∃ e, d = e + 1 := ⟨d - 1, by omega⟩
  refine Q.run zm68 1 (i' := 30) (ls' := [some (.ref 106), some (.int x1)]) (st' := [.ref 106]) rfl ?_
  refine Q.map (A.gf (gI_of zm68 (e := (58, 3, .getfield 37, [4, 5])) rfl) (hl.lt (a := 106) (by decide)) (hl.T (a := 106) (p := (4, 13)) 28 rfl rfl) (by decide) (hl.R 13 rfl)) ?_
  obtain ⟨r3, hc2, h⟩ := bu_so h
  have hq1 : Q 1 sio tt cc d 73 0 [some (.ref 113)] [] s (.inl (some (.int r3)), s) := dt73 (by omega) hl  hc2
  refine Q.callI (gC_vi zm68 (show zM68.2.2.2.2.2[31]? = some (61, 3, .invokevirtual 177, [0, 73, 0, 7]) from rfl) zm73 (hl.lt (a := 113) (by decide)) (hl.T (a := 113) (p := (7, 4)) 35 rfl rfl) rfl (show aCr 0 113 [.ref 113] 1 = some ([some (.ref 113)], []) from rfl)) hq1 ?_
  by_cases hc4 : r3 = 0
  · rw [if_pos hc4] at h
    refine Q.map (A.zT (gI_of zm68 (e := (64, 3, .ifCond .eq 21, [42])) rfl) (decide_eq_true hc4)) ?_
    exact dt68_42 hd hl  h
  · rw [if_neg hc4] at h
    refine Q.map (A.zF (gI_of zm68 (e := (64, 3, .ifCond .eq 21, [42])) rfl) (fun q => hc4 (of_decide_eq_true q))) ?_
    refine Q.run zm68 3 (i' := 36) (ls' := [some (.ref 106), some (.int x1)]) (st' := [.int 41, .int x1, .ref 106]) rfl ?_
    by_cases hc5 : x1 = 41
    · rw [if_pos hc5] at h
      refine Q.map (A.bF (gI_of zm68 (e := (71, 3, .if_icmp .ne 7, [39])) rfl) (fun q => of_decide_eq_true q hc5)) ?_
      refine Q.run zm68 2 (i' := 40) (ls' := [some (.ref 106), some (.int x1)]) (st' := [.int 1, .ref 106]) rfl ?_
      exact dt68_40 hd hl  h
    · rw [if_neg hc5] at h
      refine Q.map (A.bT (gI_of zm68 (e := (71, 3, .if_icmp .ne 7, [39])) rfl) (decide_eq_true hc5)) ?_
      refine Q.run zm68 1 (i' := 40) (ls' := [some (.ref 106), some (.int x1)]) (st' := [.int 0, .ref 106]) rfl ?_
      exact dt68_40 hd hl  h
def dm68_17 (x1 : Int32) (s : aS) : Option (aS) :=
  if x1 = 37 then
    bu (dm69 s) fun s4 =>
    some s4
  else
    if x1 = 44 then
      dm68_29 x1 s
    else
      if x1 = 41 then
        dm68_29 x1 s
      else
        dm68_42 x1 s
set_option maxRecDepth 100000 in
theorem dt68_17 {sio : Bool} {tt : Nat} {cc : Nat → Nat → Int32} {d : Nat} (hd : 4 ≤ d) {x1 : Int32} {s : aS} (hl : Ly tt cc s) {o : aS} (h : dm68_17  x1 s = some o) : Q 1 sio tt cc d 68 17 [some (.ref 106), some (.int x1)] [] s (.inl none, o) := by
  unfold dm68_17 at h
  obtain ⟨d, rfl⟩ : ∃ e, d = e + 1 := ⟨d - 1, by omega⟩
  refine Q.run zm68 2 (i' := 19) (ls' := [some (.ref 106), some (.int x1)]) (st' := [.int 37, .int x1]) rfl ?_
  by_cases hc1 : x1 = 37
  · rw [if_pos hc1] at h
    refine Q.map (A.bF (gI_of zm68 (e := (35, 3, .if_icmp .ne 10, [23])) rfl) (fun q => of_decide_eq_true q hc1)) ?_
    refine Q.run zm68 1 (i' := 21) (ls' := [some (.ref 106), some (.int x1)]) (st' := [.ref 106]) rfl ?_
    obtain ⟨s4, hc3, h⟩ := bu_so h
    have hq2 : Q 1 sio tt cc d 69 0 [some (.ref 106)] [] s (.inl none, s4) := dt69 (by omega) hl  hc3
    refine Q.callV (gC_vi zm68 (show zM68.2.2.2.2.2[21]? = some (39, 3, .invokevirtual 189, [0, 69, 0, 4]) from rfl) zm69 (hl.lt (a := 106) (by decide)) (hl.T (a := 106) (p := (4, 13)) 28 rfl rfl) rfl (show aCr 0 106 [.ref 106] 1 = some ([some (.ref 106)], []) from rfl)) hq2 ?_
    refine Q.run zm68 1 (i' := 63) (ls' := [some (.ref 106), some (.int x1)]) (st' := []) rfl ?_
    cases h
    exact Q.ret (A.rv zm68 (show zM68.2.2.2.2.2[63]? = some (129, 1, .return_, []) from rfl) rfl) hq2.1
  · rw [if_neg hc1] at h
    refine Q.map (A.bT (gI_of zm68 (e := (35, 3, .if_icmp .ne 10, [23])) rfl) (decide_eq_true hc1)) ?_
    refine Q.run zm68 2 (i' := 25) (ls' := [some (.ref 106), some (.int x1)]) (st' := [.int 44, .int x1]) rfl ?_
    by_cases hc5 : x1 = 44
    · rw [if_pos hc5] at h
      refine Q.map (A.bT (gI_of zm68 (e := (48, 3, .if_icmp .eq 9, [29])) rfl) (decide_eq_true hc5)) ?_
      exact dt68_29 hd hl  h
    · rw [if_neg hc5] at h
      refine Q.map (A.bF (gI_of zm68 (e := (48, 3, .if_icmp .eq 9, [29])) rfl) (fun q => hc5 (of_decide_eq_true q))) ?_
      refine Q.run zm68 2 (i' := 28) (ls' := [some (.ref 106), some (.int x1)]) (st' := [.int 41, .int x1]) rfl ?_
      by_cases hc6 : x1 = 41
      · rw [if_pos hc6] at h
        refine Q.map (A.bF (gI_of zm68 (e := (54, 3, .if_icmp .ne 31, [42])) rfl) (fun q => of_decide_eq_true q hc6)) ?_
        exact dt68_29 hd hl  h
      · rw [if_neg hc6] at h
        refine Q.map (A.bT (gI_of zm68 (e := (54, 3, .if_icmp .ne 31, [42])) rfl) (decide_eq_true hc6)) ?_
        exact dt68_42 hd hl  h
def dm68 (x1 : Int32) (s : aS) : Option (aS) :=
  if x1 = 58 then
    if (sI s 106 9) = 5 then
      nx (wI s 106 9 3) fun s3 =>
      nx (wI s3 106 7 ((sI s3 106 7) + 1)) fun s6 =>
      some s6
    else
      dm68_17 x1 s
  else
    dm68_17 x1 s
set_option maxRecDepth 100000 in
theorem dt68 {sio : Bool} {tt : Nat} {cc : Nat → Nat → Int32} {d : Nat} (hd : 4 ≤ d) {x1 : Int32} {s : aS} (hl : Ly tt cc s) {o : aS} (h : dm68  x1 s = some o) : Q 1 sio tt cc d 68 0 [some (.ref 106), some (.int x1)] [] s (.inl none, o) := by
  unfold dm68 at h
  obtain ⟨d, rfl⟩ : ∃ e, d = e + 1 := ⟨d - 1, by omega⟩
  refine Q.run zm68 2 (i' := 2) (ls' := [some (.ref 106), some (.int x1)]) (st' := [.int 58, .int x1]) rfl ?_
  by_cases hc1 : x1 = 58
  · rw [if_pos hc1] at h
    refine Q.map (A.bF (gI_of zm68 (e := (3, 3, .if_icmp .ne 29, [17])) rfl) (fun q => of_decide_eq_true q hc1)) ?_
    refine Q.run zm68 1 (i' := 4) (ls' := [some (.ref 106), some (.int x1)]) (st' := [.ref 106]) rfl ?_
    refine Q.map (A.gf (gI_of zm68 (e := (7, 3, .getfield 68, [4, 9])) rfl) (hl.lt (a := 106) (by decide)) (hl.T (a := 106) (p := (4, 13)) 28 rfl rfl) (by decide) rfl) ?_
    refine Q.run zm68 1 (i' := 6) (ls' := [some (.ref 106), some (.int x1)]) (st' := [.int 5, .int (sI s 106 9)]) rfl ?_
    by_cases hc2 : (sI s 106 9) = 5
    · rw [if_pos hc2] at h
      refine Q.map (A.bF (gI_of zm68 (e := (11, 3, .if_icmp .ne 21, [17])) rfl) (fun q => of_decide_eq_true q hc2)) ?_
      refine Q.run zm68 2 (i' := 9) (ls' := [some (.ref 106), some (.int x1)]) (st' := [.int 3, .ref 106]) rfl ?_
      obtain ⟨s3, hs4, h⟩ := nx_so h
      refine Q.pf hs4 rfl (gI_of zm68 (e := (16, 3, .putfield 68, [4, 9, 0])) rfl) (hl.lt (a := 106) (by decide)) (by decide) (hl.T (a := 106) (p := (4, 13)) 28 rfl rfl) (by decide) rfl rfl ?_
      have hl5 : Ly tt cc s3 := by rw [hs4]; exact hl.wId (by decide)
      refine Q.run zm68 2 (i' := 12) (ls' := [some (.ref 106), some (.int x1)]) (st' := [.ref 106, .ref 106]) rfl ?_
      refine Q.map (A.gf (gI_of zm68 (e := (21, 3, .getfield 61, [4, 7])) rfl) (hl5.lt (a := 106) (by decide)) (hl5.T (a := 106) (p := (4, 13)) 28 rfl rfl) (by decide) rfl) ?_
      refine Q.run zm68 2 (i' := 15) (ls' := [some (.ref 106), some (.int x1)]) (st' := [.int ((sI s3 106 7) + 1), .ref 106]) rfl ?_
      obtain ⟨s6, hs7, h⟩ := nx_so h
      refine Q.pf hs7 rfl (gI_of zm68 (e := (26, 3, .putfield 61, [4, 7, 0])) rfl) (hl5.lt (a := 106) (by decide)) (by decide) (hl5.T (a := 106) (p := (4, 13)) 28 rfl rfl) (by decide) rfl rfl ?_
      have hl8 : Ly tt cc s6 := by rw [hs7]; exact hl5.wId (by decide)
      refine Q.run zm68 1 (i' := 63) (ls' := [some (.ref 106), some (.int x1)]) (st' := []) rfl ?_
      cases h
      exact Q.ret (A.rv zm68 (show zM68.2.2.2.2.2[63]? = some (129, 1, .return_, []) from rfl) rfl) hl8
    · rw [if_neg hc2] at h
      refine Q.map (A.bT (gI_of zm68 (e := (11, 3, .if_icmp .ne 21, [17])) rfl) (decide_eq_true hc2)) ?_
      exact dt68_17 hd hl  h
  · rw [if_neg hc1] at h
    refine Q.map (A.bT (gI_of zm68 (e := (3, 3, .if_icmp .ne 29, [17])) rfl) (decide_eq_true hc1)) ?_
    exact dt68_17 hd hl  h
/-! 90 FormulaTrees$CellReader.readColumn(LFormulaTrees$Letters;)Z -/
set_option maxRecDepth 100000 in
theorem zm90 : zP[90]? = some zM90 := rfl
def dm90_42 (x2 : Int32) (s : aS) : Option (Int32 × aS) :=
  if x2 ≤ 0 then
    some (0, s)
  else
    some (1, s)
set_option maxRecDepth 100000 in
theorem dt90_42 {sio : Bool} {tt : Nat} {cc : Nat → Nat → Int32} {d : Nat} (hd : 1 ≤ d) {x2 : Int32} {b1 : Nat} {g3 : Option Value} {s : aS} (hl : Ly tt cc s) {o : Int32 × aS} (h : dm90_42  x2 s = some o) : Q 1 sio tt cc d 90 42 [some (.ref 109), some (.ref b1), some (.int x2), g3] [] s (.inl (some (.int o.1)), o.2) := by
  unfold dm90_42 at h
  obtain ⟨d, rfl⟩ : ∃ e, d = e + 1 := ⟨d - 1, by omega⟩
  refine Q.run zm90 1 (i' := 43) (ls' := [some (.ref 109), some (.ref b1), some (.int x2), g3]) (st' := [.int x2]) rfl ?_
  by_cases hc1 : x2 ≤ 0
  · rw [if_pos hc1] at h
    refine Q.map (A.zT (gI_of zm90 (e := (77, 3, .ifCond .le 7, [46])) rfl) (decide_eq_true hc1)) ?_
    refine Q.run zm90 1 (i' := 47) (ls' := [some (.ref 109), some (.ref b1), some (.int x2), g3]) (st' := [.int 0]) rfl ?_
    cases h
    exact Q.ret (A.ri zm90 (show zM90.2.2.2.2.2[47]? = some (85, 1, .ireturn, []) from rfl) rfl rfl) hl
  · rw [if_neg hc1] at h
    refine Q.map (A.zF (gI_of zm90 (e := (77, 3, .ifCond .le 7, [46])) rfl) (fun q => hc1 (of_decide_eq_true q))) ?_
    refine Q.run zm90 2 (i' := 47) (ls' := [some (.ref 109), some (.ref b1), some (.int x2), g3]) (st' := [.int 1]) rfl ?_
    cases h
    exact Q.ret (A.ri zm90 (show zM90.2.2.2.2.2[47]? = some (85, 1, .ireturn, []) from rfl) rfl rfl) hl
def dm90_2 : Nat → Nat → Int32 → aS → Option (Int32 × aS)
  | 0, _, _, _ => none
  | n + 1, b1, x2, s =>
    if 3 ≤ x2 then
      dm90_42 x2 s
    else
      bu (dm34 b1 (sI s 109 0) s) fun r4 =>
      bu (dm45 r4) fun r7 =>
      if r7 = 0 then
        dm90_42 x2 s
      else
        bu (dm34 b1 (sI s 109 0) s) fun r11 =>
        bu (dm35 r11) fun r14 =>
        if (((((sI s 109 2) * 26) + r14) - 65) + 1) ≤ 16384 then
          nx (wI s 109 2 (((((sI s 109 2) * 26) + r14) - 65) + 1)) fun s16 =>
          nx (wI s16 109 0 ((sI s16 109 0) + 1)) fun s20 =>
          dm90_2 n b1 (x2 + 1) s20
        else
          some (0, s)
set_option maxRecDepth 100000 in
theorem dt90_2 {sio : Bool} {tt : Nat} {cc : Nat → Nat → Int32} {d : Nat} (hd : 1 ≤ d) : ∀ (n : Nat) {b1 : Nat} {x2 : Int32} {g3 : Option Value} {s : aS} (_ : Ly tt cc s) (_ : aK s b1 1) {o : Int32 × aS} (_ : dm90_2  n b1 x2 s = some o), Q 1 sio tt cc d 90 2 [some (.ref 109), some (.ref b1), some (.int x2), g3] [] s (.inl (some (.int o.1)), o.2) := by
  obtain ⟨d, rfl⟩ : ∃ e, d = e + 1 := ⟨d - 1, by omega⟩
  intro n
  induction n with
  | zero => intro b1 x2 g3 s hl hk_b1 o h; rw [dm90_2] at h; cases h
  | succ n ih =>
    intro b1 x2 g3 s hl hk_b1 o h
    rw [dm90_2] at h
    refine Q.run zm90 2 (i' := 4) (ls' := [some (.ref 109), some (.ref b1), some (.int x2), g3]) (st' := [.int 3, .int x2]) rfl ?_
    by_cases hc1 : 3 ≤ x2
    · rw [if_pos hc1] at h
      refine Q.map (A.bT (gI_of zm90 (e := (4, 3, .if_icmp .ge 72, [42])) rfl) (decide_eq_true hc1)) ?_
      exact dt90_42 hd hl  h
    · rw [if_neg hc1] at h
      refine Q.map (A.bF (gI_of zm90 (e := (4, 3, .if_icmp .ge 72, [42])) rfl) (fun q => hc1 (of_decide_eq_true q))) ?_
      refine Q.run zm90 2 (i' := 7) (ls' := [some (.ref 109), some (.ref b1), some (.int x2), g3]) (st' := [.ref 109, .ref b1]) rfl ?_
      refine Q.map (A.gf (gI_of zm90 (e := (9, 3, .getfield 9, [5, 0])) rfl) (hl.lt (a := 109) (by decide)) (hl.T (a := 109) (p := (5, 4)) 31 rfl rfl) (by decide) rfl) ?_
      obtain ⟨r4, hc3, h⟩ := bu_so h
      have hq2 : Q 1 sio tt cc d 34 0 [some (.ref b1), some (.int (sI s 109 0))] [] s (.inl (some (.int r4)), s) := dt34 (by omega) hl hk_b1 hc3
      refine Q.callI (gC_vi zm90 (show zM90.2.2.2.2.2[8]? = some (12, 3, .invokevirtual 24, [0, 34, 1, 1]) from rfl) zm34 hk_b1.1 (hl.le hk_b1).1 rfl (show aCr 1 b1 [.int (sI s 109 0), .ref b1] 2 = some ([some (.ref b1), some (.int (sI s 109 0))], []) from rfl)) hq2 ?_
      obtain ⟨r7, hc6, h⟩ := bu_so h
      have hq5 : Q 1 sio tt cc d 45 0 [some (.int r4)] [] s (.inl (some (.int r7)), s) := dt45 (by omega) hl  hc6
      refine Q.callI (gC_st zm90 (show zM90.2.2.2.2.2[9]? = some (15, 3, .invokestatic 41, [0, 45, 1]) from rfl) zm45 (show aC 1 [.int r4] 1 = some ([some (.int r4)], []) from rfl)) hq5 ?_
      by_cases hc8 : r7 = 0
      · rw [if_pos hc8] at h
        refine Q.map (A.zT (gI_of zm90 (e := (18, 3, .ifCond .eq 58, [42])) rfl) (decide_eq_true hc8)) ?_
        exact dt90_42 hd hl  h
      · rw [if_neg hc8] at h
        refine Q.map (A.zF (gI_of zm90 (e := (18, 3, .ifCond .eq 58, [42])) rfl) (fun q => hc8 (of_decide_eq_true q))) ?_
        refine Q.run zm90 1 (i' := 12) (ls' := [some (.ref 109), some (.ref b1), some (.int x2), g3]) (st' := [.ref 109]) rfl ?_
        refine Q.map (A.gf (gI_of zm90 (e := (22, 3, .getfield 18, [5, 2])) rfl) (hl.lt (a := 109) (by decide)) (hl.T (a := 109) (p := (5, 4)) 31 rfl rfl) (by decide) rfl) ?_
        refine Q.run zm90 4 (i' := 17) (ls' := [some (.ref 109), some (.ref b1), some (.int x2), g3]) (st' := [.ref 109, .ref b1, .int ((sI s 109 2) * 26)]) rfl ?_
        refine Q.map (A.gf (gI_of zm90 (e := (30, 3, .getfield 9, [5, 0])) rfl) (hl.lt (a := 109) (by decide)) (hl.T (a := 109) (p := (5, 4)) 31 rfl rfl) (by decide) rfl) ?_
        obtain ⟨r11, hc10, h⟩ := bu_so h
        have hq9 : Q 1 sio tt cc d 34 0 [some (.ref b1), some (.int (sI s 109 0))] [] s (.inl (some (.int r11)), s) := dt34 (by omega) hl hk_b1 hc10
        refine Q.callI (gC_vi zm90 (show zM90.2.2.2.2.2[18]? = some (33, 3, .invokevirtual 24, [0, 34, 1, 1]) from rfl) zm34 hk_b1.1 (hl.le hk_b1).1 rfl (show aCr 1 b1 [.int (sI s 109 0), .ref b1, .int ((sI s 109 2) * 26)] 2 = some ([some (.ref b1), some (.int (sI s 109 0))], [.int ((sI s 109 2) * 26)]) from rfl)) hq9 ?_
        obtain ⟨r14, hc13, h⟩ := bu_so h
        have hq12 : Q 1 sio tt cc d 35 0 [some (.int r11)] [] s (.inl (some (.int r14)), s) := dt35 (by omega) hl  hc13
        refine Q.callI (gC_st zm90 (show zM90.2.2.2.2.2[19]? = some (36, 3, .invokestatic 46, [0, 35, 1]) from rfl) zm35 (show aC 1 [.int r11, .int ((sI s 109 2) * 26)] 1 = some ([some (.int r11)], [.int ((sI s 109 2) * 26)]) from rfl)) hq12 ?_
        refine Q.run zm90 8 (i' := 28) (ls' := [some (.ref 109), some (.ref b1), some (.int x2), some (.int (((((sI s 109 2) * 26) + r14) - 65) + 1))]) (st' := [.int 16384, .int (((((sI s 109 2) * 26) + r14) - 65) + 1)]) rfl ?_
        by_cases hc15 : (((((sI s 109 2) * 26) + r14) - 65) + 1) ≤ 16384
        · rw [if_pos hc15] at h
          refine Q.map (A.bT (gI_of zm90 (e := (50, 3, .if_icmp .le 5, [31])) rfl) (decide_eq_true hc15)) ?_
          refine Q.run zm90 2 (i' := 33) (ls' := [some (.ref 109), some (.ref b1), some (.int x2), some (.int (((((sI s 109 2) * 26) + r14) - 65) + 1))]) (st' := [.int (((((sI s 109 2) * 26) + r14) - 65) + 1), .ref 109]) rfl ?_
          obtain ⟨s16, hs17, h⟩ := nx_so h
          refine Q.pf hs17 rfl (gI_of zm90 (e := (57, 3, .putfield 18, [5, 2, 0])) rfl) (hl.lt (a := 109) (by decide)) (by decide) (hl.T (a := 109) (p := (5, 4)) 31 rfl rfl) (by decide) rfl rfl ?_
          have hl18 : Ly tt cc s16 := by rw [hs17]; exact hl.wId (by decide)
          have hr19 : aK s16 b1 1 := by rw [hs17]; exact hk_b1
          refine Q.run zm90 3 (i' := 37) (ls' := [some (.ref 109), some (.ref b1), some (.int (x2 + 1)), some (.int (((((sI s 109 2) * 26) + r14) - 65) + 1))]) (st' := [.ref 109, .ref 109]) rfl ?_
          refine Q.map (A.gf (gI_of zm90 (e := (65, 3, .getfield 9, [5, 0])) rfl) (hl18.lt (a := 109) (by decide)) (hl18.T (a := 109) (p := (5, 4)) 31 rfl rfl) (by decide) rfl) ?_
          refine Q.run zm90 2 (i' := 40) (ls' := [some (.ref 109), some (.ref b1), some (.int (x2 + 1)), some (.int (((((sI s 109 2) * 26) + r14) - 65) + 1))]) (st' := [.int ((sI s16 109 0) + 1), .ref 109]) rfl ?_
          obtain ⟨s20, hs21, h⟩ := nx_so h
          refine Q.pf hs21 rfl (gI_of zm90 (e := (70, 3, .putfield 9, [5, 0, 0])) rfl) (hl18.lt (a := 109) (by decide)) (by decide) (hl18.T (a := 109) (p := (5, 4)) 31 rfl rfl) (by decide) rfl rfl ?_
          have hl22 : Ly tt cc s20 := by rw [hs21]; exact hl18.wId (by decide)
          have hr23 : aK s20 b1 1 := by rw [hs21]; exact hr19
          refine Q.run zm90 1 (i' := 2) (ls' := [some (.ref 109), some (.ref b1), some (.int (x2 + 1)), some (.int (((((sI s 109 2) * 26) + r14) - 65) + 1))]) (st' := []) rfl ?_
          exact ih hl22 hr23 h
        · rw [if_neg hc15] at h
          refine Q.map (A.bF (gI_of zm90 (e := (50, 3, .if_icmp .le 5, [31])) rfl) (fun q => hc15 (of_decide_eq_true q))) ?_
          refine Q.run zm90 1 (i' := 30) (ls' := [some (.ref 109), some (.ref b1), some (.int x2), some (.int (((((sI s 109 2) * 26) + r14) - 65) + 1))]) (st' := [.int 0]) rfl ?_
          cases h
          exact Q.ret (A.ri zm90 (show zM90.2.2.2.2.2[30]? = some (54, 1, .ireturn, []) from rfl) rfl rfl) hl
def dm90 (b1 : Nat) (s : aS) : Option (Int32 × aS) :=
  dm90_2 5000 b1 0 s
set_option maxRecDepth 100000 in
theorem dt90 {sio : Bool} {tt : Nat} {cc : Nat → Nat → Int32} {d : Nat} (hd : 1 ≤ d) {b1 : Nat} {s : aS} (hl : Ly tt cc s) (hk_b1 : aK s b1 1) {o : Int32 × aS} (h : dm90  b1 s = some o) : Q 1 sio tt cc d 90 0 [some (.ref 109), some (.ref b1), none, none] [] s (.inl (some (.int o.1)), o.2) := by
  unfold dm90 at h
  obtain ⟨d, rfl⟩ : ∃ e, d = e + 1 := ⟨d - 1, by omega⟩
  refine Q.run zm90 2 (i' := 2) (ls' := [some (.ref 109), some (.ref b1), some (.int 0), none]) (st' := []) rfl ?_
  exact dt90_2 hd _ hl hk_b1 h
/-! 91 FormulaTrees$CellReader.readRow(LFormulaTrees$Letters;)Z -/
set_option maxRecDepth 100000 in
theorem zm91 : zP[91]? = some zM91 := rfl
def dm91_42 (x2 : Int32) (s : aS) : Option (Int32 × aS) :=
  if x2 ≤ 0 then
    some (0, s)
  else
    some (1, s)
set_option maxRecDepth 100000 in
theorem dt91_42 {sio : Bool} {tt : Nat} {cc : Nat → Nat → Int32} {d : Nat} (hd : 1 ≤ d) {x2 : Int32} {b1 : Nat} {g3 : Option Value} {s : aS} (hl : Ly tt cc s) {o : Int32 × aS} (h : dm91_42  x2 s = some o) : Q 1 sio tt cc d 91 42 [some (.ref 109), some (.ref b1), some (.int x2), g3] [] s (.inl (some (.int o.1)), o.2) := by
  unfold dm91_42 at h
  obtain ⟨d, rfl⟩ : ∃ e, d = e + 1 := ⟨d - 1, by omega⟩
  refine Q.run zm91 1 (i' := 43) (ls' := [some (.ref 109), some (.ref b1), some (.int x2), g3]) (st' := [.int x2]) rfl ?_
  by_cases hc1 : x2 ≤ 0
  · rw [if_pos hc1] at h
    refine Q.map (A.zT (gI_of zm91 (e := (77, 3, .ifCond .le 7, [46])) rfl) (decide_eq_true hc1)) ?_
    refine Q.run zm91 1 (i' := 47) (ls' := [some (.ref 109), some (.ref b1), some (.int x2), g3]) (st' := [.int 0]) rfl ?_
    cases h
    exact Q.ret (A.ri zm91 (show zM91.2.2.2.2.2[47]? = some (85, 1, .ireturn, []) from rfl) rfl rfl) hl
  · rw [if_neg hc1] at h
    refine Q.map (A.zF (gI_of zm91 (e := (77, 3, .ifCond .le 7, [46])) rfl) (fun q => hc1 (of_decide_eq_true q))) ?_
    refine Q.run zm91 2 (i' := 47) (ls' := [some (.ref 109), some (.ref b1), some (.int x2), g3]) (st' := [.int 1]) rfl ?_
    cases h
    exact Q.ret (A.ri zm91 (show zM91.2.2.2.2.2[47]? = some (85, 1, .ireturn, []) from rfl) rfl rfl) hl
def dm91_2 : Nat → Nat → Int32 → aS → Option (Int32 × aS)
  | 0, _, _, _ => none
  | n + 1, b1, x2, s =>
    if 7 ≤ x2 then
      dm91_42 x2 s
    else
      bu (dm34 b1 (sI s 109 0) s) fun r4 =>
      bu (dm47 r4) fun r7 =>
      if r7 = 0 then
        dm91_42 x2 s
      else
        bu (dm34 b1 (sI s 109 0) s) fun r11 =>
        if ((((sI s 109 1) * 10) + r11) - 48) < 1 then
          some (0, s)
        else
          if ((((sI s 109 1) * 10) + r11) - 48) ≤ 1048576 then
            nx (wI s 109 1 ((((sI s 109 1) * 10) + r11) - 48)) fun s14 =>
            nx (wI s14 109 0 ((sI s14 109 0) + 1)) fun s18 =>
            dm91_2 n b1 (x2 + 1) s18
          else
            some (0, s)
set_option maxRecDepth 100000 in
theorem dt91_2 {sio : Bool} {tt : Nat} {cc : Nat → Nat → Int32} {d : Nat} (hd : 1 ≤ d) : ∀ (n : Nat) {b1 : Nat} {x2 : Int32} {g3 : Option Value} {s : aS} (_ : Ly tt cc s) (_ : aK s b1 1) {o : Int32 × aS} (_ : dm91_2  n b1 x2 s = some o), Q 1 sio tt cc d 91 2 [some (.ref 109), some (.ref b1), some (.int x2), g3] [] s (.inl (some (.int o.1)), o.2) := by
  obtain ⟨d, rfl⟩ : ∃ e, d = e + 1 := ⟨d - 1, by omega⟩
  intro n
  induction n with
  | zero => intro b1 x2 g3 s hl hk_b1 o h; rw [dm91_2] at h; cases h
  | succ n ih =>
    intro b1 x2 g3 s hl hk_b1 o h
    rw [dm91_2] at h
    refine Q.run zm91 2 (i' := 4) (ls' := [some (.ref 109), some (.ref b1), some (.int x2), g3]) (st' := [.int 7, .int x2]) rfl ?_
    by_cases hc1 : 7 ≤ x2
    · rw [if_pos hc1] at h
      refine Q.map (A.bT (gI_of zm91 (e := (5, 3, .if_icmp .ge 71, [42])) rfl) (decide_eq_true hc1)) ?_
      exact dt91_42 hd hl  h
    · rw [if_neg hc1] at h
      refine Q.map (A.bF (gI_of zm91 (e := (5, 3, .if_icmp .ge 71, [42])) rfl) (fun q => hc1 (of_decide_eq_true q))) ?_
      refine Q.run zm91 2 (i' := 7) (ls' := [some (.ref 109), some (.ref b1), some (.int x2), g3]) (st' := [.ref 109, .ref b1]) rfl ?_
      refine Q.map (A.gf (gI_of zm91 (e := (10, 3, .getfield 9, [5, 0])) rfl) (hl.lt (a := 109) (by decide)) (hl.T (a := 109) (p := (5, 4)) 31 rfl rfl) (by decide) rfl) ?_
      obtain ⟨r4, hc3, h⟩ := bu_so h
      have hq2 : Q 1 sio tt cc d 34 0 [some (.ref b1), some (.int (sI s 109 0))] [] s (.inl (some (.int r4)), s) := dt34 (by omega) hl hk_b1 hc3
      refine Q.callI (gC_vi zm91 (show zM91.2.2.2.2.2[8]? = some (13, 3, .invokevirtual 24, [0, 34, 1, 1]) from rfl) zm34 hk_b1.1 (hl.le hk_b1).1 rfl (show aCr 1 b1 [.int (sI s 109 0), .ref b1] 2 = some ([some (.ref b1), some (.int (sI s 109 0))], []) from rfl)) hq2 ?_
      obtain ⟨r7, hc6, h⟩ := bu_so h
      have hq5 : Q 1 sio tt cc d 47 0 [some (.int r4)] [] s (.inl (some (.int r7)), s) := dt47 (by omega) hl  hc6
      refine Q.callI (gC_st zm91 (show zM91.2.2.2.2.2[9]? = some (16, 3, .invokestatic 49, [0, 47, 1]) from rfl) zm47 (show aC 1 [.int r4] 1 = some ([some (.int r4)], []) from rfl)) hq5 ?_
      by_cases hc8 : r7 = 0
      · rw [if_pos hc8] at h
        refine Q.map (A.zT (gI_of zm91 (e := (19, 3, .ifCond .eq 57, [42])) rfl) (decide_eq_true hc8)) ?_
        exact dt91_42 hd hl  h
      · rw [if_neg hc8] at h
        refine Q.map (A.zF (gI_of zm91 (e := (19, 3, .ifCond .eq 57, [42])) rfl) (fun q => hc8 (of_decide_eq_true q))) ?_
        refine Q.run zm91 1 (i' := 12) (ls' := [some (.ref 109), some (.ref b1), some (.int x2), g3]) (st' := [.ref 109]) rfl ?_
        refine Q.map (A.gf (gI_of zm91 (e := (23, 3, .getfield 15, [5, 1])) rfl) (hl.lt (a := 109) (by decide)) (hl.T (a := 109) (p := (5, 4)) 31 rfl rfl) (by decide) rfl) ?_
        refine Q.run zm91 4 (i' := 17) (ls' := [some (.ref 109), some (.ref b1), some (.int x2), g3]) (st' := [.ref 109, .ref b1, .int ((sI s 109 1) * 10)]) rfl ?_
        refine Q.map (A.gf (gI_of zm91 (e := (31, 3, .getfield 9, [5, 0])) rfl) (hl.lt (a := 109) (by decide)) (hl.T (a := 109) (p := (5, 4)) 31 rfl rfl) (by decide) rfl) ?_
        obtain ⟨r11, hc10, h⟩ := bu_so h
        have hq9 : Q 1 sio tt cc d 34 0 [some (.ref b1), some (.int (sI s 109 0))] [] s (.inl (some (.int r11)), s) := dt34 (by omega) hl hk_b1 hc10
        refine Q.callI (gC_vi zm91 (show zM91.2.2.2.2.2[18]? = some (34, 3, .invokevirtual 24, [0, 34, 1, 1]) from rfl) zm34 hk_b1.1 (hl.le hk_b1).1 rfl (show aCr 1 b1 [.int (sI s 109 0), .ref b1, .int ((sI s 109 1) * 10)] 2 = some ([some (.ref b1), some (.int (sI s 109 0))], [.int ((sI s 109 1) * 10)]) from rfl)) hq9 ?_
        refine Q.run zm91 6 (i' := 25) (ls' := [some (.ref 109), some (.ref b1), some (.int x2), some (.int ((((sI s 109 1) * 10) + r11) - 48))]) (st' := [.int 1, .int ((((sI s 109 1) * 10) + r11) - 48)]) rfl ?_
        by_cases hc12 : ((((sI s 109 1) * 10) + r11) - 48) < 1
        · rw [if_pos hc12] at h
          refine Q.map (A.bT (gI_of zm91 (e := (44, 3, .if_icmp .lt 9, [29])) rfl) (decide_eq_true hc12)) ?_
          refine Q.run zm91 1 (i' := 30) (ls' := [some (.ref 109), some (.ref b1), some (.int x2), some (.int ((((sI s 109 1) * 10) + r11) - 48))]) (st' := [.int 0]) rfl ?_
          cases h
          exact Q.ret (A.ri zm91 (show zM91.2.2.2.2.2[30]? = some (54, 1, .ireturn, []) from rfl) rfl rfl) hl
        · rw [if_neg hc12] at h
          refine Q.map (A.bF (gI_of zm91 (e := (44, 3, .if_icmp .lt 9, [29])) rfl) (fun q => hc12 (of_decide_eq_true q))) ?_
          refine Q.run zm91 2 (i' := 28) (ls' := [some (.ref 109), some (.ref b1), some (.int x2), some (.int ((((sI s 109 1) * 10) + r11) - 48))]) (st' := [.int 1048576, .int ((((sI s 109 1) * 10) + r11) - 48)]) rfl ?_
          by_cases hc13 : ((((sI s 109 1) * 10) + r11) - 48) ≤ 1048576
          · rw [if_pos hc13] at h
            refine Q.map (A.bT (gI_of zm91 (e := (50, 3, .if_icmp .le 5, [31])) rfl) (decide_eq_true hc13)) ?_
            refine Q.run zm91 2 (i' := 33) (ls' := [some (.ref 109), some (.ref b1), some (.int x2), some (.int ((((sI s 109 1) * 10) + r11) - 48))]) (st' := [.int ((((sI s 109 1) * 10) + r11) - 48), .ref 109]) rfl ?_
            obtain ⟨s14, hs15, h⟩ := nx_so h
            refine Q.pf hs15 rfl (gI_of zm91 (e := (57, 3, .putfield 15, [5, 1, 0])) rfl) (hl.lt (a := 109) (by decide)) (by decide) (hl.T (a := 109) (p := (5, 4)) 31 rfl rfl) (by decide) rfl rfl ?_
            have hl16 : Ly tt cc s14 := by rw [hs15]; exact hl.wId (by decide)
            have hr17 : aK s14 b1 1 := by rw [hs15]; exact hk_b1
            refine Q.run zm91 3 (i' := 37) (ls' := [some (.ref 109), some (.ref b1), some (.int (x2 + 1)), some (.int ((((sI s 109 1) * 10) + r11) - 48))]) (st' := [.ref 109, .ref 109]) rfl ?_
            refine Q.map (A.gf (gI_of zm91 (e := (65, 3, .getfield 9, [5, 0])) rfl) (hl16.lt (a := 109) (by decide)) (hl16.T (a := 109) (p := (5, 4)) 31 rfl rfl) (by decide) rfl) ?_
            refine Q.run zm91 2 (i' := 40) (ls' := [some (.ref 109), some (.ref b1), some (.int (x2 + 1)), some (.int ((((sI s 109 1) * 10) + r11) - 48))]) (st' := [.int ((sI s14 109 0) + 1), .ref 109]) rfl ?_
            obtain ⟨s18, hs19, h⟩ := nx_so h
            refine Q.pf hs19 rfl (gI_of zm91 (e := (70, 3, .putfield 9, [5, 0, 0])) rfl) (hl16.lt (a := 109) (by decide)) (by decide) (hl16.T (a := 109) (p := (5, 4)) 31 rfl rfl) (by decide) rfl rfl ?_
            have hl20 : Ly tt cc s18 := by rw [hs19]; exact hl16.wId (by decide)
            have hr21 : aK s18 b1 1 := by rw [hs19]; exact hr17
            refine Q.run zm91 1 (i' := 2) (ls' := [some (.ref 109), some (.ref b1), some (.int (x2 + 1)), some (.int ((((sI s 109 1) * 10) + r11) - 48))]) (st' := []) rfl ?_
            exact ih hl20 hr21 h
          · rw [if_neg hc13] at h
            refine Q.map (A.bF (gI_of zm91 (e := (50, 3, .if_icmp .le 5, [31])) rfl) (fun q => hc13 (of_decide_eq_true q))) ?_
            refine Q.run zm91 1 (i' := 30) (ls' := [some (.ref 109), some (.ref b1), some (.int x2), some (.int ((((sI s 109 1) * 10) + r11) - 48))]) (st' := [.int 0]) rfl ?_
            cases h
            exact Q.ret (A.ri zm91 (show zM91.2.2.2.2.2[30]? = some (54, 1, .ireturn, []) from rfl) rfl rfl) hl
def dm91 (b1 : Nat) (s : aS) : Option (Int32 × aS) :=
  dm91_2 5000 b1 0 s
set_option maxRecDepth 100000 in
theorem dt91 {sio : Bool} {tt : Nat} {cc : Nat → Nat → Int32} {d : Nat} (hd : 1 ≤ d) {b1 : Nat} {s : aS} (hl : Ly tt cc s) (hk_b1 : aK s b1 1) {o : Int32 × aS} (h : dm91  b1 s = some o) : Q 1 sio tt cc d 91 0 [some (.ref 109), some (.ref b1), none, none] [] s (.inl (some (.int o.1)), o.2) := by
  unfold dm91 at h
  obtain ⟨d, rfl⟩ : ∃ e, d = e + 1 := ⟨d - 1, by omega⟩
  refine Q.run zm91 2 (i' := 2) (ls' := [some (.ref 109), some (.ref b1), some (.int 0), none]) (st' := []) rfl ?_
  exact dt91_2 hd _ hl hk_b1 h
/-! 92 FormulaTrees$CellReader.mayStandBehind(I)Z -/
set_option maxRecDepth 100000 in
theorem zm92 : zP[92]? = some zM92 := rfl
def dm92 (x0 : Int32) : Option (Int32) :=
  bu (dm46 x0) fun r3 =>
  if r3 = 0 then
    if x0 = 40 then
      some 0
    else
      if x0 = 33 then
        some 0
      else
        some 1
  else
    some 0
set_option maxRecDepth 100000 in
theorem dt92 {sio : Bool} {tt : Nat} {cc : Nat → Nat → Int32} {d : Nat} (hd : 2 ≤ d) {x0 : Int32} {s : aS} (hl : Ly tt cc s) {o : Int32} (h : dm92  x0 = some o) : Q 1 sio tt cc d 92 0 [some (.int x0)] [] s (.inl (some (.int o)), s) := by
  unfold dm92 at h
  obtain ⟨d, rfl⟩ : ∃ e, d = e + 1 := ⟨d - 1, by omega⟩
  refine Q.run zm92 1 (i' := 1) (ls' := [some (.int x0)]) (st' := [.int x0]) rfl ?_
  obtain ⟨r3, hc2, h⟩ := bu_so h
  have hq1 : Q 1 sio tt cc d 46 0 [some (.int x0)] [] s (.inl (some (.int r3)), s) := dt46 (by omega) hl  hc2
  refine Q.callI (gC_st zm92 (show zM92.2.2.2.2.2[1]? = some (1, 3, .invokestatic 53, [0, 46, 1]) from rfl) zm46 (show aC 1 [.int x0] 1 = some ([some (.int x0)], []) from rfl)) hq1 ?_
  by_cases hc4 : r3 = 0
  · rw [if_pos hc4] at h
    refine Q.map (A.zF (gI_of zm92 (e := (4, 3, .ifCond .ne 19, [11])) rfl) (fun q => of_decide_eq_true q hc4)) ?_
    refine Q.run zm92 2 (i' := 5) (ls' := [some (.int x0)]) (st' := [.int 40, .int x0]) rfl ?_
    by_cases hc5 : x0 = 40
    · rw [if_pos hc5] at h
      refine Q.map (A.bT (gI_of zm92 (e := (10, 3, .if_icmp .eq 13, [11])) rfl) (decide_eq_true hc5)) ?_
      refine Q.run zm92 1 (i' := 12) (ls' := [some (.int x0)]) (st' := [.int 0]) rfl ?_
      cases h
      exact Q.ret (A.ri zm92 (show zM92.2.2.2.2.2[12]? = some (24, 1, .ireturn, []) from rfl) rfl rfl) hl
    · rw [if_neg hc5] at h
      refine Q.map (A.bF (gI_of zm92 (e := (10, 3, .if_icmp .eq 13, [11])) rfl) (fun q => hc5 (of_decide_eq_true q))) ?_
      refine Q.run zm92 2 (i' := 8) (ls' := [some (.int x0)]) (st' := [.int 33, .int x0]) rfl ?_
      by_cases hc6 : x0 = 33
      · rw [if_pos hc6] at h
        refine Q.map (A.bT (gI_of zm92 (e := (16, 3, .if_icmp .eq 7, [11])) rfl) (decide_eq_true hc6)) ?_
        refine Q.run zm92 1 (i' := 12) (ls' := [some (.int x0)]) (st' := [.int 0]) rfl ?_
        cases h
        exact Q.ret (A.ri zm92 (show zM92.2.2.2.2.2[12]? = some (24, 1, .ireturn, []) from rfl) rfl rfl) hl
      · rw [if_neg hc6] at h
        refine Q.map (A.bF (gI_of zm92 (e := (16, 3, .if_icmp .eq 7, [11])) rfl) (fun q => hc6 (of_decide_eq_true q))) ?_
        refine Q.run zm92 2 (i' := 12) (ls' := [some (.int x0)]) (st' := [.int 1]) rfl ?_
        cases h
        exact Q.ret (A.ri zm92 (show zM92.2.2.2.2.2[12]? = some (24, 1, .ireturn, []) from rfl) rfl rfl) hl
  · rw [if_neg hc4] at h
    refine Q.map (A.zT (gI_of zm92 (e := (4, 3, .ifCond .ne 19, [11])) rfl) (decide_eq_true hc4)) ?_
    refine Q.run zm92 1 (i' := 12) (ls' := [some (.int x0)]) (st' := [.int 0]) rfl ?_
    cases h
    exact Q.ret (A.ri zm92 (show zM92.2.2.2.2.2[12]? = some (24, 1, .ireturn, []) from rfl) rfl rfl) hl
/-! 89 FormulaTrees$CellReader.readFrom(LFormulaTrees$Letters;I)Z -/
set_option maxRecDepth 100000 in
theorem zm89 : zP[89]? = some zM89 := rfl
def dm89_54 (b1 : Nat) (s : aS) : Option (Int32 × aS) :=
  bv (dm91 b1 s) fun r4 s3 =>
  if r4 = 0 then
    some (0, s3)
  else
    bu (dm34 b1 (sI s3 109 0) s3) fun r9 =>
    bu (dm92 r9) fun r12 =>
    if r12 = 0 then
      some (0, s3)
    else
      some (1, s3)
set_option maxRecDepth 100000 in
theorem dt89_54 {sio : Bool} {tt : Nat} {cc : Nat → Nat → Int32} {d : Nat} (hd : 3 ≤ d) {b1 : Nat} {x2 : Int32} {s : aS} (hl : Ly tt cc s) (hk_b1 : aK s b1 1) {o : Int32 × aS} (h : dm89_54  b1 s = some o) : Q 1 sio tt cc d 89 54 [some (.ref 109), some (.ref b1), some (.int x2)] [] s (.inl (some (.int o.1)), o.2) := by
  unfold dm89_54 at h
  obtain ⟨d, rfl⟩ : ∃ e, d = e + 1 := ⟨d - 1, by omega⟩
  refine Q.run zm89 2 (i' := 56) (ls' := [some (.ref 109), some (.ref b1), some (.int x2)]) (st' := [.ref b1, .ref 109]) rfl ?_
  obtain ⟨r4, s3, hc2, h⟩ := bv_so h
  have hq1 : Q 1 sio tt cc d 91 0 [some (.ref 109), some (.ref b1), none, none] [] s (.inl (some (.int r4)), s3) := dt91 (by omega) hl hk_b1 hc2
  refine Q.callI (gC_vi zm89 (show zM89.2.2.2.2.2[56]? = some (98, 3, .invokevirtual 34, [0, 91, 1, 5]) from rfl) zm91 (hl.lt (a := 109) (by decide)) (hl.T (a := 109) (p := (5, 4)) 31 rfl rfl) rfl (show aCr 1 109 [.ref b1, .ref 109] 4 = some ([some (.ref 109), some (.ref b1), none, none], []) from rfl)) hq1 ?_
  have hr5 : aK s3 b1 1 := hq1.2.1.k hk_b1
  by_cases hc6 : r4 = 0
  · rw [if_pos hc6] at h
    refine Q.map (A.zT (gI_of zm89 (e := (101, 3, .ifCond .eq 21, [66])) rfl) (decide_eq_true hc6)) ?_
    refine Q.run zm89 1 (i' := 67) (ls' := [some (.ref 109), some (.ref b1), some (.int x2)]) (st' := [.int 0]) rfl ?_
    cases h
    exact Q.ret (A.ri zm89 (show zM89.2.2.2.2.2[67]? = some (123, 1, .ireturn, []) from rfl) rfl rfl) hq1.1
  · rw [if_neg hc6] at h
    refine Q.map (A.zF (gI_of zm89 (e := (101, 3, .ifCond .eq 21, [66])) rfl) (fun q => hc6 (of_decide_eq_true q))) ?_
    refine Q.run zm89 2 (i' := 60) (ls' := [some (.ref 109), some (.ref b1), some (.int x2)]) (st' := [.ref 109, .ref b1]) rfl ?_
    refine Q.map (A.gf (gI_of zm89 (e := (106, 3, .getfield 9, [5, 0])) rfl) (hq1.1.lt (a := 109) (by decide)) (hq1.1.T (a := 109) (p := (5, 4)) 31 rfl rfl) (by decide) rfl) ?_
    obtain ⟨r9, hc8, h⟩ := bu_so h
    have hq7 : Q 1 sio tt cc d 34 0 [some (.ref b1), some (.int (sI s3 109 0))] [] s3 (.inl (some (.int r9)), s3) := dt34 (by omega) hq1.1 hr5 hc8
    refine Q.callI (gC_vi zm89 (show zM89.2.2.2.2.2[61]? = some (109, 3, .invokevirtual 24, [0, 34, 1, 1]) from rfl) zm34 hr5.1 (hq1.1.le hr5).1 rfl (show aCr 1 b1 [.int (sI s3 109 0), .ref b1] 2 = some ([some (.ref b1), some (.int (sI s3 109 0))], []) from rfl)) hq7 ?_
    obtain ⟨r12, hc11, h⟩ := bu_so h
    have hq10 : Q 1 sio tt cc d 92 0 [some (.int r9)] [] s3 (.inl (some (.int r12)), s3) := dt92 (by omega) hq1.1  hc11
    refine Q.callI (gC_st zm89 (show zM89.2.2.2.2.2[62]? = some (112, 3, .invokestatic 37, [0, 92, 1]) from rfl) zm92 (show aC 1 [.int r9] 1 = some ([some (.int r9)], []) from rfl)) hq10 ?_
    by_cases hc13 : r12 = 0
    · rw [if_pos hc13] at h
      refine Q.map (A.zT (gI_of zm89 (e := (115, 3, .ifCond .eq 7, [66])) rfl) (decide_eq_true hc13)) ?_
      refine Q.run zm89 1 (i' := 67) (ls' := [some (.ref 109), some (.ref b1), some (.int x2)]) (st' := [.int 0]) rfl ?_
      cases h
      exact Q.ret (A.ri zm89 (show zM89.2.2.2.2.2[67]? = some (123, 1, .ireturn, []) from rfl) rfl rfl) hq1.1
    · rw [if_neg hc13] at h
      refine Q.map (A.zF (gI_of zm89 (e := (115, 3, .ifCond .eq 7, [66])) rfl) (fun q => hc13 (of_decide_eq_true q))) ?_
      refine Q.run zm89 2 (i' := 67) (ls' := [some (.ref 109), some (.ref b1), some (.int x2)]) (st' := [.int 1]) rfl ?_
      cases h
      exact Q.ret (A.ri zm89 (show zM89.2.2.2.2.2[67]? = some (123, 1, .ireturn, []) from rfl) rfl rfl) hq1.1
def dm89_30 (b1 : Nat) (s : aS) : Option (Int32 × aS) :=
  bv (dm90 b1 s) fun r4 s3 =>
  if r4 = 0 then
    some (0, s3)
  else
    bu (dm34 b1 (sI s3 109 0) s3) fun r9 =>
    if r9 = 36 then
      nx (wI s3 109 3 ((sI s3 109 3) + 1)) fun s11 =>
      nx (wI s11 109 0 ((sI s11 109 0) + 1)) fun s15 =>
      dm89_54 b1 s15
    else
      dm89_54 b1 s3
set_option maxRecDepth 100000 in
theorem dt89_30 {sio : Bool} {tt : Nat} {cc : Nat → Nat → Int32} {d : Nat} (hd : 3 ≤ d) {b1 : Nat} {x2 : Int32} {s : aS} (hl : Ly tt cc s) (hk_b1 : aK s b1 1) {o : Int32 × aS} (h : dm89_30  b1 s = some o) : Q 1 sio tt cc d 89 30 [some (.ref 109), some (.ref b1), some (.int x2)] [] s (.inl (some (.int o.1)), o.2) := by
  unfold dm89_30 at h
  obtain ⟨d, rfl⟩ : ∃ e, d = e + 1 := ⟨d - 1, by omega⟩
  refine Q.run zm89 2 (i' := 32) (ls' := [some (.ref 109), some (.ref b1), some (.int x2)]) (st' := [.ref b1, .ref 109]) rfl ?_
  obtain ⟨r4, s3, hc2, h⟩ := bv_so h
  have hq1 : Q 1 sio tt cc d 90 0 [some (.ref 109), some (.ref b1), none, none] [] s (.inl (some (.int r4)), s3) := dt90 (by omega) hl hk_b1 hc2
  refine Q.callI (gC_vi zm89 (show zM89.2.2.2.2.2[32]? = some (55, 3, .invokevirtual 30, [0, 90, 1, 5]) from rfl) zm90 (hl.lt (a := 109) (by decide)) (hl.T (a := 109) (p := (5, 4)) 31 rfl rfl) rfl (show aCr 1 109 [.ref b1, .ref 109] 4 = some ([some (.ref 109), some (.ref b1), none, none], []) from rfl)) hq1 ?_
  have hr5 : aK s3 b1 1 := hq1.2.1.k hk_b1
  by_cases hc6 : r4 = 0
  · rw [if_pos hc6] at h
    refine Q.map (A.zF (gI_of zm89 (e := (58, 3, .ifCond .ne 5, [36])) rfl) (fun q => of_decide_eq_true q hc6)) ?_
    refine Q.run zm89 1 (i' := 35) (ls' := [some (.ref 109), some (.ref b1), some (.int x2)]) (st' := [.int 0]) rfl ?_
    cases h
    exact Q.ret (A.ri zm89 (show zM89.2.2.2.2.2[35]? = some (62, 1, .ireturn, []) from rfl) rfl rfl) hq1.1
  · rw [if_neg hc6] at h
    refine Q.map (A.zT (gI_of zm89 (e := (58, 3, .ifCond .ne 5, [36])) rfl) (decide_eq_true hc6)) ?_
    refine Q.run zm89 2 (i' := 38) (ls' := [some (.ref 109), some (.ref b1), some (.int x2)]) (st' := [.ref 109, .ref b1]) rfl ?_
    refine Q.map (A.gf (gI_of zm89 (e := (65, 3, .getfield 9, [5, 0])) rfl) (hq1.1.lt (a := 109) (by decide)) (hq1.1.T (a := 109) (p := (5, 4)) 31 rfl rfl) (by decide) rfl) ?_
    obtain ⟨r9, hc8, h⟩ := bu_so h
    have hq7 : Q 1 sio tt cc d 34 0 [some (.ref b1), some (.int (sI s3 109 0))] [] s3 (.inl (some (.int r9)), s3) := dt34 (by omega) hq1.1 hr5 hc8
    refine Q.callI (gC_vi zm89 (show zM89.2.2.2.2.2[39]? = some (68, 3, .invokevirtual 24, [0, 34, 1, 1]) from rfl) zm34 hr5.1 (hq1.1.le hr5).1 rfl (show aCr 1 b1 [.int (sI s3 109 0), .ref b1] 2 = some ([some (.ref b1), some (.int (sI s3 109 0))], []) from rfl)) hq7 ?_
    refine Q.run zm89 1 (i' := 41) (ls' := [some (.ref 109), some (.ref b1), some (.int x2)]) (st' := [.int 36, .int r9]) rfl ?_
    by_cases hc10 : r9 = 36
    · rw [if_pos hc10] at h
      refine Q.map (A.bF (gI_of zm89 (e := (73, 3, .if_icmp .ne 23, [54])) rfl) (fun q => of_decide_eq_true q hc10)) ?_
      refine Q.run zm89 2 (i' := 44) (ls' := [some (.ref 109), some (.ref b1), some (.int x2)]) (st' := [.ref 109, .ref 109]) rfl ?_
      refine Q.map (A.gf (gI_of zm89 (e := (78, 3, .getfield 21, [5, 3])) rfl) (hq1.1.lt (a := 109) (by decide)) (hq1.1.T (a := 109) (p := (5, 4)) 31 rfl rfl) (by decide) rfl) ?_
      refine Q.run zm89 2 (i' := 47) (ls' := [some (.ref 109), some (.ref b1), some (.int x2)]) (st' := [.int ((sI s3 109 3) + 1), .ref 109]) rfl ?_
      obtain ⟨s11, hs12, h⟩ := nx_so h
      refine Q.pf hs12 rfl (gI_of zm89 (e := (83, 3, .putfield 21, [5, 3, 0])) rfl) (hq1.1.lt (a := 109) (by decide)) (by decide) (hq1.1.T (a := 109) (p := (5, 4)) 31 rfl rfl) (by decide) rfl rfl ?_
      have hl13 : Ly tt cc s11 := by rw [hs12]; exact hq1.1.wId (by decide)
      have hr14 : aK s11 b1 1 := by rw [hs12]; exact hr5
      refine Q.run zm89 2 (i' := 50) (ls' := [some (.ref 109), some (.ref b1), some (.int x2)]) (st' := [.ref 109, .ref 109]) rfl ?_
      refine Q.map (A.gf (gI_of zm89 (e := (88, 3, .getfield 9, [5, 0])) rfl) (hl13.lt (a := 109) (by decide)) (hl13.T (a := 109) (p := (5, 4)) 31 rfl rfl) (by decide) rfl) ?_
      refine Q.run zm89 2 (i' := 53) (ls' := [some (.ref 109), some (.ref b1), some (.int x2)]) (st' := [.int ((sI s11 109 0) + 1), .ref 109]) rfl ?_
      obtain ⟨s15, hs16, h⟩ := nx_so h
      refine Q.pf hs16 rfl (gI_of zm89 (e := (93, 3, .putfield 9, [5, 0, 0])) rfl) (hl13.lt (a := 109) (by decide)) (by decide) (hl13.T (a := 109) (p := (5, 4)) 31 rfl rfl) (by decide) rfl rfl ?_
      have hl17 : Ly tt cc s15 := by rw [hs16]; exact hl13.wId (by decide)
      have hr18 : aK s15 b1 1 := by rw [hs16]; exact hr14
      exact dt89_54 hd hl17 hr18 h
    · rw [if_neg hc10] at h
      refine Q.map (A.bT (gI_of zm89 (e := (73, 3, .if_icmp .ne 23, [54])) rfl) (decide_eq_true hc10)) ?_
      exact dt89_54 hd hq1.1 hr5 h
def dm89 (b1 : Nat) (x2 : Int32) (s : aS) : Option (Int32 × aS) :=
  nx (wI s 109 0 x2) fun s1 =>
  nx (wI s1 109 1 0) fun s5 =>
  nx (wI s5 109 2 0) fun s9 =>
  nx (wI s9 109 3 0) fun s13 =>
  bu (dm34 b1 (sI s13 109 0) s13) fun r19 =>
  if r19 = 36 then
    nx (wI s13 109 3 ((sI s13 109 3) + 2)) fun s21 =>
    nx (wI s21 109 0 ((sI s21 109 0) + 1)) fun s25 =>
    dm89_30 b1 s25
  else
    dm89_30 b1 s13
set_option maxRecDepth 100000 in
theorem dt89 {sio : Bool} {tt : Nat} {cc : Nat → Nat → Int32} {d : Nat} (hd : 3 ≤ d) {b1 : Nat} {x2 : Int32} {s : aS} (hl : Ly tt cc s) (hk_b1 : aK s b1 1) {o : Int32 × aS} (h : dm89  b1 x2 s = some o) : Q 1 sio tt cc d 89 0 [some (.ref 109), some (.ref b1), some (.int x2)] [] s (.inl (some (.int o.1)), o.2) := by
  unfold dm89 at h
  obtain ⟨d, rfl⟩ : ∃ e, d = e + 1 := ⟨d - 1, by omega⟩
  refine Q.run zm89 2 (i' := 2) (ls' := [some (.ref 109), some (.ref b1), some (.int x2)]) (st' := [.int x2, .ref 109]) rfl ?_
  obtain ⟨s1, hs2, h⟩ := nx_so h
  refine Q.pf hs2 rfl (gI_of zm89 (e := (2, 3, .putfield 9, [5, 0, 0])) rfl) (hl.lt (a := 109) (by decide)) (by decide) (hl.T (a := 109) (p := (5, 4)) 31 rfl rfl) (by decide) rfl rfl ?_
  have hl3 : Ly tt cc s1 := by rw [hs2]; exact hl.wId (by decide)
  have hr4 : aK s1 b1 1 := by rw [hs2]; exact hk_b1
  refine Q.run zm89 2 (i' := 5) (ls' := [some (.ref 109), some (.ref b1), some (.int x2)]) (st' := [.int 0, .ref 109]) rfl ?_
  obtain ⟨s5, hs6, h⟩ := nx_so h
  refine Q.pf hs6 rfl (gI_of zm89 (e := (7, 3, .putfield 15, [5, 1, 0])) rfl) (hl3.lt (a := 109) (by decide)) (by decide) (hl3.T (a := 109) (p := (5, 4)) 31 rfl rfl) (by decide) rfl rfl ?_
  have hl7 : Ly tt cc s5 := by rw [hs6]; exact hl3.wId (by decide)
  have hr8 : aK s5 b1 1 := by rw [hs6]; exact hr4
  refine Q.run zm89 2 (i' := 8) (ls' := [some (.ref 109), some (.ref b1), some (.int x2)]) (st' := [.int 0, .ref 109]) rfl ?_
  obtain ⟨s9, hs10, h⟩ := nx_so h
  refine Q.pf hs10 rfl (gI_of zm89 (e := (12, 3, .putfield 18, [5, 2, 0])) rfl) (hl7.lt (a := 109) (by decide)) (by decide) (hl7.T (a := 109) (p := (5, 4)) 31 rfl rfl) (by decide) rfl rfl ?_
  have hl11 : Ly tt cc s9 := by rw [hs10]; exact hl7.wId (by decide)
  have hr12 : aK s9 b1 1 := by rw [hs10]; exact hr8
  refine Q.run zm89 2 (i' := 11) (ls' := [some (.ref 109), some (.ref b1), some (.int x2)]) (st' := [.int 0, .ref 109]) rfl ?_
  obtain ⟨s13, hs14, h⟩ := nx_so h
  refine Q.pf hs14 rfl (gI_of zm89 (e := (17, 3, .putfield 21, [5, 3, 0])) rfl) (hl11.lt (a := 109) (by decide)) (by decide) (hl11.T (a := 109) (p := (5, 4)) 31 rfl rfl) (by decide) rfl rfl ?_
  have hl15 : Ly tt cc s13 := by rw [hs14]; exact hl11.wId (by decide)
  have hr16 : aK s13 b1 1 := by rw [hs14]; exact hr12
  refine Q.run zm89 2 (i' := 14) (ls' := [some (.ref 109), some (.ref b1), some (.int x2)]) (st' := [.ref 109, .ref b1]) rfl ?_
  refine Q.map (A.gf (gI_of zm89 (e := (22, 3, .getfield 9, [5, 0])) rfl) (hl15.lt (a := 109) (by decide)) (hl15.T (a := 109) (p := (5, 4)) 31 rfl rfl) (by decide) rfl) ?_
  obtain ⟨r19, hc18, h⟩ := bu_so h
  have hq17 : Q 1 sio tt cc d 34 0 [some (.ref b1), some (.int (sI s13 109 0))] [] s13 (.inl (some (.int r19)), s13) := dt34 (by omega) hl15 hr16 hc18
  refine Q.callI (gC_vi zm89 (show zM89.2.2.2.2.2[15]? = some (25, 3, .invokevirtual 24, [0, 34, 1, 1]) from rfl) zm34 hr16.1 (hl15.le hr16).1 rfl (show aCr 1 b1 [.int (sI s13 109 0), .ref b1] 2 = some ([some (.ref b1), some (.int (sI s13 109 0))], []) from rfl)) hq17 ?_
  refine Q.run zm89 1 (i' := 17) (ls' := [some (.ref 109), some (.ref b1), some (.int x2)]) (st' := [.int 36, .int r19]) rfl ?_
  by_cases hc20 : r19 = 36
  · rw [if_pos hc20] at h
    refine Q.map (A.bF (gI_of zm89 (e := (30, 3, .if_icmp .ne 23, [30])) rfl) (fun q => of_decide_eq_true q hc20)) ?_
    refine Q.run zm89 2 (i' := 20) (ls' := [some (.ref 109), some (.ref b1), some (.int x2)]) (st' := [.ref 109, .ref 109]) rfl ?_
    refine Q.map (A.gf (gI_of zm89 (e := (35, 3, .getfield 21, [5, 3])) rfl) (hl15.lt (a := 109) (by decide)) (hl15.T (a := 109) (p := (5, 4)) 31 rfl rfl) (by decide) rfl) ?_
    refine Q.run zm89 2 (i' := 23) (ls' := [some (.ref 109), some (.ref b1), some (.int x2)]) (st' := [.int ((sI s13 109 3) + 2), .ref 109]) rfl ?_
    obtain ⟨s21, hs22, h⟩ := nx_so h
    refine Q.pf hs22 rfl (gI_of zm89 (e := (40, 3, .putfield 21, [5, 3, 0])) rfl) (hl15.lt (a := 109) (by decide)) (by decide) (hl15.T (a := 109) (p := (5, 4)) 31 rfl rfl) (by decide) rfl rfl ?_
    have hl23 : Ly tt cc s21 := by rw [hs22]; exact hl15.wId (by decide)
    have hr24 : aK s21 b1 1 := by rw [hs22]; exact hr16
    refine Q.run zm89 2 (i' := 26) (ls' := [some (.ref 109), some (.ref b1), some (.int x2)]) (st' := [.ref 109, .ref 109]) rfl ?_
    refine Q.map (A.gf (gI_of zm89 (e := (45, 3, .getfield 9, [5, 0])) rfl) (hl23.lt (a := 109) (by decide)) (hl23.T (a := 109) (p := (5, 4)) 31 rfl rfl) (by decide) rfl) ?_
    refine Q.run zm89 2 (i' := 29) (ls' := [some (.ref 109), some (.ref b1), some (.int x2)]) (st' := [.int ((sI s21 109 0) + 1), .ref 109]) rfl ?_
    obtain ⟨s25, hs26, h⟩ := nx_so h
    refine Q.pf hs26 rfl (gI_of zm89 (e := (50, 3, .putfield 9, [5, 0, 0])) rfl) (hl23.lt (a := 109) (by decide)) (by decide) (hl23.T (a := 109) (p := (5, 4)) 31 rfl rfl) (by decide) rfl rfl ?_
    have hl27 : Ly tt cc s25 := by rw [hs26]; exact hl23.wId (by decide)
    have hr28 : aK s25 b1 1 := by rw [hs26]; exact hr24
    exact dt89_30 hd hl27 hr28 h
  · rw [if_neg hc20] at h
    refine Q.map (A.bT (gI_of zm89 (e := (30, 3, .if_icmp .ne 23, [30])) rfl) (decide_eq_true hc20)) ?_
    exact dt89_30 hd hl15 hr16 h
/-! 93 FormulaTrees$CellReader.end()I -/
set_option maxRecDepth 100000 in
theorem zm93 : zP[93]? = some zM93 := rfl
def dm93 (s : aS) : Option (Int32) :=
  some (sI s 109 0)
set_option maxRecDepth 100000 in
theorem dt93 {sio : Bool} {tt : Nat} {cc : Nat → Nat → Int32} {d : Nat} (hd : 0 ≤ d) {s : aS} (hl : Ly tt cc s) {o : Int32} (h : dm93  s = some o) : Q 1 sio tt cc d 93 0 [some (.ref 109)] [] s (.inl (some (.int o)), s) := by
  unfold dm93 at h
  refine Q.run zm93 1 (i' := 1) (ls' := [some (.ref 109)]) (st' := [.ref 109]) rfl ?_
  refine Q.map (A.gf (gI_of zm93 (e := (1, 3, .getfield 9, [5, 0])) rfl) (hl.lt (a := 109) (by decide)) (hl.T (a := 109) (p := (5, 4)) 31 rfl rfl) (by decide) rfl) ?_
  cases h
  exact Q.ret (A.ri zm93 (show zM93.2.2.2.2.2[2]? = some (4, 1, .ireturn, []) from rfl) rfl rfl) hl
/-! 94 FormulaTrees$Tree.nodes()I -/
set_option maxRecDepth 100000 in
theorem zm94 : zP[94]? = some zM94 := rfl
def dm94 (b0 : Nat) (s : aS) : Option (Int32) :=
  some (sI s b0 2)
set_option maxRecDepth 100000 in
theorem dt94 {sio : Bool} {tt : Nat} {cc : Nat → Nat → Int32} {d : Nat} (hd : 0 ≤ d) {b0 : Nat} {s : aS} (hl : Ly tt cc s) (hk_b0 : aK s b0 3) {o : Int32} (h : dm94  b0 s = some o) : Q 1 sio tt cc d 94 0 [some (.ref b0)] [] s (.inl (some (.int o)), s) := by
  unfold dm94 at h
  refine Q.run zm94 1 (i' := 1) (ls' := [some (.ref b0)]) (st' := [.ref b0]) rfl ?_
  refine Q.map (A.gf (gI_of zm94 (e := (1, 3, .getfield 24, [3, 2])) rfl) hk_b0.1 (hl.tr hk_b0).1 (by decide) rfl) ?_
  cases h
  exact Q.ret (A.ri zm94 (show zM94.2.2.2.2.2[2]? = some (4, 1, .ireturn, []) from rfl) rfl rfl) hl
/-! 96 FormulaTrees$CellReader.row()I -/
set_option maxRecDepth 100000 in
theorem zm96 : zP[96]? = some zM96 := rfl
def dm96 (s : aS) : Option (Int32) :=
  some (sI s 109 1)
set_option maxRecDepth 100000 in
theorem dt96 {sio : Bool} {tt : Nat} {cc : Nat → Nat → Int32} {d : Nat} (hd : 0 ≤ d) {s : aS} (hl : Ly tt cc s) {o : Int32} (h : dm96  s = some o) : Q 1 sio tt cc d 96 0 [some (.ref 109)] [] s (.inl (some (.int o)), s) := by
  unfold dm96 at h
  refine Q.run zm96 1 (i' := 1) (ls' := [some (.ref 109)]) (st' := [.ref 109]) rfl ?_
  refine Q.map (A.gf (gI_of zm96 (e := (1, 3, .getfield 15, [5, 1])) rfl) (hl.lt (a := 109) (by decide)) (hl.T (a := 109) (p := (5, 4)) 31 rfl rfl) (by decide) rfl) ?_
  cases h
  exact Q.ret (A.ri zm96 (show zM96.2.2.2.2.2[2]? = some (4, 1, .ireturn, []) from rfl) rfl rfl) hl
/-! 97 FormulaTrees$CellReader.column()I -/
set_option maxRecDepth 100000 in
theorem zm97 : zP[97]? = some zM97 := rfl
def dm97 (s : aS) : Option (Int32) :=
  some (sI s 109 2)
set_option maxRecDepth 100000 in
theorem dt97 {sio : Bool} {tt : Nat} {cc : Nat → Nat → Int32} {d : Nat} (hd : 0 ≤ d) {s : aS} (hl : Ly tt cc s) {o : Int32} (h : dm97  s = some o) : Q 1 sio tt cc d 97 0 [some (.ref 109)] [] s (.inl (some (.int o)), s) := by
  unfold dm97 at h
  refine Q.run zm97 1 (i' := 1) (ls' := [some (.ref 109)]) (st' := [.ref 109]) rfl ?_
  refine Q.map (A.gf (gI_of zm97 (e := (1, 3, .getfield 18, [5, 2])) rfl) (hl.lt (a := 109) (by decide)) (hl.T (a := 109) (p := (5, 4)) 31 rfl rfl) (by decide) rfl) ?_
  cases h
  exact Q.ret (A.ri zm97 (show zM97.2.2.2.2.2[2]? = some (4, 1, .ireturn, []) from rfl) rfl rfl) hl
/-! 98 FormulaTrees$CellReader.dollars()I -/
set_option maxRecDepth 100000 in
theorem zm98 : zP[98]? = some zM98 := rfl
def dm98 (s : aS) : Option (Int32) :=
  some (sI s 109 3)
set_option maxRecDepth 100000 in
theorem dt98 {sio : Bool} {tt : Nat} {cc : Nat → Nat → Int32} {d : Nat} (hd : 0 ≤ d) {s : aS} (hl : Ly tt cc s) {o : Int32} (h : dm98  s = some o) : Q 1 sio tt cc d 98 0 [some (.ref 109)] [] s (.inl (some (.int o)), s) := by
  unfold dm98 at h
  refine Q.run zm98 1 (i' := 1) (ls' := [some (.ref 109)]) (st' := [.ref 109]) rfl ?_
  refine Q.map (A.gf (gI_of zm98 (e := (1, 3, .getfield 21, [5, 3])) rfl) (hl.lt (a := 109) (by decide)) (hl.T (a := 109) (p := (5, 4)) 31 rfl rfl) (by decide) rfl) ?_
  cases h
  exact Q.ret (A.ri zm98 (show zM98.2.2.2.2.2[2]? = some (4, 1, .ireturn, []) from rfl) rfl rfl) hl
/-! 95 FormulaTrees$Tree.becomeCell(ILFormulaTrees$CellReader;)V -/
set_option maxRecDepth 100000 in
theorem zm95 : zP[95]? = some zM95 := rfl
def dm95 (b0 : Nat) (x1 : Int32) (s : aS) : Option (aS) :=
  bu (dm96 s) fun r3 =>
  bu (dm60 b0 x1 3 r3 s) fun s6 =>
  bu (dm97 s6) fun r10 =>
  bu (dm60 b0 x1 4 r10 s6) fun s13 =>
  bu (dm96 s13) fun r17 =>
  bu (dm60 b0 x1 5 r17 s13) fun s20 =>
  bu (dm97 s20) fun r24 =>
  bu (dm60 b0 x1 6 r24 s20) fun s27 =>
  bu (dm98 s27) fun r31 =>
  bu (dm60 b0 x1 7 r31 s27) fun s34 =>
  some s34
set_option maxRecDepth 100000 in
theorem dt95 {sio : Bool} {tt : Nat} {cc : Nat → Nat → Int32} {d : Nat} (hd : 1 ≤ d) {b0 : Nat} {x1 : Int32} {s : aS} (hl : Ly tt cc s) (hk_b0 : aK s b0 3) {o : aS} (h : dm95  b0 x1 s = some o) : Q 1 sio tt cc d 95 0 [some (.ref b0), some (.int x1), some (.ref 109)] [] s (.inl none, o) := by
  unfold dm95 at h
  obtain ⟨d, rfl⟩ : ∃ e, d = e + 1 := ⟨d - 1, by omega⟩
  refine Q.run zm95 4 (i' := 4) (ls' := [some (.ref b0), some (.int x1), some (.ref 109)]) (st' := [.ref 109, .int 3, .int x1, .ref b0]) rfl ?_
  obtain ⟨r3, hc2, h⟩ := bu_so h
  have hq1 : Q 1 sio tt cc d 96 0 [some (.ref 109)] [] s (.inl (some (.int r3)), s) := dt96 (by omega) hl  hc2
  refine Q.callI (gC_vi zm95 (show zM95.2.2.2.2.2[4]? = some (4, 3, .invokevirtual 74, [0, 96, 0, 5]) from rfl) zm96 (hl.lt (a := 109) (by decide)) (hl.T (a := 109) (p := (5, 4)) 31 rfl rfl) rfl (show aCr 0 109 [.ref 109, .int 3, .int x1, .ref b0] 1 = some ([some (.ref 109)], [.int 3, .int x1, .ref b0]) from rfl)) hq1 ?_
  obtain ⟨s6, hc5, h⟩ := bu_so h
  have hq4 : Q 1 sio tt cc d 60 0 [some (.ref b0), some (.int x1), some (.int 3), some (.int r3)] [] s (.inl none, s6) := dt60 (by omega) hl hk_b0 hc5
  refine Q.callV (gC_vi zm95 (show zM95.2.2.2.2.2[5]? = some (7, 3, .invokevirtual 51, [0, 60, 3, 3]) from rfl) zm60 hk_b0.1 (hl.tr hk_b0).1 rfl (show aCr 3 b0 [.int r3, .int 3, .int x1, .ref b0] 4 = some ([some (.ref b0), some (.int x1), some (.int 3), some (.int r3)], []) from rfl)) hq4 ?_
  have hr7 : aK s6 b0 3 := hq4.2.1.k hk_b0
  refine Q.run zm95 4 (i' := 10) (ls' := [some (.ref b0), some (.int x1), some (.ref 109)]) (st' := [.ref 109, .int 4, .int x1, .ref b0]) rfl ?_
  obtain ⟨r10, hc9, h⟩ := bu_so h
  have hq8 : Q 1 sio tt cc d 97 0 [some (.ref 109)] [] s6 (.inl (some (.int r10)), s6) := dt97 (by omega) hq4.1  hc9
  refine Q.callI (gC_vi zm95 (show zM95.2.2.2.2.2[10]? = some (14, 3, .invokevirtual 79, [0, 97, 0, 5]) from rfl) zm97 (hq4.1.lt (a := 109) (by decide)) (hq4.1.T (a := 109) (p := (5, 4)) 31 rfl rfl) rfl (show aCr 0 109 [.ref 109, .int 4, .int x1, .ref b0] 1 = some ([some (.ref 109)], [.int 4, .int x1, .ref b0]) from rfl)) hq8 ?_
  obtain ⟨s13, hc12, h⟩ := bu_so h
  have hq11 : Q 1 sio tt cc d 60 0 [some (.ref b0), some (.int x1), some (.int 4), some (.int r10)] [] s6 (.inl none, s13) := dt60 (by omega) hq4.1 hr7 hc12
  refine Q.callV (gC_vi zm95 (show zM95.2.2.2.2.2[11]? = some (17, 3, .invokevirtual 51, [0, 60, 3, 3]) from rfl) zm60 hr7.1 (hq4.1.tr hr7).1 rfl (show aCr 3 b0 [.int r10, .int 4, .int x1, .ref b0] 4 = some ([some (.ref b0), some (.int x1), some (.int 4), some (.int r10)], []) from rfl)) hq11 ?_
  have hr14 : aK s13 b0 3 := hq11.2.1.k hr7
  refine Q.run zm95 4 (i' := 16) (ls' := [some (.ref b0), some (.int x1), some (.ref 109)]) (st' := [.ref 109, .int 5, .int x1, .ref b0]) rfl ?_
  obtain ⟨r17, hc16, h⟩ := bu_so h
  have hq15 : Q 1 sio tt cc d 96 0 [some (.ref 109)] [] s13 (.inl (some (.int r17)), s13) := dt96 (by omega) hq11.1  hc16
  refine Q.callI (gC_vi zm95 (show zM95.2.2.2.2.2[16]? = some (24, 3, .invokevirtual 74, [0, 96, 0, 5]) from rfl) zm96 (hq11.1.lt (a := 109) (by decide)) (hq11.1.T (a := 109) (p := (5, 4)) 31 rfl rfl) rfl (show aCr 0 109 [.ref 109, .int 5, .int x1, .ref b0] 1 = some ([some (.ref 109)], [.int 5, .int x1, .ref b0]) from rfl)) hq15 ?_
  obtain ⟨s20, hc19, h⟩ := bu_so h
  have hq18 : Q 1 sio tt cc d 60 0 [some (.ref b0), some (.int x1), some (.int 5), some (.int r17)] [] s13 (.inl none, s20) := dt60 (by omega) hq11.1 hr14 hc19
  refine Q.callV (gC_vi zm95 (show zM95.2.2.2.2.2[17]? = some (27, 3, .invokevirtual 51, [0, 60, 3, 3]) from rfl) zm60 hr14.1 (hq11.1.tr hr14).1 rfl (show aCr 3 b0 [.int r17, .int 5, .int x1, .ref b0] 4 = some ([some (.ref b0), some (.int x1), some (.int 5), some (.int r17)], []) from rfl)) hq18 ?_
  have hr21 : aK s20 b0 3 := hq18.2.1.k hr14
  refine Q.run zm95 4 (i' := 22) (ls' := [some (.ref b0), some (.int x1), some (.ref 109)]) (st' := [.ref 109, .int 6, .int x1, .ref b0]) rfl ?_
  obtain ⟨r24, hc23, h⟩ := bu_so h
  have hq22 : Q 1 sio tt cc d 97 0 [some (.ref 109)] [] s20 (.inl (some (.int r24)), s20) := dt97 (by omega) hq18.1  hc23
  refine Q.callI (gC_vi zm95 (show zM95.2.2.2.2.2[22]? = some (35, 3, .invokevirtual 79, [0, 97, 0, 5]) from rfl) zm97 (hq18.1.lt (a := 109) (by decide)) (hq18.1.T (a := 109) (p := (5, 4)) 31 rfl rfl) rfl (show aCr 0 109 [.ref 109, .int 6, .int x1, .ref b0] 1 = some ([some (.ref 109)], [.int 6, .int x1, .ref b0]) from rfl)) hq22 ?_
  obtain ⟨s27, hc26, h⟩ := bu_so h
  have hq25 : Q 1 sio tt cc d 60 0 [some (.ref b0), some (.int x1), some (.int 6), some (.int r24)] [] s20 (.inl none, s27) := dt60 (by omega) hq18.1 hr21 hc26
  refine Q.callV (gC_vi zm95 (show zM95.2.2.2.2.2[23]? = some (38, 3, .invokevirtual 51, [0, 60, 3, 3]) from rfl) zm60 hr21.1 (hq18.1.tr hr21).1 rfl (show aCr 3 b0 [.int r24, .int 6, .int x1, .ref b0] 4 = some ([some (.ref b0), some (.int x1), some (.int 6), some (.int r24)], []) from rfl)) hq25 ?_
  have hr28 : aK s27 b0 3 := hq25.2.1.k hr21
  refine Q.run zm95 4 (i' := 28) (ls' := [some (.ref b0), some (.int x1), some (.ref 109)]) (st' := [.ref 109, .int 7, .int x1, .ref b0]) rfl ?_
  obtain ⟨r31, hc30, h⟩ := bu_so h
  have hq29 : Q 1 sio tt cc d 98 0 [some (.ref 109)] [] s27 (.inl (some (.int r31)), s27) := dt98 (by omega) hq25.1  hc30
  refine Q.callI (gC_vi zm95 (show zM95.2.2.2.2.2[28]? = some (46, 3, .invokevirtual 82, [0, 98, 0, 5]) from rfl) zm98 (hq25.1.lt (a := 109) (by decide)) (hq25.1.T (a := 109) (p := (5, 4)) 31 rfl rfl) rfl (show aCr 0 109 [.ref 109, .int 7, .int x1, .ref b0] 1 = some ([some (.ref 109)], [.int 7, .int x1, .ref b0]) from rfl)) hq29 ?_
  obtain ⟨s34, hc33, h⟩ := bu_so h
  have hq32 : Q 1 sio tt cc d 60 0 [some (.ref b0), some (.int x1), some (.int 7), some (.int r31)] [] s27 (.inl none, s34) := dt60 (by omega) hq25.1 hr28 hc33
  refine Q.callV (gC_vi zm95 (show zM95.2.2.2.2.2[29]? = some (49, 3, .invokevirtual 51, [0, 60, 3, 3]) from rfl) zm60 hr28.1 (hq25.1.tr hr28).1 rfl (show aCr 3 b0 [.int r31, .int 7, .int x1, .ref b0] 4 = some ([some (.ref b0), some (.int x1), some (.int 7), some (.int r31)], []) from rfl)) hq32 ?_
  have hr35 : aK s34 b0 3 := hq32.2.1.k hr28
  cases h
  exact Q.ret (A.rv zm95 (show zM95.2.2.2.2.2[30]? = some (52, 1, .return_, []) from rfl) rfl) hq32.1
/-! 88 FormulaTrees$Reader.readReference()V -/
set_option maxRecDepth 100000 in
theorem zm88 : zP[88]? = some zM88 := rfl
def dm88 (s : aS) : Option (aS) :=
  bv (dm89 79 (sI s 106 7) s) fun r4 s3 =>
  if r4 = 0 then
    bu (dm93 s3) fun r8 =>
    nx (wI s3 106 8 r8) fun s9 =>
    some s9
  else
    bv (dm70 (sI s3 106 11) s3) fun r15 s14 =>
    if r15 = 0 then
      some s14
    else
      vN (sR s14 106 6) (
        none
      ) fun b18 =>
        if aK s14 b18 3 then
          bu (dm94 b18 s14) fun r22 =>
          vN (sR s14 106 6) (
            none
          ) fun b24 =>
            if aK s14 b24 3 then
              bu (dm72 b24 r22 4 0 s14) fun s28 =>
              vN (sR s28 106 6) (
                none
              ) fun b32 =>
                if aK s28 b32 3 then
                  bu (dm60 b32 r22 2 (sI s28 106 12) s28) fun s36 =>
                  vN (sR s36 106 6) (
                    none
                  ) fun b41 =>
                    if aK s36 b41 3 then
                      bu (dm95 b41 r22 s36) fun s45 =>
                      bu (dm81 r22 s45) fun s52 =>
                      nx (wI s52 106 9 5) fun s57 =>
                      bu (dm93 s57) fun r66 =>
                      nx (wI s57 106 7 r66) fun s67 =>
                      some s67
                    else none
                else none
            else none
        else none
set_option maxRecDepth 100000 in
theorem dt88 {sio : Bool} {tt : Nat} {cc : Nat → Nat → Int32} {d : Nat} (hd : 4 ≤ d) {s : aS} (hl : Ly tt cc s) {o : aS} (h : dm88  s = some o) : Q 1 sio tt cc d 88 0 [some (.ref 106), none] [] s (.inl none, o) := by
  unfold dm88 at h
  obtain ⟨d, rfl⟩ : ∃ e, d = e + 1 := ⟨d - 1, by omega⟩
  refine Q.run zm88 1 (i' := 1) (ls' := [some (.ref 106), none]) (st' := [.ref 106]) rfl ?_
  refine Q.map (A.gf (gI_of zm88 (e := (1, 3, .getfield 23, [4, 3])) rfl) (hl.lt (a := 106) (by decide)) (hl.T (a := 106) (p := (4, 13)) 28 rfl rfl) (by decide) (hl.R 11 rfl)) ?_
  refine Q.run zm88 1 (i' := 3) (ls' := [some (.ref 106), none]) (st' := [.ref 106, .ref 109]) rfl ?_
  refine Q.map (A.gf (gI_of zm88 (e := (5, 3, .getfield 41, [4, 0])) rfl) (hl.lt (a := 106) (by decide)) (hl.T (a := 106) (p := (4, 13)) 28 rfl rfl) (by decide) (hl.R 8 rfl)) ?_
  refine Q.run zm88 1 (i' := 5) (ls' := [some (.ref 106), none]) (st' := [.ref 106, .ref 79, .ref 109]) rfl ?_
  refine Q.map (A.gf (gI_of zm88 (e := (9, 3, .getfield 61, [4, 7])) rfl) (hl.lt (a := 106) (by decide)) (hl.T (a := 106) (p := (4, 13)) 28 rfl rfl) (by decide) rfl) ?_
  obtain ⟨r4, s3, hc2, h⟩ := bv_so h
  have hq1 : Q 1 sio tt cc d 89 0 [some (.ref 109), some (.ref 79), some (.int (sI s 106 7))] [] s (.inl (some (.int r4)), s3) := dt89 (by omega) hl (hl.Kd (a := 79) (c := 1) (n := 2) 1 rfl rfl (by decide)) hc2
  refine Q.callI (gC_vi zm88 (show zM88.2.2.2.2.2[6]? = some (12, 3, .invokevirtual 251, [0, 89, 2, 5]) from rfl) zm89 (hl.lt (a := 109) (by decide)) (hl.T (a := 109) (p := (5, 4)) 31 rfl rfl) rfl (show aCr 2 109 [.int (sI s 106 7), .ref 79, .ref 109] 3 = some ([some (.ref 109), some (.ref 79), some (.int (sI s 106 7))], []) from rfl)) hq1 ?_
  by_cases hc5 : r4 = 0
  · rw [if_pos hc5] at h
    refine Q.map (A.zF (gI_of zm88 (e := (15, 3, .ifCond .ne 17, [14])) rfl) (fun q => of_decide_eq_true q hc5)) ?_
    refine Q.run zm88 2 (i' := 10) (ls' := [some (.ref 106), none]) (st' := [.ref 106, .ref 106]) rfl ?_
    refine Q.map (A.gf (gI_of zm88 (e := (20, 3, .getfield 23, [4, 3])) rfl) (hq1.1.lt (a := 106) (by decide)) (hq1.1.T (a := 106) (p := (4, 13)) 28 rfl rfl) (by decide) (hq1.1.R 11 rfl)) ?_
    obtain ⟨r8, hc7, h⟩ := bu_so h
    have hq6 : Q 1 sio tt cc d 93 0 [some (.ref 109)] [] s3 (.inl (some (.int r8)), s3) := dt93 (by omega) hq1.1  hc7
    refine Q.callI (gC_vi zm88 (show zM88.2.2.2.2.2[11]? = some (23, 3, .invokevirtual 255, [0, 93, 0, 5]) from rfl) zm93 (hq1.1.lt (a := 109) (by decide)) (hq1.1.T (a := 109) (p := (5, 4)) 31 rfl rfl) rfl (show aCr 0 109 [.ref 109, .ref 106] 1 = some ([some (.ref 109)], [.ref 106]) from rfl)) hq6 ?_
    obtain ⟨s9, hs10, h⟩ := nx_so h
    refine Q.pf hs10 rfl (gI_of zm88 (e := (26, 3, .putfield 65, [4, 8, 0])) rfl) (hq1.1.lt (a := 106) (by decide)) (by decide) (hq1.1.T (a := 106) (p := (4, 13)) 28 rfl rfl) (by decide) rfl rfl ?_
    have hl11 : Ly tt cc s9 := by rw [hs10]; exact hq1.1.wId (by decide)
    refine Q.run zm88 1 (i' := 53) (ls' := [some (.ref 106), none]) (st' := []) rfl ?_
    cases h
    exact Q.ret (A.rv zm88 (show zM88.2.2.2.2.2[53]? = some (107, 1, .return_, []) from rfl) rfl) hl11
  · rw [if_neg hc5] at h
    refine Q.map (A.zT (gI_of zm88 (e := (15, 3, .ifCond .ne 17, [14])) rfl) (decide_eq_true hc5)) ?_
    refine Q.run zm88 2 (i' := 16) (ls' := [some (.ref 106), none]) (st' := [.ref 106, .ref 106]) rfl ?_
    refine Q.map (A.gf (gI_of zm88 (e := (34, 3, .getfield 271, [4, 11])) rfl) (hq1.1.lt (a := 106) (by decide)) (hq1.1.T (a := 106) (p := (4, 13)) 28 rfl rfl) (by decide) rfl) ?_
    obtain ⟨r15, s14, hc13, h⟩ := bv_so h
    have hq12 : Q 1 sio tt cc d 70 0 [some (.ref 106), some (.int (sI s3 106 11)), none] [] s3 (.inl (some (.int r15)), s14) := dt70 (by omega) hq1.1  hc13
    refine Q.callI (gC_vi zm88 (show zM88.2.2.2.2.2[17]? = some (37, 3, .invokevirtual 144, [0, 70, 1, 4]) from rfl) zm70 (hq1.1.lt (a := 106) (by decide)) (hq1.1.T (a := 106) (p := (4, 13)) 28 rfl rfl) rfl (show aCr 1 106 [.int (sI s3 106 11), .ref 106] 3 = some ([some (.ref 106), some (.int (sI s3 106 11)), none], []) from rfl)) hq12 ?_
    by_cases hc16 : r15 = 0
    · rw [if_pos hc16] at h
      refine Q.map (A.zT (gI_of zm88 (e := (40, 3, .ifCond .eq 67, [53])) rfl) (decide_eq_true hc16)) ?_
      cases h
      exact Q.ret (A.rv zm88 (show zM88.2.2.2.2.2[53]? = some (107, 1, .return_, []) from rfl) rfl) hq12.1
    · rw [if_neg hc16] at h
      refine Q.map (A.zF (gI_of zm88 (e := (40, 3, .ifCond .eq 67, [53])) rfl) (fun q => hc16 (of_decide_eq_true q))) ?_
      refine Q.run zm88 1 (i' := 20) (ls' := [some (.ref 106), none]) (st' := [.ref 106]) rfl ?_
      rcases vN_so h with ⟨hv17, h⟩ | ⟨b18, hv17, h⟩
      · refine Q.map (A.gf (gI_of zm88 (e := (44, 3, .getfield 48, [4, 6])) rfl) (hq12.1.lt (a := 106) (by decide)) (hq12.1.T (a := 106) (p := (4, 13)) 28 rfl rfl) (by decide) hv17) ?_
        cases h
      · obtain ⟨hr19, h⟩ := ite_so h
        refine Q.map (A.gf (gI_of zm88 (e := (44, 3, .getfield 48, [4, 6])) rfl) (hq12.1.lt (a := 106) (by decide)) (hq12.1.T (a := 106) (p := (4, 13)) 28 rfl rfl) (by decide) hv17) ?_
        obtain ⟨r22, hc21, h⟩ := bu_so h
        have hq20 : Q 1 sio tt cc d 94 0 [some (.ref b18)] [] s14 (.inl (some (.int r22)), s14) := dt94 (by omega) hq12.1 hr19 hc21
        refine Q.callI (gC_vi zm88 (show zM88.2.2.2.2.2[21]? = some (47, 3, .invokevirtual 116, [0, 94, 0, 3]) from rfl) zm94 hr19.1 (hq12.1.tr hr19).1 rfl (show aCr 0 b18 [.ref b18] 1 = some ([some (.ref b18)], []) from rfl)) hq20 ?_
        refine Q.run zm88 2 (i' := 24) (ls' := [some (.ref 106), some (.int r22)]) (st' := [.ref 106]) rfl ?_
        rcases vN_so h with ⟨hv23, h⟩ | ⟨b24, hv23, h⟩
        · refine Q.map (A.gf (gI_of zm88 (e := (52, 3, .getfield 48, [4, 6])) rfl) (hq12.1.lt (a := 106) (by decide)) (hq12.1.T (a := 106) (p := (4, 13)) 28 rfl rfl) (by decide) hv23) ?_
          refine Q.run zm88 3 (i' := 28) (ls' := [some (.ref 106), some (.int r22)]) (st' := [.int 0, .int 4, .int r22, .null]) rfl ?_
          cases h
        · obtain ⟨hr25, h⟩ := ite_so h
          refine Q.map (A.gf (gI_of zm88 (e := (52, 3, .getfield 48, [4, 6])) rfl) (hq12.1.lt (a := 106) (by decide)) (hq12.1.T (a := 106) (p := (4, 13)) 28 rfl rfl) (by decide) hv23) ?_
          refine Q.run zm88 3 (i' := 28) (ls' := [some (.ref 106), some (.int r22)]) (st' := [.int 0, .int 4, .int r22, .ref b24]) rfl ?_
          obtain ⟨s28, hc27, h⟩ := bu_so h
          have hq26 : Q 1 sio tt cc d 72 0 [some (.ref b24), some (.int r22), some (.int 4), some (.int 0), none] [] s14 (.inl none, s28) := dt72 (by omega) hq12.1 hr25 hc27
          refine Q.callV (gC_vi zm88 (show zM88.2.2.2.2.2[28]? = some (58, 3, .invokevirtual 150, [0, 72, 3, 3]) from rfl) zm72 hr25.1 (hq12.1.tr hr25).1 rfl (show aCr 3 b24 [.int 0, .int 4, .int r22, .ref b24] 5 = some ([some (.ref b24), some (.int r22), some (.int 4), some (.int 0), none], []) from rfl)) hq26 ?_
          have hr29 : aK s28 b18 3 := hq26.2.1.k hr19
          have hr30 : aK s28 b24 3 := hq26.2.1.k hr25
          refine Q.run zm88 1 (i' := 30) (ls' := [some (.ref 106), some (.int r22)]) (st' := [.ref 106]) rfl ?_
          rcases vN_so h with ⟨hv31, h⟩ | ⟨b32, hv31, h⟩
          · refine Q.map (A.gf (gI_of zm88 (e := (62, 3, .getfield 48, [4, 6])) rfl) (hq26.1.lt (a := 106) (by decide)) (hq26.1.T (a := 106) (p := (4, 13)) 28 rfl rfl) (by decide) hv31) ?_
            refine Q.run zm88 3 (i' := 34) (ls' := [some (.ref 106), some (.int r22)]) (st' := [.ref 106, .int 2, .int r22, .null]) rfl ?_
            refine Q.map (A.gf (gI_of zm88 (e := (68, 3, .getfield 274, [4, 12])) rfl) (hq26.1.lt (a := 106) (by decide)) (hq26.1.T (a := 106) (p := (4, 13)) 28 rfl rfl) (by decide) rfl) ?_
            cases h
          · obtain ⟨hr33, h⟩ := ite_so h
            refine Q.map (A.gf (gI_of zm88 (e := (62, 3, .getfield 48, [4, 6])) rfl) (hq26.1.lt (a := 106) (by decide)) (hq26.1.T (a := 106) (p := (4, 13)) 28 rfl rfl) (by decide) hv31) ?_
            refine Q.run zm88 3 (i' := 34) (ls' := [some (.ref 106), some (.int r22)]) (st' := [.ref 106, .int 2, .int r22, .ref b32]) rfl ?_
            refine Q.map (A.gf (gI_of zm88 (e := (68, 3, .getfield 274, [4, 12])) rfl) (hq26.1.lt (a := 106) (by decide)) (hq26.1.T (a := 106) (p := (4, 13)) 28 rfl rfl) (by decide) rfl) ?_
            obtain ⟨s36, hc35, h⟩ := bu_so h
            have hq34 : Q 1 sio tt cc d 60 0 [some (.ref b32), some (.int r22), some (.int 2), some (.int (sI s28 106 12))] [] s28 (.inl none, s36) := dt60 (by omega) hq26.1 hr33 hc35
            refine Q.callV (gC_vi zm88 (show zM88.2.2.2.2.2[35]? = some (71, 3, .invokevirtual 180, [0, 60, 3, 3]) from rfl) zm60 hr33.1 (hq26.1.tr hr33).1 rfl (show aCr 3 b32 [.int (sI s28 106 12), .int 2, .int r22, .ref b32] 4 = some ([some (.ref b32), some (.int r22), some (.int 2), some (.int (sI s28 106 12))], []) from rfl)) hq34 ?_
            have hr37 : aK s36 b18 3 := hq34.2.1.k hr29
            have hr38 : aK s36 b24 3 := hq34.2.1.k hr30
            have hr39 : aK s36 b32 3 := hq34.2.1.k hr33
            refine Q.run zm88 1 (i' := 37) (ls' := [some (.ref 106), some (.int r22)]) (st' := [.ref 106]) rfl ?_
            rcases vN_so h with ⟨hv40, h⟩ | ⟨b41, hv40, h⟩
            · refine Q.map (A.gf (gI_of zm88 (e := (75, 3, .getfield 48, [4, 6])) rfl) (hq34.1.lt (a := 106) (by decide)) (hq34.1.T (a := 106) (p := (4, 13)) 28 rfl rfl) (by decide) hv40) ?_
              refine Q.run zm88 2 (i' := 40) (ls' := [some (.ref 106), some (.int r22)]) (st' := [.ref 106, .int r22, .null]) rfl ?_
              refine Q.map (A.gf (gI_of zm88 (e := (80, 3, .getfield 23, [4, 3])) rfl) (hq34.1.lt (a := 106) (by decide)) (hq34.1.T (a := 106) (p := (4, 13)) 28 rfl rfl) (by decide) (hq34.1.R 11 rfl)) ?_
              cases h
            · obtain ⟨hr42, h⟩ := ite_so h
              refine Q.map (A.gf (gI_of zm88 (e := (75, 3, .getfield 48, [4, 6])) rfl) (hq34.1.lt (a := 106) (by decide)) (hq34.1.T (a := 106) (p := (4, 13)) 28 rfl rfl) (by decide) hv40) ?_
              refine Q.run zm88 2 (i' := 40) (ls' := [some (.ref 106), some (.int r22)]) (st' := [.ref 106, .int r22, .ref b41]) rfl ?_
              refine Q.map (A.gf (gI_of zm88 (e := (80, 3, .getfield 23, [4, 3])) rfl) (hq34.1.lt (a := 106) (by decide)) (hq34.1.T (a := 106) (p := (4, 13)) 28 rfl rfl) (by decide) (hq34.1.R 11 rfl)) ?_
              obtain ⟨s45, hc44, h⟩ := bu_so h
              have hq43 : Q 1 sio tt cc d 95 0 [some (.ref b41), some (.int r22), some (.ref 109)] [] s36 (.inl none, s45) := dt95 (by omega) hq34.1 hr42 hc44
              refine Q.callV (gC_vi zm88 (show zM88.2.2.2.2.2[41]? = some (83, 3, .invokevirtual 277, [0, 95, 2, 3]) from rfl) zm95 hr42.1 (hq34.1.tr hr42).1 rfl (show aCr 2 b41 [.ref 109, .int r22, .ref b41] 3 = some ([some (.ref b41), some (.int r22), some (.ref 109)], []) from rfl)) hq43 ?_
              have hr46 : aK s45 b18 3 := hq43.2.1.k hr37
              have hr47 : aK s45 b24 3 := hq43.2.1.k hr38
              have hr48 : aK s45 b32 3 := hq43.2.1.k hr39
              have hr49 : aK s45 b41 3 := hq43.2.1.k hr42
              refine Q.run zm88 2 (i' := 44) (ls' := [some (.ref 106), some (.int r22)]) (st' := [.int r22, .ref 106]) rfl ?_
              obtain ⟨s52, hc51, h⟩ := bu_so h
              have hq50 : Q 1 sio tt cc d 81 0 [some (.ref 106), some (.int r22)] [] s45 (.inl none, s52) := dt81 (by omega) hq43.1  hc51
              refine Q.callV (gC_vi zm88 (show zM88.2.2.2.2.2[44]? = some (88, 3, .invokevirtual 186, [0, 81, 1, 4]) from rfl) zm81 (hq43.1.lt (a := 106) (by decide)) (hq43.1.T (a := 106) (p := (4, 13)) 28 rfl rfl) rfl (show aCr 1 106 [.int r22, .ref 106] 2 = some ([some (.ref 106), some (.int r22)], []) from rfl)) hq50 ?_
              have hr53 : aK s52 b18 3 := hq50.2.1.k hr46
              have hr54 : aK s52 b24 3 := hq50.2.1.k hr47
              have hr55 : aK s52 b32 3 := hq50.2.1.k hr48
              have hr56 : aK s52 b41 3 := hq50.2.1.k hr49
              refine Q.run zm88 2 (i' := 47) (ls' := [some (.ref 106), some (.int r22)]) (st' := [.int 5, .ref 106]) rfl ?_
              obtain ⟨s57, hs58, h⟩ := nx_so h
              refine Q.pf hs58 rfl (gI_of zm88 (e := (93, 3, .putfield 68, [4, 9, 0])) rfl) (hq50.1.lt (a := 106) (by decide)) (by decide) (hq50.1.T (a := 106) (p := (4, 13)) 28 rfl rfl) (by decide) rfl rfl ?_
              have hl59 : Ly tt cc s57 := by rw [hs58]; exact hq50.1.wId (by decide)
              have hr60 : aK s57 b18 3 := by rw [hs58]; exact hr53
              have hr61 : aK s57 b24 3 := by rw [hs58]; exact hr54
              have hr62 : aK s57 b32 3 := by rw [hs58]; exact hr55
              have hr63 : aK s57 b41 3 := by rw [hs58]; exact hr56
              refine Q.run zm88 2 (i' := 50) (ls' := [some (.ref 106), some (.int r22)]) (st' := [.ref 106, .ref 106]) rfl ?_
              refine Q.map (A.gf (gI_of zm88 (e := (98, 3, .getfield 23, [4, 3])) rfl) (hl59.lt (a := 106) (by decide)) (hl59.T (a := 106) (p := (4, 13)) 28 rfl rfl) (by decide) (hl59.R 11 rfl)) ?_
              obtain ⟨r66, hc65, h⟩ := bu_so h
              have hq64 : Q 1 sio tt cc d 93 0 [some (.ref 109)] [] s57 (.inl (some (.int r66)), s57) := dt93 (by omega) hl59  hc65
              refine Q.callI (gC_vi zm88 (show zM88.2.2.2.2.2[51]? = some (101, 3, .invokevirtual 255, [0, 93, 0, 5]) from rfl) zm93 (hl59.lt (a := 109) (by decide)) (hl59.T (a := 109) (p := (5, 4)) 31 rfl rfl) rfl (show aCr 0 109 [.ref 109, .ref 106] 1 = some ([some (.ref 109)], [.ref 106]) from rfl)) hq64 ?_
              obtain ⟨s67, hs68, h⟩ := nx_so h
              refine Q.pf hs68 rfl (gI_of zm88 (e := (104, 3, .putfield 61, [4, 7, 0])) rfl) (hl59.lt (a := 106) (by decide)) (by decide) (hl59.T (a := 106) (p := (4, 13)) 28 rfl rfl) (by decide) rfl rfl ?_
              have hl69 : Ly tt cc s67 := by rw [hs68]; exact hl59.wId (by decide)
              have hr70 : aK s67 b18 3 := by rw [hs68]; exact hr60
              have hr71 : aK s67 b24 3 := by rw [hs68]; exact hr61
              have hr72 : aK s67 b32 3 := by rw [hs68]; exact hr62
              have hr73 : aK s67 b41 3 := by rw [hs68]; exact hr63
              cases h
              exact Q.ret (A.rv zm88 (show zM88.2.2.2.2.2[53]? = some (107, 1, .return_, []) from rfl) rfl) hl69
