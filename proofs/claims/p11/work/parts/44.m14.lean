/-! 213 FormulaTreesModel.columnOf(II)I -/
set_option maxRecDepth 100000 in
theorem zm213 : zP[213]? = some zM213 := rfl
def dm213_4 : Nat → Int32 → Int32 → Int32 → Int32 → aS → Option (Int32)
  | 0, _, _, _, _, _ => none
  | n + 1, x1, x2, x3, x4, s =>
    if x2 ≤ x4 then
      some x3
    else
      if 4 ≤ x4 then
        some x3
      else
        if aB (x1 + x4) 256 then
          bu (dm178 (sI s 122 (jN (x1 + x4)))) fun r6 =>
          dm213_4 n x1 x2 (((26 * x3) + r6) - 64) (x4 + 1) s
        else none
set_option maxRecDepth 100000 in
theorem dt213_4 {sio : Bool} {tt : Nat} {cc : Nat → Nat → Int32} {d : Nat} (hd : 1 ≤ d) : ∀ (n : Nat) {x1 : Int32} {x2 : Int32} {x3 : Int32} {x4 : Int32} {s : aS} (_ : Ly tt cc s) {o : Int32} (_ : dm213_4  n x1 x2 x3 x4 s = some o), Q 2 sio tt cc d 213 4 [some (.ref 121), some (.int x1), some (.int x2), some (.int x3), some (.int x4)] [] s (.inl (some (.int o)), s) := by
  obtain ⟨d, rfl⟩ : ∃ e, d = e + 1 := ⟨d - 1, by omega⟩
  intro n
  induction n with
  | zero => intro x1 x2 x3 x4 s hl o h; rw [dm213_4] at h; cases h
  | succ n ih =>
    intro x1 x2 x3 x4 s hl o h
    rw [dm213_4] at h
    refine Q.run zm213 2 (i' := 6) (ls' := [some (.ref 121), some (.int x1), some (.int x2), some (.int x3), some (.int x4)]) (st' := [.int x2, .int x4]) rfl ?_
    by_cases hc1 : x2 ≤ x4
    · rw [if_pos hc1] at h
      refine Q.map (A.bT (gI_of zm213 (e := (8, 3, .if_icmp .ge 36, [26])) rfl) (decide_eq_true hc1)) ?_
      refine Q.run zm213 1 (i' := 27) (ls' := [some (.ref 121), some (.int x1), some (.int x2), some (.int x3), some (.int x4)]) (st' := [.int x3]) rfl ?_
      cases h
      exact Q.ret (A.ri zm213 (show zM213.2.2.2.2.2[27]? = some (45, 1, .ireturn, []) from rfl) rfl rfl) hl
    · rw [if_neg hc1] at h
      refine Q.map (A.bF (gI_of zm213 (e := (8, 3, .if_icmp .ge 36, [26])) rfl) (fun q => hc1 (of_decide_eq_true q))) ?_
      refine Q.run zm213 2 (i' := 9) (ls' := [some (.ref 121), some (.int x1), some (.int x2), some (.int x3), some (.int x4)]) (st' := [.int 4, .int x4]) rfl ?_
      by_cases hc2 : 4 ≤ x4
      · rw [if_pos hc2] at h
        refine Q.map (A.bT (gI_of zm213 (e := (14, 3, .if_icmp .ge 30, [26])) rfl) (decide_eq_true hc2)) ?_
        refine Q.run zm213 1 (i' := 27) (ls' := [some (.ref 121), some (.int x1), some (.int x2), some (.int x3), some (.int x4)]) (st' := [.int x3]) rfl ?_
        cases h
        exact Q.ret (A.ri zm213 (show zM213.2.2.2.2.2[27]? = some (45, 1, .ireturn, []) from rfl) rfl rfl) hl
      · rw [if_neg hc2] at h
        refine Q.map (A.bF (gI_of zm213 (e := (14, 3, .if_icmp .ge 30, [26])) rfl) (fun q => hc2 (of_decide_eq_true q))) ?_
        refine Q.run zm213 4 (i' := 14) (ls' := [some (.ref 121), some (.int x1), some (.int x2), some (.int x3), some (.int x4)]) (st' := [.ref 121, .int (26 * x3)]) rfl ?_
        refine Q.map (A.gf (gI_of zm213 (e := (22, 3, .getfield 7, [9, 2])) rfl) (hl.lt (a := 121) (by decide)) (hl.T (a := 121) (p := (9, 45)) 43 rfl rfl) (by decide) (hl.R 23 rfl)) ?_
        refine Q.run zm213 3 (i' := 18) (ls' := [some (.ref 121), some (.int x1), some (.int x2), some (.int x3), some (.int x4)]) (st' := [.int (x1 + x4), .ref 122, .int (26 * x3)]) rfl ?_
        obtain ⟨hc3, h⟩ := ite_so h
        refine Q.map (A.ia (gI_of zm213 (e := (29, 1, .iaload, [])) rfl) (hl.lt (a := 122) (by decide)) (hl.T (a := 122) (p := (100, 256)) 44 rfl rfl) hc3) ?_
        obtain ⟨r6, hc5, h⟩ := bu_so h
        have hq4 : Q 2 sio tt cc d 178 0 [some (.int (sI s 122 (jN (x1 + x4))))] [] s (.inl (some (.int r6)), s) := dt178 (by omega) hl  hc5
        refine Q.callI (gC_st zm213 (show zM213.2.2.2.2.2[19]? = some (30, 3, .invokestatic 109, [0, 178, 1]) from rfl) zm178 (show aC 1 [.int (sI s 122 (jN (x1 + x4))), .int (26 * x3)] 1 = some ([some (.int (sI s 122 (jN (x1 + x4))))], [.int (26 * x3)]) from rfl)) hq4 ?_
        refine Q.run zm213 6 (i' := 4) (ls' := [some (.ref 121), some (.int x1), some (.int x2), some (.int (((26 * x3) + r6) - 64)), some (.int (x4 + 1))]) (st' := []) rfl ?_
        exact ih hl  h
def dm213 (x1 : Int32) (x2 : Int32) (s : aS) : Option (Int32) :=
  dm213_4 5000 x1 x2 0 0 s
set_option maxRecDepth 100000 in
theorem dt213 {sio : Bool} {tt : Nat} {cc : Nat → Nat → Int32} {d : Nat} (hd : 1 ≤ d) {x1 : Int32} {x2 : Int32} {s : aS} (hl : Ly tt cc s) {o : Int32} (h : dm213  x1 x2 s = some o) : Q 2 sio tt cc d 213 0 [some (.ref 121), some (.int x1), some (.int x2), none, none] [] s (.inl (some (.int o)), s) := by
  unfold dm213 at h
  obtain ⟨d, rfl⟩ : ∃ e, d = e + 1 := ⟨d - 1, by omega⟩
  refine Q.run zm213 4 (i' := 4) (ls' := [some (.ref 121), some (.int x1), some (.int x2), some (.int 0), some (.int 0)]) (st' := []) rfl ?_
  exact dt213_4 hd _ hl  h
/-! 214 FormulaTreesModel.isCell(II)Z -/
set_option maxRecDepth 100000 in
theorem zm214 : zP[214]? = some zM214 := rfl
def dm214_41 : Nat → Int32 → Int32 → Int32 → Int32 → Int32 → aS → Option (Int32 × aS)
  | 0, _, _, _, _, _, _ => none
  | n + 1, x1, x2, x3, x4, x5, s =>
    if x2 ≤ x5 then
      nx (wI s 121 41 0) fun s2 =>
      nx (wI s2 121 39 x4) fun s5 =>
      bu (dm213 x1 x3 s5) fun r10 =>
      nx (wI s5 121 40 r10) fun s11 =>
      if 1048576 < x4 then
        some (0, s11)
      else
        if 16384 < (sI s11 121 40) then
          some (0, s11)
        else
          some (1, s11)
    else
      if aB x5 256 then
        bu (dm196 (sI s 122 (jN x5))) fun r19 =>
        if r19 = 0 then
          some (0, s)
        else
          if aB x5 256 then
            dm214_41 n x1 x2 x3 (((10 * x4) + (sI s 122 (jN x5))) - 48) (x5 + 1) s
          else none
      else none
set_option maxRecDepth 100000 in
theorem dt214_41 {sio : Bool} {tt : Nat} {cc : Nat → Nat → Int32} {d : Nat} (hd : 2 ≤ d) : ∀ (n : Nat) {x1 : Int32} {x2 : Int32} {x3 : Int32} {x4 : Int32} {x5 : Int32} {s : aS} (_ : Ly tt cc s) {o : Int32 × aS} (_ : dm214_41  n x1 x2 x3 x4 x5 s = some o), Q 2 sio tt cc d 214 41 [some (.ref 121), some (.int x1), some (.int x2), some (.int x3), some (.int x4), some (.int x5)] [] s (.inl (some (.int o.1)), o.2) := by
  obtain ⟨d, rfl⟩ : ∃ e, d = e + 1 := ⟨d - 1, by omega⟩
  intro n
  induction n with
  | zero => intro x1 x2 x3 x4 x5 s hl o h; rw [dm214_41] at h; cases h
  | succ n ih =>
    intro x1 x2 x3 x4 x5 s hl o h
    rw [dm214_41] at h
    refine Q.run zm214 2 (i' := 43) (ls' := [some (.ref 121), some (.int x1), some (.int x2), some (.int x3), some (.int x4), some (.int x5)]) (st' := [.int x2, .int x5]) rfl ?_
    by_cases hc1 : x2 ≤ x5
    · rw [if_pos hc1] at h
      refine Q.map (A.bT (gI_of zm214 (e := (62, 3, .if_icmp .ge 42, [65])) rfl) (decide_eq_true hc1)) ?_
      refine Q.run zm214 2 (i' := 67) (ls' := [some (.ref 121), some (.int x1), some (.int x2), some (.int x3), some (.int x4), some (.int x5)]) (st' := [.int 0, .ref 121]) rfl ?_
      obtain ⟨s2, hs3, h⟩ := nx_so h
      refine Q.pf hs3 rfl (gI_of zm214 (e := (106, 3, .putfield 200, [9, 41, 0])) rfl) (hl.lt (a := 121) (by decide)) (by decide) (hl.T (a := 121) (p := (9, 45)) 43 rfl rfl) (by decide) rfl rfl ?_
      have hl4 : Ly tt cc s2 := by rw [hs3]; exact hl.wId (by decide)
      refine Q.run zm214 2 (i' := 70) (ls' := [some (.ref 121), some (.int x1), some (.int x2), some (.int x3), some (.int x4), some (.int x5)]) (st' := [.int x4, .ref 121]) rfl ?_
      obtain ⟨s5, hs6, h⟩ := nx_so h
      refine Q.pf hs6 rfl (gI_of zm214 (e := (112, 3, .putfield 206, [9, 39, 0])) rfl) (hl4.lt (a := 121) (by decide)) (by decide) (hl4.T (a := 121) (p := (9, 45)) 43 rfl rfl) (by decide) rfl rfl ?_
      have hl7 : Ly tt cc s5 := by rw [hs6]; exact hl4.wId (by decide)
      refine Q.run zm214 4 (i' := 75) (ls' := [some (.ref 121), some (.int x1), some (.int x2), some (.int x3), some (.int x4), some (.int x5)]) (st' := [.int x3, .int x1, .ref 121, .ref 121]) rfl ?_
      obtain ⟨r10, hc9, h⟩ := bu_so h
      have hq8 : Q 2 sio tt cc d 213 0 [some (.ref 121), some (.int x1), some (.int x3), none, none] [] s5 (.inl (some (.int r10)), s5) := dt213 (by omega) hl7  hc9
      refine Q.callI (gC_vi zm214 (show zM214.2.2.2.2.2[75]? = some (119, 3, .invokevirtual 225, [0, 213, 2, 9]) from rfl) zm213 (hl7.lt (a := 121) (by decide)) (hl7.T (a := 121) (p := (9, 45)) 43 rfl rfl) rfl (show aCr 2 121 [.int x3, .int x1, .ref 121, .ref 121] 5 = some ([some (.ref 121), some (.int x1), some (.int x3), none, none], [.ref 121]) from rfl)) hq8 ?_
      obtain ⟨s11, hs12, h⟩ := nx_so h
      refine Q.pf hs12 rfl (gI_of zm214 (e := (122, 3, .putfield 203, [9, 40, 0])) rfl) (hl7.lt (a := 121) (by decide)) (by decide) (hl7.T (a := 121) (p := (9, 45)) 43 rfl rfl) (by decide) rfl rfl ?_
      have hl13 : Ly tt cc s11 := by rw [hs12]; exact hl7.wId (by decide)
      refine Q.run zm214 2 (i' := 79) (ls' := [some (.ref 121), some (.int x1), some (.int x2), some (.int x3), some (.int x4), some (.int x5)]) (st' := [.int 1048576, .int x4]) rfl ?_
      by_cases hc14 : 1048576 < x4
      · rw [if_pos hc14] at h
        refine Q.map (A.bT (gI_of zm214 (e := (129, 3, .if_icmp .gt 17, [86])) rfl) (decide_eq_true hc14)) ?_
        refine Q.run zm214 1 (i' := 87) (ls' := [some (.ref 121), some (.int x1), some (.int x2), some (.int x3), some (.int x4), some (.int x5)]) (st' := [.int 0]) rfl ?_
        cases h
        exact Q.ret (A.ri zm214 (show zM214.2.2.2.2.2[87]? = some (147, 1, .ireturn, []) from rfl) rfl rfl) hl13
      · rw [if_neg hc14] at h
        refine Q.map (A.bF (gI_of zm214 (e := (129, 3, .if_icmp .gt 17, [86])) rfl) (fun q => hc14 (of_decide_eq_true q))) ?_
        refine Q.run zm214 1 (i' := 81) (ls' := [some (.ref 121), some (.int x1), some (.int x2), some (.int x3), some (.int x4), some (.int x5)]) (st' := [.ref 121]) rfl ?_
        refine Q.map (A.gf (gI_of zm214 (e := (133, 3, .getfield 203, [9, 40])) rfl) (hl13.lt (a := 121) (by decide)) (hl13.T (a := 121) (p := (9, 45)) 43 rfl rfl) (by decide) rfl) ?_
        refine Q.run zm214 1 (i' := 83) (ls' := [some (.ref 121), some (.int x1), some (.int x2), some (.int x3), some (.int x4), some (.int x5)]) (st' := [.int 16384, .int (sI s11 121 40)]) rfl ?_
        by_cases hc15 : 16384 < (sI s11 121 40)
        · rw [if_pos hc15] at h
          refine Q.map (A.bT (gI_of zm214 (e := (139, 3, .if_icmp .gt 7, [86])) rfl) (decide_eq_true hc15)) ?_
          refine Q.run zm214 1 (i' := 87) (ls' := [some (.ref 121), some (.int x1), some (.int x2), some (.int x3), some (.int x4), some (.int x5)]) (st' := [.int 0]) rfl ?_
          cases h
          exact Q.ret (A.ri zm214 (show zM214.2.2.2.2.2[87]? = some (147, 1, .ireturn, []) from rfl) rfl rfl) hl13
        · rw [if_neg hc15] at h
          refine Q.map (A.bF (gI_of zm214 (e := (139, 3, .if_icmp .gt 7, [86])) rfl) (fun q => hc15 (of_decide_eq_true q))) ?_
          refine Q.run zm214 2 (i' := 87) (ls' := [some (.ref 121), some (.int x1), some (.int x2), some (.int x3), some (.int x4), some (.int x5)]) (st' := [.int 1]) rfl ?_
          cases h
          exact Q.ret (A.ri zm214 (show zM214.2.2.2.2.2[87]? = some (147, 1, .ireturn, []) from rfl) rfl rfl) hl13
    · rw [if_neg hc1] at h
      refine Q.map (A.bF (gI_of zm214 (e := (62, 3, .if_icmp .ge 42, [65])) rfl) (fun q => hc1 (of_decide_eq_true q))) ?_
      refine Q.run zm214 1 (i' := 45) (ls' := [some (.ref 121), some (.int x1), some (.int x2), some (.int x3), some (.int x4), some (.int x5)]) (st' := [.ref 121]) rfl ?_
      refine Q.map (A.gf (gI_of zm214 (e := (66, 3, .getfield 7, [9, 2])) rfl) (hl.lt (a := 121) (by decide)) (hl.T (a := 121) (p := (9, 45)) 43 rfl rfl) (by decide) (hl.R 23 rfl)) ?_
      refine Q.run zm214 1 (i' := 47) (ls' := [some (.ref 121), some (.int x1), some (.int x2), some (.int x3), some (.int x4), some (.int x5)]) (st' := [.int x5, .ref 122]) rfl ?_
      obtain ⟨hc16, h⟩ := ite_so h
      refine Q.map (A.ia (gI_of zm214 (e := (71, 1, .iaload, [])) rfl) (hl.lt (a := 122) (by decide)) (hl.T (a := 122) (p := (100, 256)) 44 rfl rfl) hc16) ?_
      obtain ⟨r19, hc18, h⟩ := bu_so h
      have hq17 : Q 2 sio tt cc d 196 0 [some (.int (sI s 122 (jN x5)))] [] s (.inl (some (.int r19)), s) := dt196 (by omega) hl  hc18
      refine Q.callI (gC_st zm214 (show zM214.2.2.2.2.2[48]? = some (72, 3, .invokestatic 100, [0, 196, 1]) from rfl) zm196 (show aC 1 [.int (sI s 122 (jN x5))] 1 = some ([some (.int (sI s 122 (jN x5)))], []) from rfl)) hq17 ?_
      by_cases hc20 : r19 = 0
      · rw [if_pos hc20] at h
        refine Q.map (A.zF (gI_of zm214 (e := (75, 3, .ifCond .ne 5, [52])) rfl) (fun q => of_decide_eq_true q hc20)) ?_
        refine Q.run zm214 1 (i' := 51) (ls' := [some (.ref 121), some (.int x1), some (.int x2), some (.int x3), some (.int x4), some (.int x5)]) (st' := [.int 0]) rfl ?_
        cases h
        exact Q.ret (A.ri zm214 (show zM214.2.2.2.2.2[51]? = some (79, 1, .ireturn, []) from rfl) rfl rfl) hl
      · rw [if_neg hc20] at h
        refine Q.map (A.zT (gI_of zm214 (e := (75, 3, .ifCond .ne 5, [52])) rfl) (decide_eq_true hc20)) ?_
        refine Q.run zm214 4 (i' := 56) (ls' := [some (.ref 121), some (.int x1), some (.int x2), some (.int x3), some (.int x4), some (.int x5)]) (st' := [.ref 121, .int (10 * x4)]) rfl ?_
        refine Q.map (A.gf (gI_of zm214 (e := (86, 3, .getfield 7, [9, 2])) rfl) (hl.lt (a := 121) (by decide)) (hl.T (a := 121) (p := (9, 45)) 43 rfl rfl) (by decide) (hl.R 23 rfl)) ?_
        refine Q.run zm214 1 (i' := 58) (ls' := [some (.ref 121), some (.int x1), some (.int x2), some (.int x3), some (.int x4), some (.int x5)]) (st' := [.int x5, .ref 122, .int (10 * x4)]) rfl ?_
        obtain ⟨hc21, h⟩ := ite_so h
        refine Q.map (A.ia (gI_of zm214 (e := (91, 1, .iaload, [])) rfl) (hl.lt (a := 122) (by decide)) (hl.T (a := 122) (p := (100, 256)) 44 rfl rfl) hc21) ?_
        refine Q.run zm214 6 (i' := 41) (ls' := [some (.ref 121), some (.int x1), some (.int x2), some (.int x3), some (.int (((10 * x4) + (sI s 122 (jN x5))) - 48)), some (.int (x5 + 1))]) (st' := []) rfl ?_
        exact ih hl  h
def dm214 (x1 : Int32) (x2 : Int32) (s : aS) : Option (Int32 × aS) :=
  bu (dm212 x1 x2 s) fun r3 =>
  if r3 < 1 then
    some (0, s)
  else
    if 3 < r3 then
      some (0, s)
    else
      if ((x2 - x1) - r3) < 1 then
        some (0, s)
      else
        if 7 < ((x2 - x1) - r3) then
          some (0, s)
        else
          if aB (x1 + r3) 256 then
            if (sI s 122 (jN (x1 + r3))) = 48 then
              some (0, s)
            else
              dm214_41 5000 x1 x2 r3 0 (x1 + r3) s
          else none
set_option maxRecDepth 100000 in
theorem dt214 {sio : Bool} {tt : Nat} {cc : Nat → Nat → Int32} {d : Nat} (hd : 2 ≤ d) {x1 : Int32} {x2 : Int32} {s : aS} (hl : Ly tt cc s) {o : Int32 × aS} (h : dm214  x1 x2 s = some o) : Q 2 sio tt cc d 214 0 [some (.ref 121), some (.int x1), some (.int x2), none, none, none] [] s (.inl (some (.int o.1)), o.2) := by
  unfold dm214 at h
  obtain ⟨d, rfl⟩ : ∃ e, d = e + 1 := ⟨d - 1, by omega⟩
  refine Q.run zm214 3 (i' := 3) (ls' := [some (.ref 121), some (.int x1), some (.int x2), none, none, none]) (st' := [.int x2, .int x1, .ref 121]) rfl ?_
  obtain ⟨r3, hc2, h⟩ := bu_so h
  have hq1 : Q 2 sio tt cc d 212 0 [some (.ref 121), some (.int x1), some (.int x2), none] [] s (.inl (some (.int r3)), s) := dt212 (by omega) hl  hc2
  refine Q.callI (gC_vi zm214 (show zM214.2.2.2.2.2[3]? = some (3, 3, .invokevirtual 222, [0, 212, 2, 9]) from rfl) zm212 (hl.lt (a := 121) (by decide)) (hl.T (a := 121) (p := (9, 45)) 43 rfl rfl) rfl (show aCr 2 121 [.int x2, .int x1, .ref 121] 4 = some ([some (.ref 121), some (.int x1), some (.int x2), none], []) from rfl)) hq1 ?_
  refine Q.run zm214 3 (i' := 7) (ls' := [some (.ref 121), some (.int x1), some (.int x2), some (.int r3), none, none]) (st' := [.int 1, .int r3]) rfl ?_
  by_cases hc4 : r3 < 1
  · rw [if_pos hc4] at h
    refine Q.map (A.bT (gI_of zm214 (e := (9, 3, .if_icmp .lt 40, [33])) rfl) (decide_eq_true hc4)) ?_
    refine Q.run zm214 1 (i' := 34) (ls' := [some (.ref 121), some (.int x1), some (.int x2), some (.int r3), none, none]) (st' := [.int 0]) rfl ?_
    cases h
    exact Q.ret (A.ri zm214 (show zM214.2.2.2.2.2[34]? = some (50, 1, .ireturn, []) from rfl) rfl rfl) hl
  · rw [if_neg hc4] at h
    refine Q.map (A.bF (gI_of zm214 (e := (9, 3, .if_icmp .lt 40, [33])) rfl) (fun q => hc4 (of_decide_eq_true q))) ?_
    refine Q.run zm214 2 (i' := 10) (ls' := [some (.ref 121), some (.int x1), some (.int x2), some (.int r3), none, none]) (st' := [.int 3, .int r3]) rfl ?_
    by_cases hc5 : 3 < r3
    · rw [if_pos hc5] at h
      refine Q.map (A.bT (gI_of zm214 (e := (14, 3, .if_icmp .gt 35, [33])) rfl) (decide_eq_true hc5)) ?_
      refine Q.run zm214 1 (i' := 34) (ls' := [some (.ref 121), some (.int x1), some (.int x2), some (.int r3), none, none]) (st' := [.int 0]) rfl ?_
      cases h
      exact Q.ret (A.ri zm214 (show zM214.2.2.2.2.2[34]? = some (50, 1, .ireturn, []) from rfl) rfl rfl) hl
    · rw [if_neg hc5] at h
      refine Q.map (A.bF (gI_of zm214 (e := (14, 3, .if_icmp .gt 35, [33])) rfl) (fun q => hc5 (of_decide_eq_true q))) ?_
      refine Q.run zm214 6 (i' := 17) (ls' := [some (.ref 121), some (.int x1), some (.int x2), some (.int r3), none, none]) (st' := [.int 1, .int ((x2 - x1) - r3)]) rfl ?_
      by_cases hc6 : ((x2 - x1) - r3) < 1
      · rw [if_pos hc6] at h
        refine Q.map (A.bT (gI_of zm214 (e := (23, 3, .if_icmp .lt 26, [33])) rfl) (decide_eq_true hc6)) ?_
        refine Q.run zm214 1 (i' := 34) (ls' := [some (.ref 121), some (.int x1), some (.int x2), some (.int r3), none, none]) (st' := [.int 0]) rfl ?_
        cases h
        exact Q.ret (A.ri zm214 (show zM214.2.2.2.2.2[34]? = some (50, 1, .ireturn, []) from rfl) rfl rfl) hl
      · rw [if_neg hc6] at h
        refine Q.map (A.bF (gI_of zm214 (e := (23, 3, .if_icmp .lt 26, [33])) rfl) (fun q => hc6 (of_decide_eq_true q))) ?_
        refine Q.run zm214 6 (i' := 24) (ls' := [some (.ref 121), some (.int x1), some (.int x2), some (.int r3), none, none]) (st' := [.int 7, .int ((x2 - x1) - r3)]) rfl ?_
        by_cases hc7 : 7 < ((x2 - x1) - r3)
        · rw [if_pos hc7] at h
          refine Q.map (A.bT (gI_of zm214 (e := (33, 3, .if_icmp .gt 16, [33])) rfl) (decide_eq_true hc7)) ?_
          refine Q.run zm214 1 (i' := 34) (ls' := [some (.ref 121), some (.int x1), some (.int x2), some (.int r3), none, none]) (st' := [.int 0]) rfl ?_
          cases h
          exact Q.ret (A.ri zm214 (show zM214.2.2.2.2.2[34]? = some (50, 1, .ireturn, []) from rfl) rfl rfl) hl
        · rw [if_neg hc7] at h
          refine Q.map (A.bF (gI_of zm214 (e := (33, 3, .if_icmp .gt 16, [33])) rfl) (fun q => hc7 (of_decide_eq_true q))) ?_
          refine Q.run zm214 1 (i' := 26) (ls' := [some (.ref 121), some (.int x1), some (.int x2), some (.int r3), none, none]) (st' := [.ref 121]) rfl ?_
          refine Q.map (A.gf (gI_of zm214 (e := (37, 3, .getfield 7, [9, 2])) rfl) (hl.lt (a := 121) (by decide)) (hl.T (a := 121) (p := (9, 45)) 43 rfl rfl) (by decide) (hl.R 23 rfl)) ?_
          refine Q.run zm214 3 (i' := 30) (ls' := [some (.ref 121), some (.int x1), some (.int x2), some (.int r3), none, none]) (st' := [.int (x1 + r3), .ref 122]) rfl ?_
          obtain ⟨hc8, h⟩ := ite_so h
          refine Q.map (A.ia (gI_of zm214 (e := (43, 1, .iaload, [])) rfl) (hl.lt (a := 122) (by decide)) (hl.T (a := 122) (p := (100, 256)) 44 rfl rfl) hc8) ?_
          refine Q.run zm214 1 (i' := 32) (ls' := [some (.ref 121), some (.int x1), some (.int x2), some (.int r3), none, none]) (st' := [.int 48, .int (sI s 122 (jN (x1 + r3)))]) rfl ?_
          by_cases hc9 : (sI s 122 (jN (x1 + r3))) = 48
          · rw [if_pos hc9] at h
            refine Q.map (A.bF (gI_of zm214 (e := (46, 3, .if_icmp .ne 5, [35])) rfl) (fun q => of_decide_eq_true q hc9)) ?_
            refine Q.run zm214 1 (i' := 34) (ls' := [some (.ref 121), some (.int x1), some (.int x2), some (.int r3), none, none]) (st' := [.int 0]) rfl ?_
            cases h
            exact Q.ret (A.ri zm214 (show zM214.2.2.2.2.2[34]? = some (50, 1, .ireturn, []) from rfl) rfl rfl) hl
          · rw [if_neg hc9] at h
            refine Q.map (A.bT (gI_of zm214 (e := (46, 3, .if_icmp .ne 5, [35])) rfl) (decide_eq_true hc9)) ?_
            refine Q.run zm214 6 (i' := 41) (ls' := [some (.ref 121), some (.int x1), some (.int x2), some (.int r3), some (.int 0), some (.int (x1 + r3))]) (st' := []) rfl ?_
            exact dt214_41 hd _ hl  h
/-! 215 FormulaTreesModel.isWord(IIJI)Z -/
set_option maxRecDepth 100000 in
theorem zm215 : zP[215]? = some zM215 := rfl
def dm215_39 (k11 : Int32 → Int64 → Int32 → Int32 → Int32 → aS → Option (Int32)) (x1 : Int32) (x3 : Int64) (x5 : Int32) (x7 : Int32) (y0 : Int32) (s : aS) : Option (Int32) :=
  k11 x1 x3 x5 y0 (x7 + 1) s
set_option maxRecDepth 100000 in
theorem dt215_39 {sio : Bool} {tt : Nat} {cc : Nat → Nat → Int32} {d : Nat} (hd : 1 ≤ d) {k11 : Int32 → Int64 → Int32 → Int32 → Int32 → aS → Option (Int32)} (hk11 : ∀ {x1 : Int32} {x3 : Int64} {x5 : Int32} {x6 : Int32} {x7 : Int32} {x2 : Int32} {s : aS}, Ly tt cc s → ∀ {o : Int32}, k11 x1 x3 x5 x6 x7 s = some o → Q 2 sio tt cc d 215 11 [some (.ref 121), some (.int x1), some (.int x2), some (.long x3), none, some (.int x5), some (.int x6), some (.int x7)] [] s (.inl (some (.int o)), s)) {x1 : Int32} {x3 : Int64} {x5 : Int32} {x7 : Int32} {y0 : Int32} {x2 : Int32} {x6 : Int32} {s : aS} (hl : Ly tt cc s) {o : Int32} (h : dm215_39 k11 x1 x3 x5 x7 y0 s = some o) : Q 2 sio tt cc d 215 39 [some (.ref 121), some (.int x1), some (.int x2), some (.long x3), none, some (.int x5), some (.int x6), some (.int x7)] [.int y0] s (.inl (some (.int o)), s) := by
  unfold dm215_39 at h
  obtain ⟨d, rfl⟩ : ∃ e, d = e + 1 := ⟨d - 1, by omega⟩
  refine Q.run zm215 3 (i' := 11) (ls' := [some (.ref 121), some (.int x1), some (.int x2), some (.long x3), none, some (.int x5), some (.int y0), some (.int (x7 + 1))]) (st' := []) rfl ?_
  exact hk11 hl  h
def dm215_11 : Nat → Int32 → Int64 → Int32 → Int32 → Int32 → aS → Option (Int32)
  | 0, _, _, _, _, _, _ => none
  | n + 1, x1, x3, x5, x6, x7, s =>
    if x5 ≤ x7 then
      if x6 = 0 ∨ x6 = 1 then
        some x6
      else none
    else
      if x6 = 0 then
        if x6 = 0 ∨ x6 = 1 then
          some x6
        else none
      else
        if aB (x1 + x7) 256 then
          bu (dm178 (sI s 122 (jN (x1 + x7)))) fun r8 =>
          if r8 = (((x3 >>> ((8 * ((x5 - 1) - x7)).toInt64 &&& 63)) &&& 255).toInt32) then
            dm215_39 (dm215_11 n) x1 x3 x5 x7 1 s
          else
            dm215_39 (dm215_11 n) x1 x3 x5 x7 0 s
        else none
set_option maxRecDepth 100000 in
theorem dt215_11 {sio : Bool} {tt : Nat} {cc : Nat → Nat → Int32} {d : Nat} (hd : 1 ≤ d) : ∀ (n : Nat) {x1 : Int32} {x3 : Int64} {x5 : Int32} {x6 : Int32} {x7 : Int32} {x2 : Int32} {s : aS} (_ : Ly tt cc s) {o : Int32} (_ : dm215_11  n x1 x3 x5 x6 x7 s = some o), Q 2 sio tt cc d 215 11 [some (.ref 121), some (.int x1), some (.int x2), some (.long x3), none, some (.int x5), some (.int x6), some (.int x7)] [] s (.inl (some (.int o)), s) := by
  obtain ⟨d, rfl⟩ : ∃ e, d = e + 1 := ⟨d - 1, by omega⟩
  intro n
  induction n with
  | zero => intro x1 x3 x5 x6 x7 x2 s hl o h; rw [dm215_11] at h; cases h
  | succ n ih =>
    intro x1 x3 x5 x6 x7 x2 s hl o h
    rw [dm215_11] at h
    refine Q.run zm215 2 (i' := 13) (ls' := [some (.ref 121), some (.int x1), some (.int x2), some (.long x3), none, some (.int x5), some (.int x6), some (.int x7)]) (st' := [.int x5, .int x7]) rfl ?_
    by_cases hc1 : x5 ≤ x7
    · rw [if_pos hc1] at h
      refine Q.map (A.bT (gI_of zm215 (e := (22, 3, .if_icmp .ge 53, [42])) rfl) (decide_eq_true hc1)) ?_
      refine Q.run zm215 1 (i' := 43) (ls' := [some (.ref 121), some (.int x1), some (.int x2), some (.long x3), none, some (.int x5), some (.int x6), some (.int x7)]) (st' := [.int x6]) rfl ?_
      obtain ⟨hc2, h⟩ := ite_so h
      cases h
      exact Q.ret (A.ri zm215 (show zM215.2.2.2.2.2[43]? = some (77, 1, .ireturn, []) from rfl) rfl (fit1 hc2)) hl
    · rw [if_neg hc1] at h
      refine Q.map (A.bF (gI_of zm215 (e := (22, 3, .if_icmp .ge 53, [42])) rfl) (fun q => hc1 (of_decide_eq_true q))) ?_
      refine Q.run zm215 1 (i' := 15) (ls' := [some (.ref 121), some (.int x1), some (.int x2), some (.long x3), none, some (.int x5), some (.int x6), some (.int x7)]) (st' := [.int x6]) rfl ?_
      by_cases hc3 : x6 = 0
      · rw [if_pos hc3] at h
        refine Q.map (A.zT (gI_of zm215 (e := (27, 3, .ifCond .eq 48, [42])) rfl) (decide_eq_true hc3)) ?_
        refine Q.run zm215 1 (i' := 43) (ls' := [some (.ref 121), some (.int x1), some (.int x2), some (.long x3), none, some (.int x5), some (.int x6), some (.int x7)]) (st' := [.int x6]) rfl ?_
        obtain ⟨hc4, h⟩ := ite_so h
        cases h
        exact Q.ret (A.ri zm215 (show zM215.2.2.2.2.2[43]? = some (77, 1, .ireturn, []) from rfl) rfl (fit1 hc4)) hl
      · rw [if_neg hc3] at h
        refine Q.map (A.zF (gI_of zm215 (e := (27, 3, .ifCond .eq 48, [42])) rfl) (fun q => hc3 (of_decide_eq_true q))) ?_
        refine Q.run zm215 1 (i' := 17) (ls' := [some (.ref 121), some (.int x1), some (.int x2), some (.long x3), none, some (.int x5), some (.int x6), some (.int x7)]) (st' := [.ref 121]) rfl ?_
        refine Q.map (A.gf (gI_of zm215 (e := (31, 3, .getfield 7, [9, 2])) rfl) (hl.lt (a := 121) (by decide)) (hl.T (a := 121) (p := (9, 45)) 43 rfl rfl) (by decide) (hl.R 23 rfl)) ?_
        refine Q.run zm215 3 (i' := 21) (ls' := [some (.ref 121), some (.int x1), some (.int x2), some (.long x3), none, some (.int x5), some (.int x6), some (.int x7)]) (st' := [.int (x1 + x7), .ref 122]) rfl ?_
        obtain ⟨hc5, h⟩ := ite_so h
        refine Q.map (A.ia (gI_of zm215 (e := (38, 1, .iaload, [])) rfl) (hl.lt (a := 122) (by decide)) (hl.T (a := 122) (p := (100, 256)) 44 rfl rfl) hc5) ?_
        obtain ⟨r8, hc7, h⟩ := bu_so h
        have hq6 : Q 2 sio tt cc d 178 0 [some (.int (sI s 122 (jN (x1 + x7))))] [] s (.inl (some (.int r8)), s) := dt178 (by omega) hl  hc7
        refine Q.callI (gC_st zm215 (show zM215.2.2.2.2.2[22]? = some (39, 3, .invokestatic 109, [0, 178, 1]) from rfl) zm178 (show aC 1 [.int (sI s 122 (jN (x1 + x7)))] 1 = some ([some (.int (sI s 122 (jN (x1 + x7))))], []) from rfl)) hq6 ?_
        refine Q.run zm215 12 (i' := 35) (ls' := [some (.ref 121), some (.int x1), some (.int x2), some (.long x3), none, some (.int x5), some (.int x6), some (.int x7)]) (st' := [.int (((x3 >>> ((8 * ((x5 - 1) - x7)).toInt64 &&& 63)) &&& 255).toInt32), .int r8]) rfl ?_
        by_cases hc9 : r8 = (((x3 >>> ((8 * ((x5 - 1) - x7)).toInt64 &&& 63)) &&& 255).toInt32)
        · rw [if_pos hc9] at h
          refine Q.map (A.bF (gI_of zm215 (e := (59, 3, .if_icmp .ne 7, [38])) rfl) (fun q => of_decide_eq_true q hc9)) ?_
          refine Q.run zm215 2 (i' := 39) (ls' := [some (.ref 121), some (.int x1), some (.int x2), some (.long x3), none, some (.int x5), some (.int x6), some (.int x7)]) (st' := [.int 1]) rfl ?_
          exact dt215_39 hd ih hl  h
        · rw [if_neg hc9] at h
          refine Q.map (A.bT (gI_of zm215 (e := (59, 3, .if_icmp .ne 7, [38])) rfl) (decide_eq_true hc9)) ?_
          refine Q.run zm215 1 (i' := 39) (ls' := [some (.ref 121), some (.int x1), some (.int x2), some (.long x3), none, some (.int x5), some (.int x6), some (.int x7)]) (st' := [.int 0]) rfl ?_
          exact dt215_39 hd ih hl  h
def dm215_8 (x1 : Int32) (x3 : Int64) (x5 : Int32) (y0 : Int32) (s : aS) : Option (Int32) :=
  dm215_11 5000 x1 x3 x5 y0 0 s
set_option maxRecDepth 100000 in
theorem dt215_8 {sio : Bool} {tt : Nat} {cc : Nat → Nat → Int32} {d : Nat} (hd : 1 ≤ d) {x1 : Int32} {x3 : Int64} {x5 : Int32} {y0 : Int32} {x2 : Int32} {s : aS} (hl : Ly tt cc s) {o : Int32} (h : dm215_8  x1 x3 x5 y0 s = some o) : Q 2 sio tt cc d 215 8 [some (.ref 121), some (.int x1), some (.int x2), some (.long x3), none, some (.int x5), none, none] [.int y0] s (.inl (some (.int o)), s) := by
  unfold dm215_8 at h
  obtain ⟨d, rfl⟩ : ∃ e, d = e + 1 := ⟨d - 1, by omega⟩
  refine Q.run zm215 3 (i' := 11) (ls' := [some (.ref 121), some (.int x1), some (.int x2), some (.long x3), none, some (.int x5), some (.int y0), some (.int 0)]) (st' := []) rfl ?_
  exact dt215_11 hd _ hl  h
def dm215 (x1 : Int32) (x2 : Int32) (x3 : Int64) (x5 : Int32) (s : aS) : Option (Int32) :=
  if (x2 - x1) = x5 then
    dm215_8 x1 x3 x5 1 s
  else
    dm215_8 x1 x3 x5 0 s
set_option maxRecDepth 100000 in
theorem dt215 {sio : Bool} {tt : Nat} {cc : Nat → Nat → Int32} {d : Nat} (hd : 1 ≤ d) {x1 : Int32} {x2 : Int32} {x3 : Int64} {x5 : Int32} {s : aS} (hl : Ly tt cc s) {o : Int32} (h : dm215  x1 x2 x3 x5 s = some o) : Q 2 sio tt cc d 215 0 [some (.ref 121), some (.int x1), some (.int x2), some (.long x3), none, some (.int x5), none, none] [] s (.inl (some (.int o)), s) := by
  unfold dm215 at h
  obtain ⟨d, rfl⟩ : ∃ e, d = e + 1 := ⟨d - 1, by omega⟩
  refine Q.run zm215 4 (i' := 4) (ls' := [some (.ref 121), some (.int x1), some (.int x2), some (.long x3), none, some (.int x5), none, none]) (st' := [.int x5, .int (x2 - x1)]) rfl ?_
  by_cases hc1 : (x2 - x1) = x5
  · rw [if_pos hc1] at h
    refine Q.map (A.bF (gI_of zm215 (e := (5, 3, .if_icmp .ne 7, [7])) rfl) (fun q => of_decide_eq_true q hc1)) ?_
    refine Q.run zm215 2 (i' := 8) (ls' := [some (.ref 121), some (.int x1), some (.int x2), some (.long x3), none, some (.int x5), none, none]) (st' := [.int 1]) rfl ?_
    exact dt215_8 hd hl  h
  · rw [if_neg hc1] at h
    refine Q.map (A.bT (gI_of zm215 (e := (5, 3, .if_icmp .ne 7, [7])) rfl) (decide_eq_true hc1)) ?_
    refine Q.run zm215 1 (i' := 8) (ls' := [some (.ref 121), some (.int x1), some (.int x2), some (.long x3), none, some (.int x5), none, none]) (st' := [.int 0]) rfl ?_
    exact dt215_8 hd hl  h
/-! 210 FormulaTreesModel.readWord()V -/
set_option maxRecDepth 100000 in
theorem zm210 : zP[210]? = some zM210 := rfl
def dm210_183 (x5 : Int32) (s : aS) : Option (aS) :=
  bu (dm194 x5 s) fun s3 =>
  some s3
set_option maxRecDepth 100000 in
theorem dt210_183 {sio : Bool} {tt : Nat} {cc : Nat → Nat → Int32} {d : Nat} (hd : 4 ≤ d) {x5 : Int32} {x1 : Int32} {x2 : Int32} {x3 : Int32} {x4 : Int32} {s : aS} (hl : Ly tt cc s) {o : aS} (h : dm210_183  x5 s = some o) : Q 2 sio tt cc d 210 183 [some (.ref 121), some (.int x1), some (.int x2), some (.int x3), some (.int x4), some (.int x5)] [] s (.inl none, o) := by
  unfold dm210_183 at h
  obtain ⟨d, rfl⟩ : ∃ e, d = e + 1 := ⟨d - 1, by omega⟩
  refine Q.run zm210 2 (i' := 185) (ls' := [some (.ref 121), some (.int x1), some (.int x2), some (.int x3), some (.int x4), some (.int x5)]) (st' := [.int x5, .ref 121]) rfl ?_
  obtain ⟨s3, hc2, h⟩ := bu_so h
  have hq1 : Q 2 sio tt cc d 194 0 [some (.ref 121), some (.int x5)] [] s (.inl none, s3) := dt194 (by omega) hl  hc2
  refine Q.callV (gC_vi zm210 (show zM210.2.2.2.2.2[185]? = some (333, 3, .invokevirtual 161, [0, 194, 1, 9]) from rfl) zm194 (hl.lt (a := 121) (by decide)) (hl.T (a := 121) (p := (9, 45)) 43 rfl rfl) rfl (show aCr 1 121 [.int x5, .ref 121] 2 = some ([some (.ref 121), some (.int x5)], []) from rfl)) hq1 ?_
  cases h
  exact Q.ret (A.rv zm210 (show zM210.2.2.2.2.2[186]? = some (336, 1, .return_, []) from rfl) rfl) hq1.1
def dm210_65 (s : aS) : Option (aS) :=
  some s
set_option maxRecDepth 100000 in
theorem dt210_65 {sio : Bool} {tt : Nat} {cc : Nat → Nat → Int32} {d : Nat} (hd : 4 ≤ d) {x1 : Int32} {x2 : Int32} {x3 : Int32} {s : aS} (hl : Ly tt cc s) {o : aS} (h : dm210_65  s = some o) : Q 2 sio tt cc d 210 65 [some (.ref 121), some (.int x1), some (.int x2), some (.int x3), none, none] [] s (.inl none, o) := by
  unfold dm210_65 at h
  obtain ⟨d, rfl⟩ : ∃ e, d = e + 1 := ⟨d - 1, by omega⟩
  refine Q.run zm210 1 (i' := 186) (ls' := [some (.ref 121), some (.int x1), some (.int x2), some (.int x3), none, none]) (st' := []) rfl ?_
  cases h
  exact Q.ret (A.rv zm210 (show zM210.2.2.2.2.2[186]? = some (336, 1, .return_, []) from rfl) rfl) hl
def dm210_53 (x2 : Int32) (s : aS) : Option (aS) :=
  bu (dm186 x2 s) fun s3 =>
  some s3
set_option maxRecDepth 100000 in
theorem dt210_53 {sio : Bool} {tt : Nat} {cc : Nat → Nat → Int32} {d : Nat} (hd : 4 ≤ d) {x2 : Int32} {x1 : Int32} {x3 : Int32} {s : aS} (hl : Ly tt cc s) {o : aS} (h : dm210_53  x2 s = some o) : Q 2 sio tt cc d 210 53 [some (.ref 121), some (.int x1), some (.int x2), some (.int x3), none, none] [] s (.inl none, o) := by
  unfold dm210_53 at h
  obtain ⟨d, rfl⟩ : ∃ e, d = e + 1 := ⟨d - 1, by omega⟩
  refine Q.run zm210 2 (i' := 55) (ls' := [some (.ref 121), some (.int x1), some (.int x2), some (.int x3), none, none]) (st' := [.int x2, .ref 121]) rfl ?_
  obtain ⟨s3, hc2, h⟩ := bu_so h
  have hq1 : Q 2 sio tt cc d 186 0 [some (.ref 121), some (.int x2)] [] s (.inl none, s3) := dt186 (by omega) hl  hc2
  refine Q.callV (gC_vi zm210 (show zM210.2.2.2.2.2[55]? = some (98, 3, .invokevirtual 164, [0, 186, 1, 9]) from rfl) zm186 (hl.lt (a := 121) (by decide)) (hl.T (a := 121) (p := (9, 45)) 43 rfl rfl) rfl (show aCr 1 121 [.int x2, .ref 121] 2 = some ([some (.ref 121), some (.int x2)], []) from rfl)) hq1 ?_
  cases h
  exact Q.ret (A.rv zm210 (show zM210.2.2.2.2.2[56]? = some (101, 1, .return_, []) from rfl) rfl) hq1.1
def dm210_173 (x1 : Int32) (x3 : Int32) (x4 : Int32) (x5 : Int32) (y1 : Int32) (y2 : Int32) (s : aS) : Option (aS) :=
  if aB y1 1152 then
    nx (wI s 136 (jN y1) y2) fun s2 =>
    if x3 = 0 then
      if x4 = 0 then
        bu (dm200 x5 x1 1 s2) fun s9 =>
        dm210_183 x5 s9
      else
        dm210_183 x5 s2
    else
      dm210_183 x5 s2
  else none
set_option maxRecDepth 100000 in
theorem dt210_173 {sio : Bool} {tt : Nat} {cc : Nat → Nat → Int32} {d : Nat} (hd : 4 ≤ d) {x1 : Int32} {x3 : Int32} {x4 : Int32} {x5 : Int32} {y1 : Int32} {y2 : Int32} {x2 : Int32} {s : aS} (hl : Ly tt cc s) {o : aS} (h : dm210_173  x1 x3 x4 x5 y1 y2 s = some o) : Q 2 sio tt cc d 210 173 [some (.ref 121), some (.int x1), some (.int x2), some (.int x3), some (.int x4), some (.int x5)] [.int y2, .int y1, .ref 136] s (.inl none, o) := by
  unfold dm210_173 at h
  obtain ⟨d, rfl⟩ : ∃ e, d = e + 1 := ⟨d - 1, by omega⟩
  obtain ⟨hc1, h⟩ := ite_so h
  obtain ⟨s2, hs3, h⟩ := nx_so h
  refine Q.is hs3 rfl (gI_of zm210 (e := (312, 1, .iastore, [])) rfl) (hl.lt (a := 136) (by decide)) (by decide) (hl.T (a := 136) (p := (100, 1152)) 58 rfl rfl) hc1 ?_
  have hl4 : Ly tt cc s2 := by rw [hs3]; exact hl.wId (by decide)
  refine Q.run zm210 1 (i' := 175) (ls' := [some (.ref 121), some (.int x1), some (.int x2), some (.int x3), some (.int x4), some (.int x5)]) (st' := [.int x3]) rfl ?_
  by_cases hc5 : x3 = 0
  · rw [if_pos hc5] at h
    refine Q.map (A.zF (gI_of zm210 (e := (314, 3, .ifCond .ne 16, [183])) rfl) (fun q => of_decide_eq_true q hc5)) ?_
    refine Q.run zm210 1 (i' := 177) (ls' := [some (.ref 121), some (.int x1), some (.int x2), some (.int x3), some (.int x4), some (.int x5)]) (st' := [.int x4]) rfl ?_
    by_cases hc6 : x4 = 0
    · rw [if_pos hc6] at h
      refine Q.map (A.zF (gI_of zm210 (e := (319, 3, .ifCond .ne 11, [183])) rfl) (fun q => of_decide_eq_true q hc6)) ?_
      refine Q.run zm210 4 (i' := 182) (ls' := [some (.ref 121), some (.int x1), some (.int x2), some (.int x3), some (.int x4), some (.int x5)]) (st' := [.int 1, .int x1, .int x5, .ref 121]) rfl ?_
      obtain ⟨s9, hc8, h⟩ := bu_so h
      have hq7 : Q 2 sio tt cc d 200 0 [some (.ref 121), some (.int x5), some (.int x1), some (.int 1), none] [] s2 (.inl none, s9) := dt200 (by omega) hl4  hc8
      refine Q.callV (gC_vi zm210 (show zM210.2.2.2.2.2[182]? = some (327, 3, .invokevirtual 170, [0, 200, 3, 9]) from rfl) zm200 (hl4.lt (a := 121) (by decide)) (hl4.T (a := 121) (p := (9, 45)) 43 rfl rfl) rfl (show aCr 3 121 [.int 1, .int x1, .int x5, .ref 121] 5 = some ([some (.ref 121), some (.int x5), some (.int x1), some (.int 1), none], []) from rfl)) hq7 ?_
      exact dt210_183 hd hq7.1  h
    · rw [if_neg hc6] at h
      refine Q.map (A.zT (gI_of zm210 (e := (319, 3, .ifCond .ne 11, [183])) rfl) (decide_eq_true hc6)) ?_
      exact dt210_183 hd hl4  h
  · rw [if_neg hc5] at h
    refine Q.map (A.zT (gI_of zm210 (e := (314, 3, .ifCond .ne 16, [183])) rfl) (decide_eq_true hc5)) ?_
    exact dt210_183 hd hl4  h
def dm210_161 (x1 : Int32) (x3 : Int32) (x4 : Int32) (y1 : Int32) (s : aS) : Option (aS) :=
  bv (dm187 y1 s) fun r4 s3 =>
  if x3 = 0 then
    dm210_173 x1 x3 x4 r4 (1024 + r4) 0 s3
  else
    dm210_173 x1 x3 x4 r4 (1024 + r4) 1 s3
set_option maxRecDepth 100000 in
theorem dt210_161 {sio : Bool} {tt : Nat} {cc : Nat → Nat → Int32} {d : Nat} (hd : 4 ≤ d) {x1 : Int32} {x3 : Int32} {x4 : Int32} {y1 : Int32} {x2 : Int32} {s : aS} (hl : Ly tt cc s) {o : aS} (h : dm210_161  x1 x3 x4 y1 s = some o) : Q 2 sio tt cc d 210 161 [some (.ref 121), some (.int x1), some (.int x2), some (.int x3), some (.int x4), none] [.int y1, .ref 121] s (.inl none, o) := by
  unfold dm210_161 at h
  obtain ⟨d, rfl⟩ : ∃ e, d = e + 1 := ⟨d - 1, by omega⟩
  obtain ⟨r4, s3, hc2, h⟩ := bv_so h
  have hq1 : Q 2 sio tt cc d 187 0 [some (.ref 121), some (.int y1), none, none] [] s (.inl (some (.int r4)), s3) := dt187 (by omega) hl  hc2
  refine Q.callI (gC_vi zm210 (show zM210.2.2.2.2.2[161]? = some (288, 3, .invokevirtual 167, [0, 187, 1, 9]) from rfl) zm187 (hl.lt (a := 121) (by decide)) (hl.T (a := 121) (p := (9, 45)) 43 rfl rfl) rfl (show aCr 1 121 [.int y1, .ref 121] 4 = some ([some (.ref 121), some (.int y1), none, none], []) from rfl)) hq1 ?_
  refine Q.run zm210 2 (i' := 164) (ls' := [some (.ref 121), some (.int x1), some (.int x2), some (.int x3), some (.int x4), some (.int r4)]) (st' := [.ref 121]) rfl ?_
  refine Q.map (A.gf (gI_of zm210 (e := (294, 3, .getfield 53, [9, 17])) rfl) (hq1.1.lt (a := 121) (by decide)) (hq1.1.T (a := 121) (p := (9, 45)) 43 rfl rfl) (by decide) (hq1.1.R 37 rfl)) ?_
  refine Q.run zm210 4 (i' := 169) (ls' := [some (.ref 121), some (.int x1), some (.int x2), some (.int x3), some (.int x4), some (.int r4)]) (st' := [.int x3, .int (1024 + r4), .ref 136]) rfl ?_
  by_cases hc5 : x3 = 0
  · rw [if_pos hc5] at h
    refine Q.map (A.zT (gI_of zm210 (e := (304, 3, .ifCond .eq 7, [172])) rfl) (decide_eq_true hc5)) ?_
    refine Q.run zm210 1 (i' := 173) (ls' := [some (.ref 121), some (.int x1), some (.int x2), some (.int x3), some (.int x4), some (.int r4)]) (st' := [.int 0, .int (1024 + r4), .ref 136]) rfl ?_
    exact dt210_173 hd hq1.1  h
  · rw [if_neg hc5] at h
    refine Q.map (A.zF (gI_of zm210 (e := (304, 3, .ifCond .eq 7, [172])) rfl) (fun q => hc5 (of_decide_eq_true q))) ?_
    refine Q.run zm210 2 (i' := 173) (ls' := [some (.ref 121), some (.int x1), some (.int x2), some (.int x3), some (.int x4), some (.int r4)]) (st' := [.int 1, .int (1024 + r4), .ref 136]) rfl ?_
    exact dt210_173 hd hq1.1  h
def dm210_158 (x1 : Int32) (x3 : Int32) (x4 : Int32) (s : aS) : Option (aS) :=
  dm210_161 x1 x3 x4 3 s
set_option maxRecDepth 100000 in
theorem dt210_158 {sio : Bool} {tt : Nat} {cc : Nat → Nat → Int32} {d : Nat} (hd : 4 ≤ d) {x1 : Int32} {x3 : Int32} {x4 : Int32} {x2 : Int32} {s : aS} (hl : Ly tt cc s) {o : aS} (h : dm210_158  x1 x3 x4 s = some o) : Q 2 sio tt cc d 210 158 [some (.ref 121), some (.int x1), some (.int x2), some (.int x3), some (.int x4), none] [.ref 121] s (.inl none, o) := by
  unfold dm210_158 at h
  obtain ⟨d, rfl⟩ : ∃ e, d = e + 1 := ⟨d - 1, by omega⟩
  refine Q.run zm210 2 (i' := 161) (ls' := [some (.ref 121), some (.int x1), some (.int x2), some (.int x3), some (.int x4), none]) (st' := [.int 3, .ref 121]) rfl ?_
  exact dt210_161 hd hl  h
def dm210_3 : Nat → Int32 → aS → Option (aS)
  | 0, _, _ => none
  | n + 1, x1, s =>
    bu (dm176 (sI s 121 26) s) fun r3 =>
    bu (dm211 r3) fun r6 =>
    if r6 = 0 then
      bu (dm176 (sI s 121 26) s) fun r10 =>
      if r10 = 36 then
        bu (dm212 x1 (sI s 121 26) s) fun r14 =>
        nx (wI s 121 41 0) fun s15 =>
        nx (wI s15 121 39 0) fun s18 =>
        bu (dm213 x1 r14 s18) fun r23 =>
        nx (wI s18 121 40 r23) fun s24 =>
        if r14 < ((sI s 121 26) - x1) then
          dm210_53 (sI s 121 26) s24
        else
          if 3 < r14 then
            dm210_53 (sI s 121 26) s24
          else
            if (sI s24 121 40) ≤ 16384 then
              bu (dm208 s24) fun s32 =>
              if (sI s32 121 27) = 0 then
                bu (dm209 (-1) s32) fun s36 =>
                dm210_65 s36
              else
                dm210_65 s32
            else
              dm210_53 (sI s 121 26) s24
      else
        bu (dm176 (sI s 121 26) s) fun r39 =>
        if r39 = 33 then
          bu (dm177 122 x1 ((sI s 121 26) - x1) s) fun r43 =>
          bu (dm206 r43 x1 s) fun s46 =>
          some s46
        else
          bu (dm176 (sI s 121 26) s) fun r49 =>
          if r49 = 40 then
            bv (dm187 7 s) fun r54 s53 =>
            bu (dm200 r54 x1 1 s53) fun s57 =>
            if (sI s57 121 33) = 32 then
              bu (dm186 (sI s 121 26) s57) fun s61 =>
              some s61
            else
              bu (dm188 7 r54 s57) fun s64 =>
              nx (wI s64 121 33 ((sI s64 121 33) + 1)) fun s65 =>
              nx (wI s65 121 26 ((sI s65 121 26) + 1)) fun s68 =>
              nx (wI s68 121 35 1) fun s71 =>
              nx (wI s71 121 36 1) fun s74 =>
              some s74
          else
            bv (dm214 x1 (sI s 121 26) s) fun r80 s79 =>
            if r80 = 0 then
              bu (dm215 x1 (sI s 121 26) 1414681925 4 s79) fun r84 =>
              bu (dm215 x1 (sI s 121 26) 301743231813 5 s79) fun r87 =>
              if r84 = 0 then
                if r87 = 0 then
                  dm210_161 x1 r84 r87 6 s79
                else
                  dm210_158 x1 r84 r87 s79
              else
                dm210_158 x1 r84 r87 s79
            else
              bu (dm209 (-1) s79) fun s92 =>
              some s92
    else
      nx (wI s 121 26 ((sI s 121 26) + 1)) fun s93 =>
      dm210_3 n x1 s93
set_option maxRecDepth 100000 in
theorem dt210_3 {sio : Bool} {tt : Nat} {cc : Nat → Nat → Int32} {d : Nat} (hd : 4 ≤ d) : ∀ (n : Nat) {x1 : Int32} {s : aS} (_ : Ly tt cc s) {o : aS} (_ : dm210_3  n x1 s = some o), Q 2 sio tt cc d 210 3 [some (.ref 121), some (.int x1), none, none, none, none] [] s (.inl none, o) := by
  obtain ⟨d, rfl⟩ : ∃ e, d = e + 1 := ⟨d - 1, by omega⟩
  intro n
  induction n with
  | zero => intro x1 s hl o h; rw [dm210_3] at h; cases h
  | succ n ih =>
    intro x1 s hl o h
    rw [dm210_3] at h
    refine Q.run zm210 2 (i' := 5) (ls' := [some (.ref 121), some (.int x1), none, none, none, none]) (st' := [.ref 121, .ref 121]) rfl ?_
    refine Q.map (A.gf (gI_of zm210 (e := (7, 3, .getfield 138, [9, 26])) rfl) (hl.lt (a := 121) (by decide)) (hl.T (a := 121) (p := (9, 45)) 43 rfl rfl) (by decide) rfl) ?_
    obtain ⟨r3, hc2, h⟩ := bu_so h
    have hq1 : Q 2 sio tt cc d 176 0 [some (.ref 121), some (.int (sI s 121 26))] [] s (.inl (some (.int r3)), s) := dt176 (by omega) hl  hc2
    refine Q.callI (gC_vi zm210 (show zM210.2.2.2.2.2[6]? = some (10, 3, .invokevirtual 113, [0, 176, 1, 9]) from rfl) zm176 (hl.lt (a := 121) (by decide)) (hl.T (a := 121) (p := (9, 45)) 43 rfl rfl) rfl (show aCr 1 121 [.int (sI s 121 26), .ref 121] 2 = some ([some (.ref 121), some (.int (sI s 121 26))], []) from rfl)) hq1 ?_
    obtain ⟨r6, hc5, h⟩ := bu_so h
    have hq4 : Q 2 sio tt cc d 211 0 [some (.int r3)] [] s (.inl (some (.int r6)), s) := dt211 (by omega) hl  hc5
    refine Q.callI (gC_st zm210 (show zM210.2.2.2.2.2[7]? = some (13, 3, .invokestatic 228, [0, 211, 1]) from rfl) zm211 (show aC 1 [.int r3] 1 = some ([some (.int r3)], []) from rfl)) hq4 ?_
    by_cases hc7 : r6 = 0
    · rw [if_pos hc7] at h
      refine Q.map (A.zT (gI_of zm210 (e := (16, 3, .ifCond .eq 16, [16])) rfl) (decide_eq_true hc7)) ?_
      refine Q.run zm210 1 (i' := 17) (ls' := [some (.ref 121), some (.int x1), none, none, none, none]) (st' := [.ref 121]) rfl ?_
      refine Q.map (A.gf (gI_of zm210 (e := (33, 3, .getfield 138, [9, 26])) rfl) (hl.lt (a := 121) (by decide)) (hl.T (a := 121) (p := (9, 45)) 43 rfl rfl) (by decide) rfl) ?_
      refine Q.run zm210 3 (i' := 21) (ls' := [some (.ref 121), some (.int x1), some (.int (sI s 121 26)), none, none, none]) (st' := [.int (sI s 121 26), .ref 121]) rfl ?_
      obtain ⟨r10, hc9, h⟩ := bu_so h
      have hq8 : Q 2 sio tt cc d 176 0 [some (.ref 121), some (.int (sI s 121 26))] [] s (.inl (some (.int r10)), s) := dt176 (by omega) hl  hc9
      refine Q.callI (gC_vi zm210 (show zM210.2.2.2.2.2[21]? = some (39, 3, .invokevirtual 113, [0, 176, 1, 9]) from rfl) zm176 (hl.lt (a := 121) (by decide)) (hl.T (a := 121) (p := (9, 45)) 43 rfl rfl) rfl (show aCr 1 121 [.int (sI s 121 26), .ref 121] 2 = some ([some (.ref 121), some (.int (sI s 121 26))], []) from rfl)) hq8 ?_
      refine Q.run zm210 1 (i' := 23) (ls' := [some (.ref 121), some (.int x1), some (.int (sI s 121 26)), none, none, none]) (st' := [.int 36, .int r10]) rfl ?_
      by_cases hc11 : r10 = 36
      · rw [if_pos hc11] at h
        refine Q.map (A.bF (gI_of zm210 (e := (44, 3, .if_icmp .ne 77, [66])) rfl) (fun q => of_decide_eq_true q hc11)) ?_
        refine Q.run zm210 3 (i' := 27) (ls' := [some (.ref 121), some (.int x1), some (.int (sI s 121 26)), none, none, none]) (st' := [.int (sI s 121 26), .int x1, .ref 121]) rfl ?_
        obtain ⟨r14, hc13, h⟩ := bu_so h
        have hq12 : Q 2 sio tt cc d 212 0 [some (.ref 121), some (.int x1), some (.int (sI s 121 26)), none] [] s (.inl (some (.int r14)), s) := dt212 (by omega) hl  hc13
        refine Q.callI (gC_vi zm210 (show zM210.2.2.2.2.2[27]? = some (50, 3, .invokevirtual 222, [0, 212, 2, 9]) from rfl) zm212 (hl.lt (a := 121) (by decide)) (hl.T (a := 121) (p := (9, 45)) 43 rfl rfl) rfl (show aCr 2 121 [.int (sI s 121 26), .int x1, .ref 121] 4 = some ([some (.ref 121), some (.int x1), some (.int (sI s 121 26)), none], []) from rfl)) hq12 ?_
        refine Q.run zm210 3 (i' := 31) (ls' := [some (.ref 121), some (.int x1), some (.int (sI s 121 26)), some (.int r14), none, none]) (st' := [.int 0, .ref 121]) rfl ?_
        obtain ⟨s15, hs16, h⟩ := nx_so h
        refine Q.pf hs16 rfl (gI_of zm210 (e := (56, 3, .putfield 200, [9, 41, 0])) rfl) (hl.lt (a := 121) (by decide)) (by decide) (hl.T (a := 121) (p := (9, 45)) 43 rfl rfl) (by decide) rfl rfl ?_
        have hl17 : Ly tt cc s15 := by rw [hs16]; exact hl.wId (by decide)
        refine Q.run zm210 2 (i' := 34) (ls' := [some (.ref 121), some (.int x1), some (.int (sI s 121 26)), some (.int r14), none, none]) (st' := [.int 0, .ref 121]) rfl ?_
        obtain ⟨s18, hs19, h⟩ := nx_so h
        refine Q.pf hs19 rfl (gI_of zm210 (e := (61, 3, .putfield 206, [9, 39, 0])) rfl) (hl17.lt (a := 121) (by decide)) (by decide) (hl17.T (a := 121) (p := (9, 45)) 43 rfl rfl) (by decide) rfl rfl ?_
        have hl20 : Ly tt cc s18 := by rw [hs19]; exact hl17.wId (by decide)
        refine Q.run zm210 4 (i' := 39) (ls' := [some (.ref 121), some (.int x1), some (.int (sI s 121 26)), some (.int r14), none, none]) (st' := [.int r14, .int x1, .ref 121, .ref 121]) rfl ?_
        obtain ⟨r23, hc22, h⟩ := bu_so h
        have hq21 : Q 2 sio tt cc d 213 0 [some (.ref 121), some (.int x1), some (.int r14), none, none] [] s18 (.inl (some (.int r23)), s18) := dt213 (by omega) hl20  hc22
        refine Q.callI (gC_vi zm210 (show zM210.2.2.2.2.2[39]? = some (68, 3, .invokevirtual 225, [0, 213, 2, 9]) from rfl) zm213 (hl20.lt (a := 121) (by decide)) (hl20.T (a := 121) (p := (9, 45)) 43 rfl rfl) rfl (show aCr 2 121 [.int r14, .int x1, .ref 121, .ref 121] 5 = some ([some (.ref 121), some (.int x1), some (.int r14), none, none], [.ref 121]) from rfl)) hq21 ?_
        obtain ⟨s24, hs25, h⟩ := nx_so h
        refine Q.pf hs25 rfl (gI_of zm210 (e := (71, 3, .putfield 203, [9, 40, 0])) rfl) (hl20.lt (a := 121) (by decide)) (by decide) (hl20.T (a := 121) (p := (9, 45)) 43 rfl rfl) (by decide) rfl rfl ?_
        have hl26 : Ly tt cc s24 := by rw [hs25]; exact hl20.wId (by decide)
        refine Q.run zm210 4 (i' := 45) (ls' := [some (.ref 121), some (.int x1), some (.int (sI s 121 26)), some (.int r14), none, none]) (st' := [.int ((sI s 121 26) - x1), .int r14]) rfl ?_
        by_cases hc27 : r14 < ((sI s 121 26) - x1)
        · rw [if_pos hc27] at h
          refine Q.map (A.bT (gI_of zm210 (e := (78, 3, .if_icmp .lt 18, [53])) rfl) (decide_eq_true hc27)) ?_
          exact dt210_53 hd hl26  h
        · rw [if_neg hc27] at h
          refine Q.map (A.bF (gI_of zm210 (e := (78, 3, .if_icmp .lt 18, [53])) rfl) (fun q => hc27 (of_decide_eq_true q))) ?_
          refine Q.run zm210 2 (i' := 48) (ls' := [some (.ref 121), some (.int x1), some (.int (sI s 121 26)), some (.int r14), none, none]) (st' := [.int 3, .int r14]) rfl ?_
          by_cases hc28 : 3 < r14
          · rw [if_pos hc28] at h
            refine Q.map (A.bT (gI_of zm210 (e := (83, 3, .if_icmp .gt 13, [53])) rfl) (decide_eq_true hc28)) ?_
            exact dt210_53 hd hl26  h
          · rw [if_neg hc28] at h
            refine Q.map (A.bF (gI_of zm210 (e := (83, 3, .if_icmp .gt 13, [53])) rfl) (fun q => hc28 (of_decide_eq_true q))) ?_
            refine Q.run zm210 1 (i' := 50) (ls' := [some (.ref 121), some (.int x1), some (.int (sI s 121 26)), some (.int r14), none, none]) (st' := [.ref 121]) rfl ?_
            refine Q.map (A.gf (gI_of zm210 (e := (87, 3, .getfield 203, [9, 40])) rfl) (hl26.lt (a := 121) (by decide)) (hl26.T (a := 121) (p := (9, 45)) 43 rfl rfl) (by decide) rfl) ?_
            refine Q.run zm210 1 (i' := 52) (ls' := [some (.ref 121), some (.int x1), some (.int (sI s 121 26)), some (.int r14), none, none]) (st' := [.int 16384, .int (sI s24 121 40)]) rfl ?_
            by_cases hc29 : (sI s24 121 40) ≤ 16384
            · rw [if_pos hc29] at h
              refine Q.map (A.bT (gI_of zm210 (e := (93, 3, .if_icmp .le 9, [57])) rfl) (decide_eq_true hc29)) ?_
              refine Q.run zm210 1 (i' := 58) (ls' := [some (.ref 121), some (.int x1), some (.int (sI s 121 26)), some (.int r14), none, none]) (st' := [.ref 121]) rfl ?_
              obtain ⟨s32, hc31, h⟩ := bu_so h
              have hq30 : Q 2 sio tt cc d 208 0 [some (.ref 121)] [] s24 (.inl none, s32) := dt208 (by omega) hl26  hc31
              refine Q.callV (gC_vi zm210 (show zM210.2.2.2.2.2[58]? = some (103, 3, .invokevirtual 209, [0, 208, 0, 9]) from rfl) zm208 (hl26.lt (a := 121) (by decide)) (hl26.T (a := 121) (p := (9, 45)) 43 rfl rfl) rfl (show aCr 0 121 [.ref 121] 1 = some ([some (.ref 121)], []) from rfl)) hq30 ?_
              refine Q.run zm210 1 (i' := 60) (ls' := [some (.ref 121), some (.int x1), some (.int (sI s 121 26)), some (.int r14), none, none]) (st' := [.ref 121]) rfl ?_
              refine Q.map (A.gf (gI_of zm210 (e := (107, 3, .getfield 134, [9, 27])) rfl) (hq30.1.lt (a := 121) (by decide)) (hq30.1.T (a := 121) (p := (9, 45)) 43 rfl rfl) (by decide) rfl) ?_
              by_cases hc33 : (sI s32 121 27) = 0
              · rw [if_pos hc33] at h
                refine Q.map (A.zF (gI_of zm210 (e := (110, 3, .ifCond .ne 8, [65])) rfl) (fun q => of_decide_eq_true q hc33)) ?_
                refine Q.run zm210 2 (i' := 64) (ls' := [some (.ref 121), some (.int x1), some (.int (sI s 121 26)), some (.int r14), none, none]) (st' := [.int (-1), .ref 121]) rfl ?_
                obtain ⟨s36, hc35, h⟩ := bu_so h
                have hq34 : Q 2 sio tt cc d 209 0 [some (.ref 121), some (.int (-1)), none, none] [] s32 (.inl none, s36) := dt209 (by omega) hq30.1  hc35
                refine Q.callV (gC_vi zm210 (show zM210.2.2.2.2.2[64]? = some (115, 3, .invokevirtual 231, [0, 209, 1, 9]) from rfl) zm209 (hq30.1.lt (a := 121) (by decide)) (hq30.1.T (a := 121) (p := (9, 45)) 43 rfl rfl) rfl (show aCr 1 121 [.int (-1), .ref 121] 4 = some ([some (.ref 121), some (.int (-1)), none, none], []) from rfl)) hq34 ?_
                exact dt210_65 hd hq34.1  h
              · rw [if_neg hc33] at h
                refine Q.map (A.zT (gI_of zm210 (e := (110, 3, .ifCond .ne 8, [65])) rfl) (decide_eq_true hc33)) ?_
                exact dt210_65 hd hq30.1  h
            · rw [if_neg hc29] at h
              refine Q.map (A.bF (gI_of zm210 (e := (93, 3, .if_icmp .le 9, [57])) rfl) (fun q => hc29 (of_decide_eq_true q))) ?_
              exact dt210_53 hd hl26  h
      · rw [if_neg hc11] at h
        refine Q.map (A.bT (gI_of zm210 (e := (44, 3, .if_icmp .ne 77, [66])) rfl) (decide_eq_true hc11)) ?_
        refine Q.run zm210 2 (i' := 68) (ls' := [some (.ref 121), some (.int x1), some (.int (sI s 121 26)), none, none, none]) (st' := [.int (sI s 121 26), .ref 121]) rfl ?_
        obtain ⟨r39, hc38, h⟩ := bu_so h
        have hq37 : Q 2 sio tt cc d 176 0 [some (.ref 121), some (.int (sI s 121 26))] [] s (.inl (some (.int r39)), s) := dt176 (by omega) hl  hc38
        refine Q.callI (gC_vi zm210 (show zM210.2.2.2.2.2[68]? = some (123, 3, .invokevirtual 113, [0, 176, 1, 9]) from rfl) zm176 (hl.lt (a := 121) (by decide)) (hl.T (a := 121) (p := (9, 45)) 43 rfl rfl) rfl (show aCr 1 121 [.int (sI s 121 26), .ref 121] 2 = some ([some (.ref 121), some (.int (sI s 121 26))], []) from rfl)) hq37 ?_
        refine Q.run zm210 1 (i' := 70) (ls' := [some (.ref 121), some (.int x1), some (.int (sI s 121 26)), none, none, none]) (st' := [.int 33, .int r39]) rfl ?_
        by_cases hc40 : r39 = 33
        · rw [if_pos hc40] at h
          refine Q.map (A.bF (gI_of zm210 (e := (128, 3, .if_icmp .ne 25, [85])) rfl) (fun q => of_decide_eq_true q hc40)) ?_
          refine Q.run zm210 2 (i' := 73) (ls' := [some (.ref 121), some (.int x1), some (.int (sI s 121 26)), none, none, none]) (st' := [.ref 121, .ref 121]) rfl ?_
          refine Q.map (A.gf (gI_of zm210 (e := (133, 3, .getfield 7, [9, 2])) rfl) (hl.lt (a := 121) (by decide)) (hl.T (a := 121) (p := (9, 45)) 43 rfl rfl) (by decide) (hl.R 23 rfl)) ?_
          refine Q.run zm210 4 (i' := 78) (ls' := [some (.ref 121), some (.int x1), some (.int (sI s 121 26)), none, none, none]) (st' := [.int ((sI s 121 26) - x1), .int x1, .ref 122, .ref 121]) rfl ?_
          obtain ⟨r43, hc42, h⟩ := bu_so h
          have hq41 : Q 2 sio tt cc d 177 0 [some (.ref 121), some (.ref 122), some (.int x1), some (.int ((sI s 121 26) - x1)), none, none, none] [] s (.inl (some (.int r43)), s) := dt177 (by omega) hl (hl.Kd (a := 122) (c := 100) (n := 256) 44 rfl rfl (by decide)) hc42
          refine Q.callI (gC_vi zm210 (show zM210.2.2.2.2.2[78]? = some (140, 3, .invokevirtual 120, [0, 177, 3, 9]) from rfl) zm177 (hl.lt (a := 121) (by decide)) (hl.T (a := 121) (p := (9, 45)) 43 rfl rfl) rfl (show aCr 3 121 [.int ((sI s 121 26) - x1), .int x1, .ref 122, .ref 121] 7 = some ([some (.ref 121), some (.ref 122), some (.int x1), some (.int ((sI s 121 26) - x1)), none, none, none], []) from rfl)) hq41 ?_
          refine Q.run zm210 4 (i' := 83) (ls' := [some (.ref 121), some (.int x1), some (.int (sI s 121 26)), some (.int r43), none, none]) (st' := [.int x1, .int r43, .ref 121]) rfl ?_
          obtain ⟨s46, hc45, h⟩ := bu_so h
          have hq44 : Q 2 sio tt cc d 206 0 [some (.ref 121), some (.int r43), some (.int x1)] [] s (.inl none, s46) := dt206 (by omega) hl  hc45
          refine Q.callV (gC_vi zm210 (show zM210.2.2.2.2.2[83]? = some (147, 3, .invokevirtual 234, [0, 206, 2, 9]) from rfl) zm206 (hl.lt (a := 121) (by decide)) (hl.T (a := 121) (p := (9, 45)) 43 rfl rfl) rfl (show aCr 2 121 [.int x1, .int r43, .ref 121] 3 = some ([some (.ref 121), some (.int r43), some (.int x1)], []) from rfl)) hq44 ?_
          refine Q.run zm210 1 (i' := 186) (ls' := [some (.ref 121), some (.int x1), some (.int (sI s 121 26)), some (.int r43), none, none]) (st' := []) rfl ?_
          cases h
          exact Q.ret (A.rv zm210 (show zM210.2.2.2.2.2[186]? = some (336, 1, .return_, []) from rfl) rfl) hq44.1
        · rw [if_neg hc40] at h
          refine Q.map (A.bT (gI_of zm210 (e := (128, 3, .if_icmp .ne 25, [85])) rfl) (decide_eq_true hc40)) ?_
          refine Q.run zm210 2 (i' := 87) (ls' := [some (.ref 121), some (.int x1), some (.int (sI s 121 26)), none, none, none]) (st' := [.int (sI s 121 26), .ref 121]) rfl ?_
          obtain ⟨r49, hc48, h⟩ := bu_so h
          have hq47 : Q 2 sio tt cc d 176 0 [some (.ref 121), some (.int (sI s 121 26))] [] s (.inl (some (.int r49)), s) := dt176 (by omega) hl  hc48
          refine Q.callI (gC_vi zm210 (show zM210.2.2.2.2.2[87]? = some (155, 3, .invokevirtual 113, [0, 176, 1, 9]) from rfl) zm176 (hl.lt (a := 121) (by decide)) (hl.T (a := 121) (p := (9, 45)) 43 rfl rfl) rfl (show aCr 1 121 [.int (sI s 121 26), .ref 121] 2 = some ([some (.ref 121), some (.int (sI s 121 26))], []) from rfl)) hq47 ?_
          refine Q.run zm210 1 (i' := 89) (ls' := [some (.ref 121), some (.int x1), some (.int (sI s 121 26)), none, none, none]) (st' := [.int 40, .int r49]) rfl ?_
          by_cases hc50 : r49 = 40
          · rw [if_pos hc50] at h
            refine Q.map (A.bF (gI_of zm210 (e := (160, 3, .if_icmp .ne 72, [130])) rfl) (fun q => of_decide_eq_true q hc50)) ?_
            refine Q.run zm210 2 (i' := 92) (ls' := [some (.ref 121), some (.int x1), some (.int (sI s 121 26)), none, none, none]) (st' := [.int 7, .ref 121]) rfl ?_
            obtain ⟨r54, s53, hc52, h⟩ := bv_so h
            have hq51 : Q 2 sio tt cc d 187 0 [some (.ref 121), some (.int 7), none, none] [] s (.inl (some (.int r54)), s53) := dt187 (by omega) hl  hc52
            refine Q.callI (gC_vi zm210 (show zM210.2.2.2.2.2[92]? = some (166, 3, .invokevirtual 167, [0, 187, 1, 9]) from rfl) zm187 (hl.lt (a := 121) (by decide)) (hl.T (a := 121) (p := (9, 45)) 43 rfl rfl) rfl (show aCr 1 121 [.int 7, .ref 121] 4 = some ([some (.ref 121), some (.int 7), none, none], []) from rfl)) hq51 ?_
            refine Q.run zm210 5 (i' := 98) (ls' := [some (.ref 121), some (.int x1), some (.int (sI s 121 26)), some (.int r54), none, none]) (st' := [.int 1, .int x1, .int r54, .ref 121]) rfl ?_
            obtain ⟨s57, hc56, h⟩ := bu_so h
            have hq55 : Q 2 sio tt cc d 200 0 [some (.ref 121), some (.int r54), some (.int x1), some (.int 1), none] [] s53 (.inl none, s57) := dt200 (by omega) hq51.1  hc56
            refine Q.callV (gC_vi zm210 (show zM210.2.2.2.2.2[98]? = some (174, 3, .invokevirtual 170, [0, 200, 3, 9]) from rfl) zm200 (hq51.1.lt (a := 121) (by decide)) (hq51.1.T (a := 121) (p := (9, 45)) 43 rfl rfl) rfl (show aCr 3 121 [.int 1, .int x1, .int r54, .ref 121] 5 = some ([some (.ref 121), some (.int r54), some (.int x1), some (.int 1), none], []) from rfl)) hq55 ?_
            refine Q.run zm210 1 (i' := 100) (ls' := [some (.ref 121), some (.int x1), some (.int (sI s 121 26)), some (.int r54), none, none]) (st' := [.ref 121]) rfl ?_
            refine Q.map (A.gf (gI_of zm210 (e := (178, 3, .getfield 237, [9, 33])) rfl) (hq55.1.lt (a := 121) (by decide)) (hq55.1.T (a := 121) (p := (9, 45)) 43 rfl rfl) (by decide) rfl) ?_
            refine Q.run zm210 1 (i' := 102) (ls' := [some (.ref 121), some (.int x1), some (.int (sI s 121 26)), some (.int r54), none, none]) (st' := [.int 32, .int (sI s57 121 33)]) rfl ?_
            by_cases hc58 : (sI s57 121 33) = 32
            · rw [if_pos hc58] at h
              refine Q.map (A.bF (gI_of zm210 (e := (183, 3, .if_icmp .ne 9, [107])) rfl) (fun q => of_decide_eq_true q hc58)) ?_
              refine Q.run zm210 2 (i' := 105) (ls' := [some (.ref 121), some (.int x1), some (.int (sI s 121 26)), some (.int r54), none, none]) (st' := [.int (sI s 121 26), .ref 121]) rfl ?_
              obtain ⟨s61, hc60, h⟩ := bu_so h
              have hq59 : Q 2 sio tt cc d 186 0 [some (.ref 121), some (.int (sI s 121 26))] [] s57 (.inl none, s61) := dt186 (by omega) hq55.1  hc60
              refine Q.callV (gC_vi zm210 (show zM210.2.2.2.2.2[105]? = some (188, 3, .invokevirtual 164, [0, 186, 1, 9]) from rfl) zm186 (hq55.1.lt (a := 121) (by decide)) (hq55.1.T (a := 121) (p := (9, 45)) 43 rfl rfl) rfl (show aCr 1 121 [.int (sI s 121 26), .ref 121] 2 = some ([some (.ref 121), some (.int (sI s 121 26))], []) from rfl)) hq59 ?_
              cases h
              exact Q.ret (A.rv zm210 (show zM210.2.2.2.2.2[106]? = some (191, 1, .return_, []) from rfl) rfl) hq59.1
            · rw [if_neg hc58] at h
              refine Q.map (A.bT (gI_of zm210 (e := (183, 3, .if_icmp .ne 9, [107])) rfl) (decide_eq_true hc58)) ?_
              refine Q.run zm210 3 (i' := 110) (ls' := [some (.ref 121), some (.int x1), some (.int (sI s 121 26)), some (.int r54), none, none]) (st' := [.int r54, .int 7, .ref 121]) rfl ?_
              obtain ⟨s64, hc63, h⟩ := bu_so h
              have hq62 : Q 2 sio tt cc d 188 0 [some (.ref 121), some (.int 7), some (.int r54)] [] s57 (.inl none, s64) := dt188 (by omega) hq55.1  hc63
              refine Q.callV (gC_vi zm210 (show zM210.2.2.2.2.2[110]? = some (196, 3, .invokevirtual 240, [0, 188, 2, 9]) from rfl) zm188 (hq55.1.lt (a := 121) (by decide)) (hq55.1.T (a := 121) (p := (9, 45)) 43 rfl rfl) rfl (show aCr 2 121 [.int r54, .int 7, .ref 121] 3 = some ([some (.ref 121), some (.int 7), some (.int r54)], []) from rfl)) hq62 ?_
              refine Q.run zm210 2 (i' := 113) (ls' := [some (.ref 121), some (.int x1), some (.int (sI s 121 26)), some (.int r54), none, none]) (st' := [.ref 121, .ref 121]) rfl ?_
              refine Q.map (A.gf (gI_of zm210 (e := (201, 3, .getfield 237, [9, 33])) rfl) (hq62.1.lt (a := 121) (by decide)) (hq62.1.T (a := 121) (p := (9, 45)) 43 rfl rfl) (by decide) rfl) ?_
              refine Q.run zm210 2 (i' := 116) (ls' := [some (.ref 121), some (.int x1), some (.int (sI s 121 26)), some (.int r54), none, none]) (st' := [.int ((sI s64 121 33) + 1), .ref 121]) rfl ?_
              obtain ⟨s65, hs66, h⟩ := nx_so h
              refine Q.pf hs66 rfl (gI_of zm210 (e := (206, 3, .putfield 237, [9, 33, 0])) rfl) (hq62.1.lt (a := 121) (by decide)) (by decide) (hq62.1.T (a := 121) (p := (9, 45)) 43 rfl rfl) (by decide) rfl rfl ?_
              have hl67 : Ly tt cc s65 := by rw [hs66]; exact hq62.1.wId (by decide)
              refine Q.run zm210 2 (i' := 119) (ls' := [some (.ref 121), some (.int x1), some (.int (sI s 121 26)), some (.int r54), none, none]) (st' := [.ref 121, .ref 121]) rfl ?_
              refine Q.map (A.gf (gI_of zm210 (e := (211, 3, .getfield 138, [9, 26])) rfl) (hl67.lt (a := 121) (by decide)) (hl67.T (a := 121) (p := (9, 45)) 43 rfl rfl) (by decide) rfl) ?_
              refine Q.run zm210 2 (i' := 122) (ls' := [some (.ref 121), some (.int x1), some (.int (sI s 121 26)), some (.int r54), none, none]) (st' := [.int ((sI s65 121 26) + 1), .ref 121]) rfl ?_
              obtain ⟨s68, hs69, h⟩ := nx_so h
              refine Q.pf hs69 rfl (gI_of zm210 (e := (216, 3, .putfield 138, [9, 26, 0])) rfl) (hl67.lt (a := 121) (by decide)) (by decide) (hl67.T (a := 121) (p := (9, 45)) 43 rfl rfl) (by decide) rfl rfl ?_
              have hl70 : Ly tt cc s68 := by rw [hs69]; exact hl67.wId (by decide)
              refine Q.run zm210 2 (i' := 125) (ls' := [some (.ref 121), some (.int x1), some (.int (sI s 121 26)), some (.int r54), none, none]) (st' := [.int 1, .ref 121]) rfl ?_
              obtain ⟨s71, hs72, h⟩ := nx_so h
              refine Q.pf hs72 rfl (gI_of zm210 (e := (221, 3, .putfield 243, [9, 35, 0])) rfl) (hl70.lt (a := 121) (by decide)) (by decide) (hl70.T (a := 121) (p := (9, 45)) 43 rfl rfl) (by decide) rfl rfl ?_
              have hl73 : Ly tt cc s71 := by rw [hs72]; exact hl70.wId (by decide)
              refine Q.run zm210 2 (i' := 128) (ls' := [some (.ref 121), some (.int x1), some (.int (sI s 121 26)), some (.int r54), none, none]) (st' := [.int 1, .ref 121]) rfl ?_
              obtain ⟨s74, hs75, h⟩ := nx_so h
              refine Q.pf hs75 rfl (gI_of zm210 (e := (226, 3, .putfield 246, [9, 36, 1])) rfl) (hl73.lt (a := 121) (by decide)) (by decide) (hl73.T (a := 121) (p := (9, 45)) 43 rfl rfl) (by decide) rfl rfl ?_
              have hl76 : Ly tt cc s74 := by rw [hs75]; exact hl73.wId (by decide)
              refine Q.run zm210 1 (i' := 186) (ls' := [some (.ref 121), some (.int x1), some (.int (sI s 121 26)), some (.int r54), none, none]) (st' := []) rfl ?_
              cases h
              exact Q.ret (A.rv zm210 (show zM210.2.2.2.2.2[186]? = some (336, 1, .return_, []) from rfl) rfl) hl76
          · rw [if_neg hc50] at h
            refine Q.map (A.bT (gI_of zm210 (e := (160, 3, .if_icmp .ne 72, [130])) rfl) (decide_eq_true hc50)) ?_
            refine Q.run zm210 3 (i' := 133) (ls' := [some (.ref 121), some (.int x1), some (.int (sI s 121 26)), none, none, none]) (st' := [.int (sI s 121 26), .int x1, .ref 121]) rfl ?_
            obtain ⟨r80, s79, hc78, h⟩ := bv_so h
            have hq77 : Q 2 sio tt cc d 214 0 [some (.ref 121), some (.int x1), some (.int (sI s 121 26)), none, none, none] [] s (.inl (some (.int r80)), s79) := dt214 (by omega) hl  hc78
            refine Q.callI (gC_vi zm210 (show zM210.2.2.2.2.2[133]? = some (235, 3, .invokevirtual 249, [0, 214, 2, 9]) from rfl) zm214 (hl.lt (a := 121) (by decide)) (hl.T (a := 121) (p := (9, 45)) 43 rfl rfl) rfl (show aCr 2 121 [.int (sI s 121 26), .int x1, .ref 121] 6 = some ([some (.ref 121), some (.int x1), some (.int (sI s 121 26)), none, none, none], []) from rfl)) hq77 ?_
            by_cases hc81 : r80 = 0
            · rw [if_pos hc81] at h
              refine Q.map (A.zT (gI_of zm210 (e := (238, 3, .ifCond .eq 11, [139])) rfl) (decide_eq_true hc81)) ?_
              refine Q.run zm210 5 (i' := 144) (ls' := [some (.ref 121), some (.int x1), some (.int (sI s 121 26)), none, none, none]) (st' := [.int 4, .long 1414681925, .int (sI s 121 26), .int x1, .ref 121]) rfl ?_
              obtain ⟨r84, hc83, h⟩ := bu_so h
              have hq82 : Q 2 sio tt cc d 215 0 [some (.ref 121), some (.int x1), some (.int (sI s 121 26)), some (.long 1414681925), none, some (.int 4), none, none] [] s79 (.inl (some (.int r84)), s79) := dt215 (by omega) hq77.1  hc83
              refine Q.callI (gC_vi zm210 (show zM210.2.2.2.2.2[144]? = some (256, 3, .invokevirtual 255, [0, 215, 4, 9]) from rfl) zm215 (hq77.1.lt (a := 121) (by decide)) (hq77.1.T (a := 121) (p := (9, 45)) 43 rfl rfl) rfl (show aCr 4 121 [.int 4, .long 1414681925, .int (sI s 121 26), .int x1, .ref 121] 8 = some ([some (.ref 121), some (.int x1), some (.int (sI s 121 26)), some (.long 1414681925), none, some (.int 4), none, none], []) from rfl)) hq82 ?_
              refine Q.run zm210 6 (i' := 151) (ls' := [some (.ref 121), some (.int x1), some (.int (sI s 121 26)), some (.int r84), none, none]) (st' := [.int 5, .long 301743231813, .int (sI s 121 26), .int x1, .ref 121]) rfl ?_
              obtain ⟨r87, hc86, h⟩ := bu_so h
              have hq85 : Q 2 sio tt cc d 215 0 [some (.ref 121), some (.int x1), some (.int (sI s 121 26)), some (.long 301743231813), none, some (.int 5), none, none] [] s79 (.inl (some (.int r87)), s79) := dt215 (by omega) hq77.1  hc86
              refine Q.callI (gC_vi zm210 (show zM210.2.2.2.2.2[151]? = some (267, 3, .invokevirtual 255, [0, 215, 4, 9]) from rfl) zm215 (hq77.1.lt (a := 121) (by decide)) (hq77.1.T (a := 121) (p := (9, 45)) 43 rfl rfl) rfl (show aCr 4 121 [.int 5, .long 301743231813, .int (sI s 121 26), .int x1, .ref 121] 8 = some ([some (.ref 121), some (.int x1), some (.int (sI s 121 26)), some (.long 301743231813), none, some (.int 5), none, none], []) from rfl)) hq85 ?_
              refine Q.run zm210 3 (i' := 155) (ls' := [some (.ref 121), some (.int x1), some (.int (sI s 121 26)), some (.int r84), some (.int r87), none]) (st' := [.int r84, .ref 121]) rfl ?_
              by_cases hc88 : r84 = 0
              · rw [if_pos hc88] at h
                refine Q.map (A.zF (gI_of zm210 (e := (274, 3, .ifCond .ne 8, [158])) rfl) (fun q => of_decide_eq_true q hc88)) ?_
                refine Q.run zm210 1 (i' := 157) (ls' := [some (.ref 121), some (.int x1), some (.int (sI s 121 26)), some (.int r84), some (.int r87), none]) (st' := [.int r87, .ref 121]) rfl ?_
                by_cases hc89 : r87 = 0
                · rw [if_pos hc89] at h
                  refine Q.map (A.zT (gI_of zm210 (e := (279, 3, .ifCond .eq 7, [160])) rfl) (decide_eq_true hc89)) ?_
                  refine Q.run zm210 1 (i' := 161) (ls' := [some (.ref 121), some (.int x1), some (.int (sI s 121 26)), some (.int r84), some (.int r87), none]) (st' := [.int 6, .ref 121]) rfl ?_
                  exact dt210_161 hd hq77.1  h
                · rw [if_neg hc89] at h
                  refine Q.map (A.zF (gI_of zm210 (e := (279, 3, .ifCond .eq 7, [160])) rfl) (fun q => hc89 (of_decide_eq_true q))) ?_
                  exact dt210_158 hd hq77.1  h
              · rw [if_neg hc88] at h
                refine Q.map (A.zT (gI_of zm210 (e := (274, 3, .ifCond .ne 8, [158])) rfl) (decide_eq_true hc88)) ?_
                exact dt210_158 hd hq77.1  h
            · rw [if_neg hc81] at h
              refine Q.map (A.zF (gI_of zm210 (e := (238, 3, .ifCond .eq 11, [139])) rfl) (fun q => hc81 (of_decide_eq_true q))) ?_
              refine Q.run zm210 2 (i' := 137) (ls' := [some (.ref 121), some (.int x1), some (.int (sI s 121 26)), none, none, none]) (st' := [.int (-1), .ref 121]) rfl ?_
              obtain ⟨s92, hc91, h⟩ := bu_so h
              have hq90 : Q 2 sio tt cc d 209 0 [some (.ref 121), some (.int (-1)), none, none] [] s79 (.inl none, s92) := dt209 (by omega) hq77.1  hc91
              refine Q.callV (gC_vi zm210 (show zM210.2.2.2.2.2[137]? = some (243, 3, .invokevirtual 231, [0, 209, 1, 9]) from rfl) zm209 (hq77.1.lt (a := 121) (by decide)) (hq77.1.T (a := 121) (p := (9, 45)) 43 rfl rfl) rfl (show aCr 1 121 [.int (-1), .ref 121] 4 = some ([some (.ref 121), some (.int (-1)), none, none], []) from rfl)) hq90 ?_
              refine Q.run zm210 1 (i' := 186) (ls' := [some (.ref 121), some (.int x1), some (.int (sI s 121 26)), none, none, none]) (st' := []) rfl ?_
              cases h
              exact Q.ret (A.rv zm210 (show zM210.2.2.2.2.2[186]? = some (336, 1, .return_, []) from rfl) rfl) hq90.1
    · rw [if_neg hc7] at h
      refine Q.map (A.zF (gI_of zm210 (e := (16, 3, .ifCond .eq 16, [16])) rfl) (fun q => hc7 (of_decide_eq_true q))) ?_
      refine Q.run zm210 2 (i' := 11) (ls' := [some (.ref 121), some (.int x1), none, none, none, none]) (st' := [.ref 121, .ref 121]) rfl ?_
      refine Q.map (A.gf (gI_of zm210 (e := (21, 3, .getfield 138, [9, 26])) rfl) (hl.lt (a := 121) (by decide)) (hl.T (a := 121) (p := (9, 45)) 43 rfl rfl) (by decide) rfl) ?_
      refine Q.run zm210 2 (i' := 14) (ls' := [some (.ref 121), some (.int x1), none, none, none, none]) (st' := [.int ((sI s 121 26) + 1), .ref 121]) rfl ?_
      obtain ⟨s93, hs94, h⟩ := nx_so h
      refine Q.pf hs94 rfl (gI_of zm210 (e := (26, 3, .putfield 138, [9, 26, 0])) rfl) (hl.lt (a := 121) (by decide)) (by decide) (hl.T (a := 121) (p := (9, 45)) 43 rfl rfl) (by decide) rfl rfl ?_
      have hl95 : Ly tt cc s93 := by rw [hs94]; exact hl.wId (by decide)
      refine Q.run zm210 1 (i' := 3) (ls' := [some (.ref 121), some (.int x1), none, none, none, none]) (st' := []) rfl ?_
      exact ih hl95  h
def dm210 (s : aS) : Option (aS) :=
  dm210_3 5000 (sI s 121 26) s
set_option maxRecDepth 100000 in
theorem dt210 {sio : Bool} {tt : Nat} {cc : Nat → Nat → Int32} {d : Nat} (hd : 4 ≤ d) {s : aS} (hl : Ly tt cc s) {o : aS} (h : dm210  s = some o) : Q 2 sio tt cc d 210 0 [some (.ref 121), none, none, none, none, none] [] s (.inl none, o) := by
  unfold dm210 at h
  obtain ⟨d, rfl⟩ : ∃ e, d = e + 1 := ⟨d - 1, by omega⟩
  refine Q.run zm210 1 (i' := 1) (ls' := [some (.ref 121), none, none, none, none, none]) (st' := [.ref 121]) rfl ?_
  refine Q.map (A.gf (gI_of zm210 (e := (1, 3, .getfield 138, [9, 26])) rfl) (hl.lt (a := 121) (by decide)) (hl.T (a := 121) (p := (9, 45)) 43 rfl rfl) (by decide) rfl) ?_
  refine Q.run zm210 1 (i' := 3) (ls' := [some (.ref 121), some (.int (sI s 121 26)), none, none, none, none]) (st' := []) rfl ?_
  exact dt210_3 hd _ hl  h
/-! 195 FormulaTreesModel.readPrimary()V -/
set_option maxRecDepth 100000 in
theorem zm195 : zP[195]? = some zM195 := rfl
def dm195_53 (s : aS) : Option (aS) :=
  bu (dm199 s) fun s3 =>
  some s3
set_option maxRecDepth 100000 in
theorem dt195_53 {sio : Bool} {tt : Nat} {cc : Nat → Nat → Int32} {d : Nat} (hd : 5 ≤ d) {x1 : Int32} {x2 : Int32} {s : aS} (hl : Ly tt cc s) {o : aS} (h : dm195_53  s = some o) : Q 2 sio tt cc d 195 53 [some (.ref 121), some (.int x1), some (.int x2)] [] s (.inl none, o) := by
  unfold dm195_53 at h
  obtain ⟨d, rfl⟩ : ∃ e, d = e + 1 := ⟨d - 1, by omega⟩
  refine Q.run zm195 1 (i' := 54) (ls' := [some (.ref 121), some (.int x1), some (.int x2)]) (st' := [.ref 121]) rfl ?_
  obtain ⟨s3, hc2, h⟩ := bu_so h
  have hq1 : Q 2 sio tt cc d 199 0 [some (.ref 121), none, none, none, none] [] s (.inl none, s3) := dt199 (by omega) hl  hc2
  refine Q.callV (gC_vi zm195 (show zM195.2.2.2.2.2[54]? = some (106, 3, .invokevirtual 261, [0, 199, 0, 9]) from rfl) zm199 (hl.lt (a := 121) (by decide)) (hl.T (a := 121) (p := (9, 45)) 43 rfl rfl) rfl (show aCr 0 121 [.ref 121] 5 = some ([some (.ref 121), none, none, none, none], []) from rfl)) hq1 ?_
  refine Q.run zm195 1 (i' := 88) (ls' := [some (.ref 121), some (.int x1), some (.int x2)]) (st' := []) rfl ?_
  cases h
  exact Q.ret (A.rv zm195 (show zM195.2.2.2.2.2[88]? = some (180, 1, .return_, []) from rfl) rfl) hq1.1
def dm195_36 (s : aS) : Option (aS) :=
  bu (dm186 (sI s 121 26) s) fun s3 =>
  some s3
set_option maxRecDepth 100000 in
theorem dt195_36 {sio : Bool} {tt : Nat} {cc : Nat → Nat → Int32} {d : Nat} (hd : 5 ≤ d) {x1 : Int32} {x2 : Int32} {s : aS} (hl : Ly tt cc s) {o : aS} (h : dm195_36  s = some o) : Q 2 sio tt cc d 195 36 [some (.ref 121), some (.int x1), some (.int x2)] [] s (.inl none, o) := by
  unfold dm195_36 at h
  obtain ⟨d, rfl⟩ : ∃ e, d = e + 1 := ⟨d - 1, by omega⟩
  refine Q.run zm195 2 (i' := 38) (ls' := [some (.ref 121), some (.int x1), some (.int x2)]) (st' := [.ref 121, .ref 121]) rfl ?_
  refine Q.map (A.gf (gI_of zm195 (e := (75, 3, .getfield 138, [9, 26])) rfl) (hl.lt (a := 121) (by decide)) (hl.T (a := 121) (p := (9, 45)) 43 rfl rfl) (by decide) rfl) ?_
  obtain ⟨s3, hc2, h⟩ := bu_so h
  have hq1 : Q 2 sio tt cc d 186 0 [some (.ref 121), some (.int (sI s 121 26))] [] s (.inl none, s3) := dt186 (by omega) hl  hc2
  refine Q.callV (gC_vi zm195 (show zM195.2.2.2.2.2[39]? = some (78, 3, .invokevirtual 164, [0, 186, 1, 9]) from rfl) zm186 (hl.lt (a := 121) (by decide)) (hl.T (a := 121) (p := (9, 45)) 43 rfl rfl) rfl (show aCr 1 121 [.int (sI s 121 26), .ref 121] 2 = some ([some (.ref 121), some (.int (sI s 121 26))], []) from rfl)) hq1 ?_
  cases h
  exact Q.ret (A.rv zm195 (show zM195.2.2.2.2.2[40]? = some (81, 1, .return_, []) from rfl) rfl) hq1.1
def dm195_29 (x1 : Int32) (y0 : Int32) (s : aS) : Option (aS) :=
  if y0 = 0 then
    dm195_36 s
  else
    if (sI s 121 21) = 128 then
      dm195_36 s
    else
      nx (wI s 121 36 0) fun s3 =>
      nx (wI s3 121 35 0) fun s6 =>
      bu (dm196 x1) fun r11 =>
      if r11 = 0 then
        if x1 = 46 then
          dm195_53 s6
        else
          if x1 = 34 then
            bu (dm201 s6) fun s17 =>
            some s17
          else
            if x1 = 35 then
              bu (dm203 s6) fun s21 =>
              some s21
            else
              if x1 = 39 then
                bu (dm205 s6) fun s25 =>
                some s25
              else
                if x1 = 36 then
                  bu (dm207 s6) fun s29 =>
                  if (sI s29 121 27) = 0 then
                    bu (dm209 (-1) s29) fun s33 =>
                    some s33
                  else
                    some s29
                else
                  bu (dm210 s6) fun s36 =>
                  some s36
      else
        dm195_53 s6
set_option maxRecDepth 100000 in
theorem dt195_29 {sio : Bool} {tt : Nat} {cc : Nat → Nat → Int32} {d : Nat} (hd : 5 ≤ d) {x1 : Int32} {y0 : Int32} {s : aS} (hl : Ly tt cc s) {o : aS} (h : dm195_29  x1 y0 s = some o) : Q 2 sio tt cc d 195 29 [some (.ref 121), some (.int x1), none] [.int y0] s (.inl none, o) := by
  unfold dm195_29 at h
  obtain ⟨d, rfl⟩ : ∃ e, d = e + 1 := ⟨d - 1, by omega⟩
  refine Q.run zm195 2 (i' := 31) (ls' := [some (.ref 121), some (.int x1), some (.int y0)]) (st' := [.int y0]) rfl ?_
  by_cases hc1 : y0 = 0
  · rw [if_pos hc1] at h
    refine Q.map (A.zT (gI_of zm195 (e := (60, 3, .ifCond .eq 13, [36])) rfl) (decide_eq_true hc1)) ?_
    exact dt195_36 hd hl  h
  · rw [if_neg hc1] at h
    refine Q.map (A.zF (gI_of zm195 (e := (60, 3, .ifCond .eq 13, [36])) rfl) (fun q => hc1 (of_decide_eq_true q))) ?_
    refine Q.run zm195 1 (i' := 33) (ls' := [some (.ref 121), some (.int x1), some (.int y0)]) (st' := [.ref 121]) rfl ?_
    refine Q.map (A.gf (gI_of zm195 (e := (64, 3, .getfield 141, [9, 21])) rfl) (hl.lt (a := 121) (by decide)) (hl.T (a := 121) (p := (9, 45)) 43 rfl rfl) (by decide) rfl) ?_
    refine Q.run zm195 1 (i' := 35) (ls' := [some (.ref 121), some (.int x1), some (.int y0)]) (st' := [.int 128, .int (sI s 121 21)]) rfl ?_
    by_cases hc2 : (sI s 121 21) = 128
    · rw [if_pos hc2] at h
      refine Q.map (A.bF (gI_of zm195 (e := (70, 3, .if_icmp .ne 12, [41])) rfl) (fun q => of_decide_eq_true q hc2)) ?_
      exact dt195_36 hd hl  h
    · rw [if_neg hc2] at h
      refine Q.map (A.bT (gI_of zm195 (e := (70, 3, .if_icmp .ne 12, [41])) rfl) (decide_eq_true hc2)) ?_
      refine Q.run zm195 2 (i' := 43) (ls' := [some (.ref 121), some (.int x1), some (.int y0)]) (st' := [.int 0, .ref 121]) rfl ?_
      obtain ⟨s3, hs4, h⟩ := nx_so h
      refine Q.pf hs4 rfl (gI_of zm195 (e := (84, 3, .putfield 246, [9, 36, 1])) rfl) (hl.lt (a := 121) (by decide)) (by decide) (hl.T (a := 121) (p := (9, 45)) 43 rfl rfl) (by decide) rfl rfl ?_
      have hl5 : Ly tt cc s3 := by rw [hs4]; exact hl.wId (by decide)
      refine Q.run zm195 2 (i' := 46) (ls' := [some (.ref 121), some (.int x1), some (.int y0)]) (st' := [.int 0, .ref 121]) rfl ?_
      obtain ⟨s6, hs7, h⟩ := nx_so h
      refine Q.pf hs7 rfl (gI_of zm195 (e := (89, 3, .putfield 243, [9, 35, 0])) rfl) (hl5.lt (a := 121) (by decide)) (by decide) (hl5.T (a := 121) (p := (9, 45)) 43 rfl rfl) (by decide) rfl rfl ?_
      have hl8 : Ly tt cc s6 := by rw [hs7]; exact hl5.wId (by decide)
      refine Q.run zm195 1 (i' := 48) (ls' := [some (.ref 121), some (.int x1), some (.int y0)]) (st' := [.int x1]) rfl ?_
      obtain ⟨r11, hc10, h⟩ := bu_so h
      have hq9 : Q 2 sio tt cc d 196 0 [some (.int x1)] [] s6 (.inl (some (.int r11)), s6) := dt196 (by omega) hl8  hc10
      refine Q.callI (gC_st zm195 (show zM195.2.2.2.2.2[48]? = some (93, 3, .invokestatic 100, [0, 196, 1]) from rfl) zm196 (show aC 1 [.int x1] 1 = some ([some (.int x1)], []) from rfl)) hq9 ?_
      by_cases hc12 : r11 = 0
      · rw [if_pos hc12] at h
        refine Q.map (A.zF (gI_of zm195 (e := (96, 3, .ifCond .ne 9, [53])) rfl) (fun q => of_decide_eq_true q hc12)) ?_
        refine Q.run zm195 2 (i' := 52) (ls' := [some (.ref 121), some (.int x1), some (.int y0)]) (st' := [.int 46, .int x1]) rfl ?_
        by_cases hc13 : x1 = 46
        · rw [if_pos hc13] at h
          refine Q.map (A.bF (gI_of zm195 (e := (102, 3, .if_icmp .ne 10, [56])) rfl) (fun q => of_decide_eq_true q hc13)) ?_
          exact dt195_53 hd hl8  h
        · rw [if_neg hc13] at h
          refine Q.map (A.bT (gI_of zm195 (e := (102, 3, .if_icmp .ne 10, [56])) rfl) (decide_eq_true hc13)) ?_
          refine Q.run zm195 2 (i' := 58) (ls' := [some (.ref 121), some (.int x1), some (.int y0)]) (st' := [.int 34, .int x1]) rfl ?_
          by_cases hc14 : x1 = 34
          · rw [if_pos hc14] at h
            refine Q.map (A.bF (gI_of zm195 (e := (115, 3, .if_icmp .ne 10, [62])) rfl) (fun q => of_decide_eq_true q hc14)) ?_
            refine Q.run zm195 1 (i' := 60) (ls' := [some (.ref 121), some (.int x1), some (.int y0)]) (st' := [.ref 121]) rfl ?_
            obtain ⟨s17, hc16, h⟩ := bu_so h
            have hq15 : Q 2 sio tt cc d 201 0 [some (.ref 121), none, none] [] s6 (.inl none, s17) := dt201 (by omega) hl8  hc16
            refine Q.callV (gC_vi zm195 (show zM195.2.2.2.2.2[60]? = some (119, 3, .invokevirtual 264, [0, 201, 0, 9]) from rfl) zm201 (hl8.lt (a := 121) (by decide)) (hl8.T (a := 121) (p := (9, 45)) 43 rfl rfl) rfl (show aCr 0 121 [.ref 121] 3 = some ([some (.ref 121), none, none], []) from rfl)) hq15 ?_
            refine Q.run zm195 1 (i' := 88) (ls' := [some (.ref 121), some (.int x1), some (.int y0)]) (st' := []) rfl ?_
            cases h
            exact Q.ret (A.rv zm195 (show zM195.2.2.2.2.2[88]? = some (180, 1, .return_, []) from rfl) rfl) hq15.1
          · rw [if_neg hc14] at h
            refine Q.map (A.bT (gI_of zm195 (e := (115, 3, .if_icmp .ne 10, [62])) rfl) (decide_eq_true hc14)) ?_
            refine Q.run zm195 2 (i' := 64) (ls' := [some (.ref 121), some (.int x1), some (.int y0)]) (st' := [.int 35, .int x1]) rfl ?_
            by_cases hc18 : x1 = 35
            · rw [if_pos hc18] at h
              refine Q.map (A.bF (gI_of zm195 (e := (128, 3, .if_icmp .ne 10, [68])) rfl) (fun q => of_decide_eq_true q hc18)) ?_
              refine Q.run zm195 1 (i' := 66) (ls' := [some (.ref 121), some (.int x1), some (.int y0)]) (st' := [.ref 121]) rfl ?_
              obtain ⟨s21, hc20, h⟩ := bu_so h
              have hq19 : Q 2 sio tt cc d 203 0 [some (.ref 121), none, none, none, none, none, none, none] [] s6 (.inl none, s21) := dt203 (by omega) hl8  hc20
              refine Q.callV (gC_vi zm195 (show zM195.2.2.2.2.2[66]? = some (132, 3, .invokevirtual 267, [0, 203, 0, 9]) from rfl) zm203 (hl8.lt (a := 121) (by decide)) (hl8.T (a := 121) (p := (9, 45)) 43 rfl rfl) rfl (show aCr 0 121 [.ref 121] 8 = some ([some (.ref 121), none, none, none, none, none, none, none], []) from rfl)) hq19 ?_
              refine Q.run zm195 1 (i' := 88) (ls' := [some (.ref 121), some (.int x1), some (.int y0)]) (st' := []) rfl ?_
              cases h
              exact Q.ret (A.rv zm195 (show zM195.2.2.2.2.2[88]? = some (180, 1, .return_, []) from rfl) rfl) hq19.1
            · rw [if_neg hc18] at h
              refine Q.map (A.bT (gI_of zm195 (e := (128, 3, .if_icmp .ne 10, [68])) rfl) (decide_eq_true hc18)) ?_
              refine Q.run zm195 2 (i' := 70) (ls' := [some (.ref 121), some (.int x1), some (.int y0)]) (st' := [.int 39, .int x1]) rfl ?_
              by_cases hc22 : x1 = 39
              · rw [if_pos hc22] at h
                refine Q.map (A.bF (gI_of zm195 (e := (141, 3, .if_icmp .ne 10, [74])) rfl) (fun q => of_decide_eq_true q hc22)) ?_
                refine Q.run zm195 1 (i' := 72) (ls' := [some (.ref 121), some (.int x1), some (.int y0)]) (st' := [.ref 121]) rfl ?_
                obtain ⟨s25, hc24, h⟩ := bu_so h
                have hq23 : Q 2 sio tt cc d 205 0 [some (.ref 121), none] [] s6 (.inl none, s25) := dt205 (by omega) hl8  hc24
                refine Q.callV (gC_vi zm195 (show zM195.2.2.2.2.2[72]? = some (145, 3, .invokevirtual 270, [0, 205, 0, 9]) from rfl) zm205 (hl8.lt (a := 121) (by decide)) (hl8.T (a := 121) (p := (9, 45)) 43 rfl rfl) rfl (show aCr 0 121 [.ref 121] 2 = some ([some (.ref 121), none], []) from rfl)) hq23 ?_
                refine Q.run zm195 1 (i' := 88) (ls' := [some (.ref 121), some (.int x1), some (.int y0)]) (st' := []) rfl ?_
                cases h
                exact Q.ret (A.rv zm195 (show zM195.2.2.2.2.2[88]? = some (180, 1, .return_, []) from rfl) rfl) hq23.1
              · rw [if_neg hc22] at h
                refine Q.map (A.bT (gI_of zm195 (e := (141, 3, .if_icmp .ne 10, [74])) rfl) (decide_eq_true hc22)) ?_
                refine Q.run zm195 2 (i' := 76) (ls' := [some (.ref 121), some (.int x1), some (.int y0)]) (st' := [.int 36, .int x1]) rfl ?_
                by_cases hc26 : x1 = 36
                · rw [if_pos hc26] at h
                  refine Q.map (A.bF (gI_of zm195 (e := (154, 3, .if_icmp .ne 22, [86])) rfl) (fun q => of_decide_eq_true q hc26)) ?_
                  refine Q.run zm195 1 (i' := 78) (ls' := [some (.ref 121), some (.int x1), some (.int y0)]) (st' := [.ref 121]) rfl ?_
                  obtain ⟨s29, hc28, h⟩ := bu_so h
                  have hq27 : Q 2 sio tt cc d 207 0 [some (.ref 121), none] [] s6 (.inl none, s29) := dt207 (by omega) hl8  hc28
                  refine Q.callV (gC_vi zm195 (show zM195.2.2.2.2.2[78]? = some (158, 3, .invokevirtual 216, [0, 207, 0, 9]) from rfl) zm207 (hl8.lt (a := 121) (by decide)) (hl8.T (a := 121) (p := (9, 45)) 43 rfl rfl) rfl (show aCr 0 121 [.ref 121] 2 = some ([some (.ref 121), none], []) from rfl)) hq27 ?_
                  refine Q.run zm195 1 (i' := 80) (ls' := [some (.ref 121), some (.int x1), some (.int y0)]) (st' := [.ref 121]) rfl ?_
                  refine Q.map (A.gf (gI_of zm195 (e := (162, 3, .getfield 134, [9, 27])) rfl) (hq27.1.lt (a := 121) (by decide)) (hq27.1.T (a := 121) (p := (9, 45)) 43 rfl rfl) (by decide) rfl) ?_
                  by_cases hc30 : (sI s29 121 27) = 0
                  · rw [if_pos hc30] at h
                    refine Q.map (A.zF (gI_of zm195 (e := (165, 3, .ifCond .ne 15, [88])) rfl) (fun q => of_decide_eq_true q hc30)) ?_
                    refine Q.run zm195 2 (i' := 84) (ls' := [some (.ref 121), some (.int x1), some (.int y0)]) (st' := [.int (-1), .ref 121]) rfl ?_
                    obtain ⟨s33, hc32, h⟩ := bu_so h
                    have hq31 : Q 2 sio tt cc d 209 0 [some (.ref 121), some (.int (-1)), none, none] [] s29 (.inl none, s33) := dt209 (by omega) hq27.1  hc32
                    refine Q.callV (gC_vi zm195 (show zM195.2.2.2.2.2[84]? = some (170, 3, .invokevirtual 231, [0, 209, 1, 9]) from rfl) zm209 (hq27.1.lt (a := 121) (by decide)) (hq27.1.T (a := 121) (p := (9, 45)) 43 rfl rfl) rfl (show aCr 1 121 [.int (-1), .ref 121] 4 = some ([some (.ref 121), some (.int (-1)), none, none], []) from rfl)) hq31 ?_
                    refine Q.run zm195 1 (i' := 88) (ls' := [some (.ref 121), some (.int x1), some (.int y0)]) (st' := []) rfl ?_
                    cases h
                    exact Q.ret (A.rv zm195 (show zM195.2.2.2.2.2[88]? = some (180, 1, .return_, []) from rfl) rfl) hq31.1
                  · rw [if_neg hc30] at h
                    refine Q.map (A.zT (gI_of zm195 (e := (165, 3, .ifCond .ne 15, [88])) rfl) (decide_eq_true hc30)) ?_
                    cases h
                    exact Q.ret (A.rv zm195 (show zM195.2.2.2.2.2[88]? = some (180, 1, .return_, []) from rfl) rfl) hq27.1
                · rw [if_neg hc26] at h
                  refine Q.map (A.bT (gI_of zm195 (e := (154, 3, .if_icmp .ne 22, [86])) rfl) (decide_eq_true hc26)) ?_
                  refine Q.run zm195 1 (i' := 87) (ls' := [some (.ref 121), some (.int x1), some (.int y0)]) (st' := [.ref 121]) rfl ?_
                  obtain ⟨s36, hc35, h⟩ := bu_so h
                  have hq34 : Q 2 sio tt cc d 210 0 [some (.ref 121), none, none, none, none, none] [] s6 (.inl none, s36) := dt210 (by omega) hl8  hc35
                  refine Q.callV (gC_vi zm195 (show zM195.2.2.2.2.2[87]? = some (177, 3, .invokevirtual 273, [0, 210, 0, 9]) from rfl) zm210 (hl8.lt (a := 121) (by decide)) (hl8.T (a := 121) (p := (9, 45)) 43 rfl rfl) rfl (show aCr 0 121 [.ref 121] 6 = some ([some (.ref 121), none, none, none, none, none], []) from rfl)) hq34 ?_
                  cases h
                  exact Q.ret (A.rv zm195 (show zM195.2.2.2.2.2[88]? = some (180, 1, .return_, []) from rfl) rfl) hq34.1
      · rw [if_neg hc12] at h
        refine Q.map (A.zT (gI_of zm195 (e := (96, 3, .ifCond .ne 9, [53])) rfl) (decide_eq_true hc12)) ?_
        exact dt195_53 hd hl8  h
def dm195_26 (x1 : Int32) (s : aS) : Option (aS) :=
  dm195_29 x1 1 s
set_option maxRecDepth 100000 in
theorem dt195_26 {sio : Bool} {tt : Nat} {cc : Nat → Nat → Int32} {d : Nat} (hd : 5 ≤ d) {x1 : Int32} {s : aS} (hl : Ly tt cc s) {o : aS} (h : dm195_26  x1 s = some o) : Q 2 sio tt cc d 195 26 [some (.ref 121), some (.int x1), none] [] s (.inl none, o) := by
  unfold dm195_26 at h
  obtain ⟨d, rfl⟩ : ∃ e, d = e + 1 := ⟨d - 1, by omega⟩
  refine Q.run zm195 2 (i' := 29) (ls' := [some (.ref 121), some (.int x1), none]) (st' := [.int 1]) rfl ?_
  exact dt195_29 hd hl  h
def dm195 (s : aS) : Option (aS) :=
  bu (dm176 (sI s 121 26) s) fun r3 =>
  bu (dm196 r3) fun r6 =>
  if r6 = 0 then
    if r3 = 46 then
      dm195_26 r3 s
    else
      if r3 = 34 then
        dm195_26 r3 s
      else
        if r3 = 35 then
          dm195_26 r3 s
        else
          bu (dm197 r3) fun r13 =>
          if r13 = 0 then
            if r3 = 36 then
              dm195_26 r3 s
            else
              if r3 = 39 then
                dm195_26 r3 s
              else
                dm195_29 r3 0 s
          else
            dm195_26 r3 s
  else
    dm195_26 r3 s
set_option maxRecDepth 100000 in
theorem dt195 {sio : Bool} {tt : Nat} {cc : Nat → Nat → Int32} {d : Nat} (hd : 5 ≤ d) {s : aS} (hl : Ly tt cc s) {o : aS} (h : dm195  s = some o) : Q 2 sio tt cc d 195 0 [some (.ref 121), none, none] [] s (.inl none, o) := by
  unfold dm195 at h
  obtain ⟨d, rfl⟩ : ∃ e, d = e + 1 := ⟨d - 1, by omega⟩
  refine Q.run zm195 2 (i' := 2) (ls' := [some (.ref 121), none, none]) (st' := [.ref 121, .ref 121]) rfl ?_
  refine Q.map (A.gf (gI_of zm195 (e := (2, 3, .getfield 138, [9, 26])) rfl) (hl.lt (a := 121) (by decide)) (hl.T (a := 121) (p := (9, 45)) 43 rfl rfl) (by decide) rfl) ?_
  obtain ⟨r3, hc2, h⟩ := bu_so h
  have hq1 : Q 2 sio tt cc d 176 0 [some (.ref 121), some (.int (sI s 121 26))] [] s (.inl (some (.int r3)), s) := dt176 (by omega) hl  hc2
  refine Q.callI (gC_vi zm195 (show zM195.2.2.2.2.2[3]? = some (5, 3, .invokevirtual 113, [0, 176, 1, 9]) from rfl) zm176 (hl.lt (a := 121) (by decide)) (hl.T (a := 121) (p := (9, 45)) 43 rfl rfl) rfl (show aCr 1 121 [.int (sI s 121 26), .ref 121] 2 = some ([some (.ref 121), some (.int (sI s 121 26))], []) from rfl)) hq1 ?_
  refine Q.run zm195 2 (i' := 6) (ls' := [some (.ref 121), some (.int r3), none]) (st' := [.int r3]) rfl ?_
  obtain ⟨r6, hc5, h⟩ := bu_so h
  have hq4 : Q 2 sio tt cc d 196 0 [some (.int r3)] [] s (.inl (some (.int r6)), s) := dt196 (by omega) hl  hc5
  refine Q.callI (gC_st zm195 (show zM195.2.2.2.2.2[6]? = some (10, 3, .invokestatic 100, [0, 196, 1]) from rfl) zm196 (show aC 1 [.int r3] 1 = some ([some (.int r3)], []) from rfl)) hq4 ?_
  by_cases hc7 : r6 = 0
  · rw [if_pos hc7] at h
    refine Q.map (A.zF (gI_of zm195 (e := (13, 3, .ifCond .ne 40, [26])) rfl) (fun q => of_decide_eq_true q hc7)) ?_
    refine Q.run zm195 2 (i' := 10) (ls' := [some (.ref 121), some (.int r3), none]) (st' := [.int 46, .int r3]) rfl ?_
    by_cases hc8 : r3 = 46
    · rw [if_pos hc8] at h
      refine Q.map (A.bT (gI_of zm195 (e := (19, 3, .if_icmp .eq 34, [26])) rfl) (decide_eq_true hc8)) ?_
      exact dt195_26 hd hl  h
    · rw [if_neg hc8] at h
      refine Q.map (A.bF (gI_of zm195 (e := (19, 3, .if_icmp .eq 34, [26])) rfl) (fun q => hc8 (of_decide_eq_true q))) ?_
      refine Q.run zm195 2 (i' := 13) (ls' := [some (.ref 121), some (.int r3), none]) (st' := [.int 34, .int r3]) rfl ?_
      by_cases hc9 : r3 = 34
      · rw [if_pos hc9] at h
        refine Q.map (A.bT (gI_of zm195 (e := (25, 3, .if_icmp .eq 28, [26])) rfl) (decide_eq_true hc9)) ?_
        exact dt195_26 hd hl  h
      · rw [if_neg hc9] at h
        refine Q.map (A.bF (gI_of zm195 (e := (25, 3, .if_icmp .eq 28, [26])) rfl) (fun q => hc9 (of_decide_eq_true q))) ?_
        refine Q.run zm195 2 (i' := 16) (ls' := [some (.ref 121), some (.int r3), none]) (st' := [.int 35, .int r3]) rfl ?_
        by_cases hc10 : r3 = 35
        · rw [if_pos hc10] at h
          refine Q.map (A.bT (gI_of zm195 (e := (31, 3, .if_icmp .eq 22, [26])) rfl) (decide_eq_true hc10)) ?_
          exact dt195_26 hd hl  h
        · rw [if_neg hc10] at h
          refine Q.map (A.bF (gI_of zm195 (e := (31, 3, .if_icmp .eq 22, [26])) rfl) (fun q => hc10 (of_decide_eq_true q))) ?_
          refine Q.run zm195 1 (i' := 18) (ls' := [some (.ref 121), some (.int r3), none]) (st' := [.int r3]) rfl ?_
          obtain ⟨r13, hc12, h⟩ := bu_so h
          have hq11 : Q 2 sio tt cc d 197 0 [some (.int r3)] [] s (.inl (some (.int r13)), s) := dt197 (by omega) hl  hc12
          refine Q.callI (gC_st zm195 (show zM195.2.2.2.2.2[18]? = some (35, 3, .invokestatic 97, [0, 197, 1]) from rfl) zm197 (show aC 1 [.int r3] 1 = some ([some (.int r3)], []) from rfl)) hq11 ?_
          by_cases hc14 : r13 = 0
          · rw [if_pos hc14] at h
            refine Q.map (A.zF (gI_of zm195 (e := (38, 3, .ifCond .ne 15, [26])) rfl) (fun q => of_decide_eq_true q hc14)) ?_
            refine Q.run zm195 2 (i' := 22) (ls' := [some (.ref 121), some (.int r3), none]) (st' := [.int 36, .int r3]) rfl ?_
            by_cases hc15 : r3 = 36
            · rw [if_pos hc15] at h
              refine Q.map (A.bT (gI_of zm195 (e := (44, 3, .if_icmp .eq 9, [26])) rfl) (decide_eq_true hc15)) ?_
              exact dt195_26 hd hl  h
            · rw [if_neg hc15] at h
              refine Q.map (A.bF (gI_of zm195 (e := (44, 3, .if_icmp .eq 9, [26])) rfl) (fun q => hc15 (of_decide_eq_true q))) ?_
              refine Q.run zm195 2 (i' := 25) (ls' := [some (.ref 121), some (.int r3), none]) (st' := [.int 39, .int r3]) rfl ?_
              by_cases hc16 : r3 = 39
              · rw [if_pos hc16] at h
                refine Q.map (A.bF (gI_of zm195 (e := (50, 3, .if_icmp .ne 7, [28])) rfl) (fun q => of_decide_eq_true q hc16)) ?_
                exact dt195_26 hd hl  h
              · rw [if_neg hc16] at h
                refine Q.map (A.bT (gI_of zm195 (e := (50, 3, .if_icmp .ne 7, [28])) rfl) (decide_eq_true hc16)) ?_
                refine Q.run zm195 1 (i' := 29) (ls' := [some (.ref 121), some (.int r3), none]) (st' := [.int 0]) rfl ?_
                exact dt195_29 hd hl  h
          · rw [if_neg hc14] at h
            refine Q.map (A.zT (gI_of zm195 (e := (38, 3, .ifCond .ne 15, [26])) rfl) (decide_eq_true hc14)) ?_
            exact dt195_26 hd hl  h
  · rw [if_neg hc7] at h
    refine Q.map (A.zT (gI_of zm195 (e := (13, 3, .ifCond .ne 40, [26])) rfl) (decide_eq_true hc7)) ?_
    exact dt195_26 hd hl  h
