/-! 249 FormulaTreesModel.count(I)I -/
set_option maxRecDepth 100000 in
theorem zm249 : zP[249]? = some zM249 := rfl
def dm249_56 (k43 : Int32 → Int32 → aS → Option (Int32 × aS)) (x3 : Int32) (y0 : Int32) (s : aS) : Option (Int32 × aS) :=
  k43 y0 (x3 + 1) s
set_option maxRecDepth 100000 in
theorem dt249_56 {sio : Bool} {tt : Nat} {cc : Nat → Nat → Int32} {d : Nat} (hd : 0 ≤ d) {k43 : Int32 → Int32 → aS → Option (Int32 × aS)} (hk43 : ∀ {x2 : Int32} {x3 : Int32} {x1 : Int32} {s : aS}, Ly tt cc s → ∀ {o : Int32 × aS}, k43 x2 x3 s = some o → Q 2 sio tt cc d 249 43 [some (.ref 121), some (.int x1), some (.int x2), some (.int x3)] [] s (.inl (some (.int o.1)), o.2)) {x3 : Int32} {y0 : Int32} {x1 : Int32} {x2 : Int32} {s : aS} (hl : Ly tt cc s) {o : Int32 × aS} (h : dm249_56 k43 x3 y0 s = some o) : Q 2 sio tt cc d 249 56 [some (.ref 121), some (.int x1), some (.int x2), some (.int x3)] [.int y0] s (.inl (some (.int o.1)), o.2) := by
  unfold dm249_56 at h
  refine Q.run zm249 3 (i' := 43) (ls' := [some (.ref 121), some (.int x1), some (.int y0), some (.int (x3 + 1))]) (st' := []) rfl ?_
  exact hk43 hl  h
def dm249_43 : Nat → Int32 → Int32 → aS → Option (Int32 × aS)
  | 0, _, _, _ => none
  | n + 1, x2, x3, s =>
    if 8 ≤ x3 then
      some (x2, s)
    else
      if aB x3 8 then
        if (sI s 125 (jN x3)) = 0 then
          dm249_56 (dm249_43 n) x3 x2 s
        else
          dm249_56 (dm249_43 n) x3 (x2 + 1) s
      else none
set_option maxRecDepth 100000 in
theorem dt249_43 {sio : Bool} {tt : Nat} {cc : Nat → Nat → Int32} {d : Nat} (hd : 0 ≤ d) : ∀ (n : Nat) {x2 : Int32} {x3 : Int32} {x1 : Int32} {s : aS} (_ : Ly tt cc s) {o : Int32 × aS} (_ : dm249_43  n x2 x3 s = some o), Q 2 sio tt cc d 249 43 [some (.ref 121), some (.int x1), some (.int x2), some (.int x3)] [] s (.inl (some (.int o.1)), o.2) := by
  intro n
  induction n with
  | zero => intro x2 x3 x1 s hl o h; rw [dm249_43] at h; cases h
  | succ n ih =>
    intro x2 x3 x1 s hl o h
    rw [dm249_43] at h
    refine Q.run zm249 2 (i' := 45) (ls' := [some (.ref 121), some (.int x1), some (.int x2), some (.int x3)]) (st' := [.int 8, .int x3]) rfl ?_
    by_cases hc1 : 8 ≤ x3
    · rw [if_pos hc1] at h
      refine Q.map (A.bT (gI_of zm249 (e := (73, 3, .if_icmp .ge 26, [59])) rfl) (decide_eq_true hc1)) ?_
      refine Q.run zm249 1 (i' := 60) (ls' := [some (.ref 121), some (.int x1), some (.int x2), some (.int x3)]) (st' := [.int x2]) rfl ?_
      cases h
      exact Q.ret (A.ri zm249 (show zM249.2.2.2.2.2[60]? = some (100, 1, .ireturn, []) from rfl) rfl rfl) hl
    · rw [if_neg hc1] at h
      refine Q.map (A.bF (gI_of zm249 (e := (73, 3, .if_icmp .ge 26, [59])) rfl) (fun q => hc1 (of_decide_eq_true q))) ?_
      refine Q.run zm249 1 (i' := 47) (ls' := [some (.ref 121), some (.int x1), some (.int x2), some (.int x3)]) (st' := [.ref 121]) rfl ?_
      refine Q.map (A.gf (gI_of zm249 (e := (77, 3, .getfield 19, [9, 6])) rfl) (hl.lt (a := 121) (by decide)) (hl.T (a := 121) (p := (9, 45)) 43 rfl rfl) (by decide) (hl.R 26 rfl)) ?_
      refine Q.run zm249 1 (i' := 49) (ls' := [some (.ref 121), some (.int x1), some (.int x2), some (.int x3)]) (st' := [.int x3, .ref 125]) rfl ?_
      obtain ⟨hc2, h⟩ := ite_so h
      refine Q.map (A.ba (gI_of zm249 (e := (81, 1, .baload, [])) rfl) (hl.lt (a := 125) (by decide)) (hl.T (a := 125) (p := (103, 8)) 47 rfl rfl) (by decide) hc2) ?_
      by_cases hc3 : (sI s 125 (jN x3)) = 0
      · rw [if_pos hc3] at h
        refine Q.map (A.zT (gI_of zm249 (e := (82, 3, .ifCond .eq 9, [55])) rfl) (decide_eq_true hc3)) ?_
        refine Q.run zm249 1 (i' := 56) (ls' := [some (.ref 121), some (.int x1), some (.int x2), some (.int x3)]) (st' := [.int x2]) rfl ?_
        exact dt249_56 hd ih hl  h
      · rw [if_neg hc3] at h
        refine Q.map (A.zF (gI_of zm249 (e := (82, 3, .ifCond .eq 9, [55])) rfl) (fun q => hc3 (of_decide_eq_true q))) ?_
        refine Q.run zm249 4 (i' := 56) (ls' := [some (.ref 121), some (.int x1), some (.int x2), some (.int x3)]) (st' := [.int (x2 + 1)]) rfl ?_
        exact dt249_56 hd ih hl  h
def dm249_9 (x1 : Int32) (y1 : Int32) (s : aS) : Option (Int32 × aS) :=
  nx (wI s 121 0 y1) fun s1 =>
  if (sI s1 121 0) ≤ 0 then
    if x1 = 0 then
      some (sI s1 121 3, s1)
    else
      if x1 ≤ 1 then
        dm249_43 5000 0 0 s1
      else
        if aB (x1 - 2) 8 then
          if (sI s1 125 (jN (x1 - 2))) = 0 then
            some ((-1), s1)
          else
            if aB (x1 - 2) 8 then
              some (sI s1 126 (jN (x1 - 2)), s1)
            else none
        else none
  else
    some (0, s1)
set_option maxRecDepth 100000 in
theorem dt249_9 {sio : Bool} {tt : Nat} {cc : Nat → Nat → Int32} {d : Nat} (hd : 0 ≤ d) {x1 : Int32} {y1 : Int32} {s : aS} (hl : Ly tt cc s) {o : Int32 × aS} (h : dm249_9  x1 y1 s = some o) : Q 2 sio tt cc d 249 9 [some (.ref 121), some (.int x1), none, none] [.int y1, .ref 121] s (.inl (some (.int o.1)), o.2) := by
  unfold dm249_9 at h
  obtain ⟨s1, hs2, h⟩ := nx_so h
  refine Q.pf hs2 rfl (gI_of zm249 (e := (16, 3, .putfield 89, [9, 0, 0])) rfl) (hl.lt (a := 121) (by decide)) (by decide) (hl.T (a := 121) (p := (9, 45)) 43 rfl rfl) (by decide) rfl rfl ?_
  have hl3 : Ly tt cc s1 := by rw [hs2]; exact hl.wId (by decide)
  refine Q.run zm249 1 (i' := 11) (ls' := [some (.ref 121), some (.int x1), none, none]) (st' := [.ref 121]) rfl ?_
  refine Q.map (A.gf (gI_of zm249 (e := (20, 3, .getfield 89, [9, 0])) rfl) (hl3.lt (a := 121) (by decide)) (hl3.T (a := 121) (p := (9, 45)) 43 rfl rfl) (by decide) rfl) ?_
  by_cases hc4 : (sI s1 121 0) ≤ 0
  · rw [if_pos hc4] at h
    refine Q.map (A.zT (gI_of zm249 (e := (23, 3, .ifCond .le 5, [15])) rfl) (decide_eq_true hc4)) ?_
    refine Q.run zm249 1 (i' := 16) (ls' := [some (.ref 121), some (.int x1), none, none]) (st' := [.int x1]) rfl ?_
    by_cases hc5 : x1 = 0
    · rw [if_pos hc5] at h
      refine Q.map (A.zF (gI_of zm249 (e := (29, 3, .ifCond .ne 8, [20])) rfl) (fun q => of_decide_eq_true q hc5)) ?_
      refine Q.run zm249 1 (i' := 18) (ls' := [some (.ref 121), some (.int x1), none, none]) (st' := [.ref 121]) rfl ?_
      refine Q.map (A.gf (gI_of zm249 (e := (33, 3, .getfield 106, [9, 3])) rfl) (hl3.lt (a := 121) (by decide)) (hl3.T (a := 121) (p := (9, 45)) 43 rfl rfl) (by decide) rfl) ?_
      cases h
      exact Q.ret (A.ri zm249 (show zM249.2.2.2.2.2[19]? = some (36, 1, .ireturn, []) from rfl) rfl rfl) hl3
    · rw [if_neg hc5] at h
      refine Q.map (A.zT (gI_of zm249 (e := (29, 3, .ifCond .ne 8, [20])) rfl) (decide_eq_true hc5)) ?_
      refine Q.run zm249 2 (i' := 22) (ls' := [some (.ref 121), some (.int x1), none, none]) (st' := [.int 1, .int x1]) rfl ?_
      by_cases hc6 : x1 ≤ 1
      · rw [if_pos hc6] at h
        refine Q.map (A.bT (gI_of zm249 (e := (39, 3, .if_icmp .le 27, [39])) rfl) (decide_eq_true hc6)) ?_
        refine Q.run zm249 4 (i' := 43) (ls' := [some (.ref 121), some (.int x1), some (.int 0), some (.int 0)]) (st' := []) rfl ?_
        exact dt249_43 hd _ hl3  h
      · rw [if_neg hc6] at h
        refine Q.map (A.bF (gI_of zm249 (e := (39, 3, .if_icmp .le 27, [39])) rfl) (fun q => hc6 (of_decide_eq_true q))) ?_
        refine Q.run zm249 1 (i' := 24) (ls' := [some (.ref 121), some (.int x1), none, none]) (st' := [.ref 121]) rfl ?_
        refine Q.map (A.gf (gI_of zm249 (e := (43, 3, .getfield 19, [9, 6])) rfl) (hl3.lt (a := 121) (by decide)) (hl3.T (a := 121) (p := (9, 45)) 43 rfl rfl) (by decide) (hl3.R 26 rfl)) ?_
        refine Q.run zm249 3 (i' := 28) (ls' := [some (.ref 121), some (.int x1), none, none]) (st' := [.int (x1 - 2), .ref 125]) rfl ?_
        obtain ⟨hc7, h⟩ := ite_so h
        refine Q.map (A.ba (gI_of zm249 (e := (49, 1, .baload, [])) rfl) (hl3.lt (a := 125) (by decide)) (hl3.T (a := 125) (p := (103, 8)) 47 rfl rfl) (by decide) hc7) ?_
        by_cases hc8 : (sI s1 125 (jN (x1 - 2))) = 0
        · rw [if_pos hc8] at h
          refine Q.map (A.zT (gI_of zm249 (e := (50, 3, .ifCond .eq 14, [37])) rfl) (decide_eq_true hc8)) ?_
          refine Q.run zm249 1 (i' := 38) (ls' := [some (.ref 121), some (.int x1), none, none]) (st' := [.int (-1)]) rfl ?_
          cases h
          exact Q.ret (A.ri zm249 (show zM249.2.2.2.2.2[38]? = some (65, 1, .ireturn, []) from rfl) rfl rfl) hl3
        · rw [if_neg hc8] at h
          refine Q.map (A.zF (gI_of zm249 (e := (50, 3, .ifCond .eq 14, [37])) rfl) (fun q => hc8 (of_decide_eq_true q))) ?_
          refine Q.run zm249 1 (i' := 31) (ls' := [some (.ref 121), some (.int x1), none, none]) (st' := [.ref 121]) rfl ?_
          refine Q.map (A.gf (gI_of zm249 (e := (54, 3, .getfield 23, [9, 7])) rfl) (hl3.lt (a := 121) (by decide)) (hl3.T (a := 121) (p := (9, 45)) 43 rfl rfl) (by decide) (hl3.R 27 rfl)) ?_
          refine Q.run zm249 3 (i' := 35) (ls' := [some (.ref 121), some (.int x1), none, none]) (st' := [.int (x1 - 2), .ref 126]) rfl ?_
          obtain ⟨hc9, h⟩ := ite_so h
          refine Q.map (A.ia (gI_of zm249 (e := (60, 1, .iaload, [])) rfl) (hl3.lt (a := 126) (by decide)) (hl3.T (a := 126) (p := (100, 8)) 48 rfl rfl) hc9) ?_
          refine Q.run zm249 1 (i' := 38) (ls' := [some (.ref 121), some (.int x1), none, none]) (st' := [.int (sI s1 126 (jN (x1 - 2)))]) rfl ?_
          cases h
          exact Q.ret (A.ri zm249 (show zM249.2.2.2.2.2[38]? = some (65, 1, .ireturn, []) from rfl) rfl rfl) hl3
  · rw [if_neg hc4] at h
    refine Q.map (A.zF (gI_of zm249 (e := (23, 3, .ifCond .le 5, [15])) rfl) (fun q => hc4 (of_decide_eq_true q))) ?_
    refine Q.run zm249 1 (i' := 14) (ls' := [some (.ref 121), some (.int x1), none, none]) (st' := [.int 0]) rfl ?_
    cases h
    exact Q.ret (A.ri zm249 (show zM249.2.2.2.2.2[14]? = some (27, 1, .ireturn, []) from rfl) rfl rfl) hl3
def dm249_6 (x1 : Int32) (s : aS) : Option (Int32 × aS) :=
  dm249_9 x1 1 s
set_option maxRecDepth 100000 in
theorem dt249_6 {sio : Bool} {tt : Nat} {cc : Nat → Nat → Int32} {d : Nat} (hd : 0 ≤ d) {x1 : Int32} {s : aS} (hl : Ly tt cc s) {o : Int32 × aS} (h : dm249_6  x1 s = some o) : Q 2 sio tt cc d 249 6 [some (.ref 121), some (.int x1), none, none] [.ref 121] s (.inl (some (.int o.1)), o.2) := by
  unfold dm249_6 at h
  refine Q.run zm249 2 (i' := 9) (ls' := [some (.ref 121), some (.int x1), none, none]) (st' := [.int 1, .ref 121]) rfl ?_
  exact dt249_9 hd hl  h
def dm249 (x1 : Int32) (s : aS) : Option (Int32 × aS) :=
  if x1 < 0 then
    dm249_6 x1 s
  else
    if x1 ≤ 9 then
      dm249_9 x1 0 s
    else
      dm249_6 x1 s
set_option maxRecDepth 100000 in
theorem dt249 {sio : Bool} {tt : Nat} {cc : Nat → Nat → Int32} {d : Nat} (hd : 0 ≤ d) {x1 : Int32} {s : aS} (hl : Ly tt cc s) {o : Int32 × aS} (h : dm249  x1 s = some o) : Q 2 sio tt cc d 249 0 [some (.ref 121), some (.int x1), none, none] [] s (.inl (some (.int o.1)), o.2) := by
  unfold dm249 at h
  refine Q.run zm249 2 (i' := 2) (ls' := [some (.ref 121), some (.int x1), none, none]) (st' := [.int x1, .ref 121]) rfl ?_
  by_cases hc1 : x1 < 0
  · rw [if_pos hc1] at h
    refine Q.map (A.zT (gI_of zm249 (e := (2, 3, .ifCond .lt 9, [6])) rfl) (decide_eq_true hc1)) ?_
    exact dt249_6 hd hl  h
  · rw [if_neg hc1] at h
    refine Q.map (A.zF (gI_of zm249 (e := (2, 3, .ifCond .lt 9, [6])) rfl) (fun q => hc1 (of_decide_eq_true q))) ?_
    refine Q.run zm249 2 (i' := 5) (ls' := [some (.ref 121), some (.int x1), none, none]) (st' := [.int 9, .int x1, .ref 121]) rfl ?_
    by_cases hc2 : x1 ≤ 9
    · rw [if_pos hc2] at h
      refine Q.map (A.bT (gI_of zm249 (e := (8, 3, .if_icmp .le 7, [8])) rfl) (decide_eq_true hc2)) ?_
      refine Q.run zm249 1 (i' := 9) (ls' := [some (.ref 121), some (.int x1), none, none]) (st' := [.int 0, .ref 121]) rfl ?_
      exact dt249_9 hd hl  h
    · rw [if_neg hc2] at h
      refine Q.map (A.bF (gI_of zm249 (e := (8, 3, .if_icmp .le 7, [8])) rfl) (fun q => hc2 (of_decide_eq_true q))) ?_
      exact dt249_6 hd hl  h
/-! 169 FormulaTrees.name(II)I -/
set_option maxRecDepth 100000 in
theorem zm169 : zP[169]? = some zM169 := rfl
def dm169 (x1 : Int32) (x2 : Int32) (s : aS) : Option (xZ × aS) :=
  bu (dm40 x1 s) fun r3 =>
  if r3 = 0 then
    some (.inr 2, nw s 82 0)
  else
    bu (dm151 x1 x2 s) fun r7 =>
    some (.inl (some (.int r7)), s)
set_option maxRecDepth 100000 in
theorem dt169 {sio : Bool} {tt : Nat} {cc : Nat → Nat → Int32} {d : Nat} (hd : 9 ≤ d) {x1 : Int32} {x2 : Int32} {s : aS} (hl : Ly tt cc s) {o : xZ × aS} (h : dm169  x1 x2 s = some o) : Q 1 sio tt cc d 169 0 [some (.ref 78), some (.int x1), some (.int x2)] [] s o := by
  unfold dm169 at h
  obtain ⟨d, rfl⟩ : ∃ e, d = e + 1 := ⟨d - 1, by omega⟩
  refine Q.run zm169 1 (i' := 1) (ls' := [some (.ref 78), some (.int x1), some (.int x2)]) (st' := [.ref 78]) rfl ?_
  refine Q.map (A.gf (gI_of zm169 (e := (1, 3, .getfield 21, [0, 1])) rfl) (hl.lt (a := 78) (by decide)) (hl.T (a := 78) (p := (0, 7)) 0 rfl rfl) (by decide) (hl.R 1 rfl)) ?_
  refine Q.run zm169 1 (i' := 3) (ls' := [some (.ref 78), some (.int x1), some (.int x2)]) (st' := [.int x1, .ref 81]) rfl ?_
  obtain ⟨r3, hc2, h⟩ := bu_so h
  have hq1 : Q 1 sio tt cc d 40 0 [some (.ref 81), some (.int x1)] [] s (.inl (some (.int r3)), s) := dt40 (by omega) hl  hc2
  refine Q.callI (gC_vi zm169 (show zM169.2.2.2.2.2[3]? = some (5, 3, .invokevirtual 96, [0, 40, 1, 2]) from rfl) zm40 (hl.lt (a := 81) (by decide)) (hl.T (a := 81) (p := (2, 3)) 3 rfl rfl) rfl (show aCr 1 81 [.int x1, .ref 81] 2 = some ([some (.ref 81), some (.int x1)], []) from rfl)) hq1 ?_
  by_cases hc4 : r3 = 0
  · rw [if_pos hc4] at h
    refine Q.map (A.zF (gI_of zm169 (e := (8, 3, .ifCond .ne 13, [10])) rfl) (fun q => of_decide_eq_true q hc4)) ?_
    cases h
    exact Q.t zm169 (show zM169.2.2.2.2.2[5]? = some (11, 3, .new 100, [202]) from rfl) rfl rfl hl.gL (by omega) hl
  · rw [if_neg hc4] at h
    refine Q.map (A.zT (gI_of zm169 (e := (8, 3, .ifCond .ne 13, [10])) rfl) (decide_eq_true hc4)) ?_
    refine Q.run zm169 1 (i' := 11) (ls' := [some (.ref 78), some (.int x1), some (.int x2)]) (st' := [.ref 78]) rfl ?_
    refine Q.map (A.gf (gI_of zm169 (e := (22, 3, .getfield 21, [0, 1])) rfl) (hl.lt (a := 78) (by decide)) (hl.T (a := 78) (p := (0, 7)) 0 rfl rfl) (by decide) (hl.R 1 rfl)) ?_
    refine Q.run zm169 2 (i' := 14) (ls' := [some (.ref 78), some (.int x1), some (.int x2)]) (st' := [.int x2, .int x1, .ref 81]) rfl ?_
    obtain ⟨r7, hc6, h⟩ := bu_so h
    have hq5 : Q 1 sio tt cc d 151 0 [some (.ref 81), some (.int x1), some (.int x2)] [] s (.inl (some (.int r7)), s) := dt151 (by omega) hl  hc6
    refine Q.callI (gC_vi zm169 (show zM169.2.2.2.2.2[14]? = some (27, 3, .invokevirtual 189, [0, 151, 2, 2]) from rfl) zm151 (hl.lt (a := 81) (by decide)) (hl.T (a := 81) (p := (2, 3)) 3 rfl rfl) rfl (show aCr 2 81 [.int x2, .int x1, .ref 81] 3 = some ([some (.ref 81), some (.int x1), some (.int x2)], []) from rfl)) hq5 ?_
    cases h
    exact Q.ret (A.ri zm169 (show zM169.2.2.2.2.2[15]? = some (30, 1, .ireturn, []) from rfl) rfl rfl) hl
/-! 15 FormulaTreesLaw.name(LFormulaTrees;II[J)I -/
set_option maxRecDepth 100000 in
theorem zm15 : zP[15]? = some zM15 := rfl
def dm15 (x1 : Int32) (x2 : Int32) (s : aS) : Option (Int32 × aS) :=
  bv (dm169 x1 x2 s) fun z4 s3 =>
  zN z4 (fun v5 =>
    vI v5 fun r7 =>
    if aB 0 1 then
      nx (wJ s3 148 (jN 0) r7.toInt64) fun s10 =>
      some (0, s10)
    else none
  ) fun e6 =>
    if e6 = 2 then
      some (1, s3)
    else
      none
set_option maxRecDepth 100000 in
theorem dt15 {sio : Bool} {tt : Nat} {cc : Nat → Nat → Int32} {d : Nat} (hd : 10 ≤ d) {x1 : Int32} {x2 : Int32} {s : aS} (hl : Ly tt cc s) {o : Int32 × aS} (h : dm15  x1 x2 s = some o) : Q 1 sio tt cc d 15 0 [some (.ref 78), some (.int x1), some (.int x2), some (.ref 148), none] [] s (.inl (some (.int o.1)), o.2) := by
  unfold dm15 at h
  obtain ⟨d, rfl⟩ : ∃ e, d = e + 1 := ⟨d - 1, by omega⟩
  refine Q.run zm15 5 (i' := 5) (ls' := [some (.ref 78), some (.int x1), some (.int x2), some (.ref 148), none]) (st' := [.int x2, .int x1, .ref 78, .int 0, .ref 148]) rfl ?_
  obtain ⟨z4, s3, hc2, h⟩ := bv_so h
  have hq1 : Q 1 sio tt cc d 169 0 [some (.ref 78), some (.int x1), some (.int x2)] [] s (z4, s3) := dt169 (by omega) hl  hc2
  rcases zN_so h with ⟨v5, hz13, h8⟩ | ⟨e6, hz13, h8⟩
  · clear h
    subst hz13
    have h := h8
    obtain ⟨r7, hv8, h9⟩ := vI_so h
    clear h
    subst hv8
    have h := h9
    refine Q.callI (gC_vi zm15 (show zM15.2.2.2.2.2[5]? = some (5, 3, .invokevirtual 65, [0, 169, 2, 0]) from rfl) zm169 (hl.lt (a := 78) (by decide)) (hl.T (a := 78) (p := (0, 7)) 0 rfl rfl) rfl (show aCr 2 78 [.int x2, .int x1, .ref 78, .int 0, .ref 148] 3 = some ([some (.ref 78), some (.int x1), some (.int x2)], [.int 0, .ref 148]) from rfl)) hq1 ?_
    refine Q.run zm15 1 (i' := 7) (ls' := [some (.ref 78), some (.int x1), some (.int x2), some (.ref 148), none]) (st' := [.long r7.toInt64, .int 0, .ref 148]) rfl ?_
    obtain ⟨hc9, h⟩ := ite_so h
    obtain ⟨s10, hs11, h⟩ := nx_so h
    refine Q.lS hs11 rfl (gI_of zm15 (e := (9, 1, .lastore, [])) rfl) (hq1.1.lt (a := 148) (by decide)) (by decide) (hq1.1.T (a := 148) (p := (104, 1)) 70 rfl rfl) hc9 ?_
    have hl12 : Ly tt cc s10 := by rw [hs11]; exact hq1.1.wJd
    refine Q.run zm15 2 (i' := 13) (ls' := [some (.ref 78), some (.int x1), some (.int x2), some (.ref 148), none]) (st' := [.int 0]) rfl ?_
    cases h
    exact Q.ret (A.ri zm15 (show zM15.2.2.2.2.2[13]? = some (18, 1, .ireturn, []) from rfl) rfl rfl) hl12
  · clear h
    subst hz13
    have h := h8
    by_cases hc14 : e6 = 2
    · rw [if_pos hc14] at h
      subst hc14
      refine Q.hc (gC_vi zm15 (show zM15.2.2.2.2.2[5]? = some (5, 3, .invokevirtual 65, [0, 169, 2, 0]) from rfl) zm169 (hl.lt (a := 78) (by decide)) (hl.T (a := 78) (p := (0, 7)) 0 rfl rfl) rfl (show aCr 2 78 [.int x2, .int x1, .ref 78, .int 0, .ref 148] 3 = some ([some (.ref 78), some (.int x1), some (.int x2)], [.int 0, .ref 148]) from rfl)) hq1 (t := 9) rfl ?_
      refine Q.run zm15 2 (i' := 11) (ls' := [some (.ref 78), some (.int x1), some (.int x2), some (.ref 148), some (.ref (sL s3 - 1))]) (st' := [.int 1]) rfl ?_
      cases h
      exact Q.ret (A.ri zm15 (show zM15.2.2.2.2.2[11]? = some (16, 1, .ireturn, []) from rfl) rfl rfl) hq1.1
    · rw [if_neg hc14] at h
      cases h
/-! 250 FormulaTreesModel.name(II)I -/
set_option maxRecDepth 100000 in
theorem zm250 : zP[250]? = some zM250 := rfl
def dm250_22 (s : aS) : Option (Int32 × aS) :=
  some ((-1), s)
set_option maxRecDepth 100000 in
theorem dt250_22 {sio : Bool} {tt : Nat} {cc : Nat → Nat → Int32} {d : Nat} (hd : 1 ≤ d) {x1 : Int32} {x2 : Int32} {s : aS} (hl : Ly tt cc s) {o : Int32 × aS} (h : dm250_22  s = some o) : Q 2 sio tt cc d 250 22 [some (.ref 121), some (.int x1), some (.int x2)] [] s (.inl (some (.int o.1)), o.2) := by
  unfold dm250_22 at h
  obtain ⟨d, rfl⟩ : ∃ e, d = e + 1 := ⟨d - 1, by omega⟩
  refine Q.run zm250 2 (i' := 32) (ls' := [some (.ref 121), some (.int x1), some (.int x2)]) (st' := [.int (-1)]) rfl ?_
  cases h
  exact Q.ret (A.ri zm250 (show zM250.2.2.2.2.2[32]? = some (57, 1, .ireturn, []) from rfl) rfl rfl) hl
def dm250_8 (x1 : Int32) (x2 : Int32) (y1 : Int32) (s : aS) : Option (Int32 × aS) :=
  nx (wI s 121 0 y1) fun s1 =>
  if (sI s1 121 0) ≤ 0 then
    if x2 < 0 then
      dm250_22 s1
    else
      if aB x1 8 then
        if x2 < (sI s1 123 (jN x1)) then
          if aB ((32 * x1) + x2) 256 then
            some (sI s1 124 (jN ((32 * x1) + x2)), s1)
          else none
        else
          dm250_22 s1
      else none
  else
    some (0, s1)
set_option maxRecDepth 100000 in
theorem dt250_8 {sio : Bool} {tt : Nat} {cc : Nat → Nat → Int32} {d : Nat} (hd : 1 ≤ d) {x1 : Int32} {x2 : Int32} {y1 : Int32} {s : aS} (hl : Ly tt cc s) {o : Int32 × aS} (h : dm250_8  x1 x2 y1 s = some o) : Q 2 sio tt cc d 250 8 [some (.ref 121), some (.int x1), some (.int x2)] [.int y1, .ref 121] s (.inl (some (.int o.1)), o.2) := by
  unfold dm250_8 at h
  obtain ⟨d, rfl⟩ : ∃ e, d = e + 1 := ⟨d - 1, by omega⟩
  obtain ⟨s1, hs2, h⟩ := nx_so h
  refine Q.pf hs2 rfl (gI_of zm250 (e := (14, 3, .putfield 89, [9, 0, 0])) rfl) (hl.lt (a := 121) (by decide)) (by decide) (hl.T (a := 121) (p := (9, 45)) 43 rfl rfl) (by decide) rfl rfl ?_
  have hl3 : Ly tt cc s1 := by rw [hs2]; exact hl.wId (by decide)
  refine Q.run zm250 1 (i' := 10) (ls' := [some (.ref 121), some (.int x1), some (.int x2)]) (st' := [.ref 121]) rfl ?_
  refine Q.map (A.gf (gI_of zm250 (e := (18, 3, .getfield 89, [9, 0])) rfl) (hl3.lt (a := 121) (by decide)) (hl3.T (a := 121) (p := (9, 45)) 43 rfl rfl) (by decide) rfl) ?_
  by_cases hc4 : (sI s1 121 0) ≤ 0
  · rw [if_pos hc4] at h
    refine Q.map (A.zT (gI_of zm250 (e := (21, 3, .ifCond .le 7, [14])) rfl) (decide_eq_true hc4)) ?_
    refine Q.run zm250 1 (i' := 15) (ls' := [some (.ref 121), some (.int x1), some (.int x2)]) (st' := [.int x2]) rfl ?_
    by_cases hc5 : x2 < 0
    · rw [if_pos hc5] at h
      refine Q.map (A.zT (gI_of zm250 (e := (29, 3, .ifCond .lt 13, [22])) rfl) (decide_eq_true hc5)) ?_
      exact dt250_22 hd hl3  h
    · rw [if_neg hc5] at h
      refine Q.map (A.zF (gI_of zm250 (e := (29, 3, .ifCond .lt 13, [22])) rfl) (fun q => hc5 (of_decide_eq_true q))) ?_
      refine Q.run zm250 2 (i' := 18) (ls' := [some (.ref 121), some (.int x1), some (.int x2)]) (st' := [.ref 121, .int x2]) rfl ?_
      refine Q.map (A.gf (gI_of zm250 (e := (34, 3, .getfield 13, [9, 4])) rfl) (hl3.lt (a := 121) (by decide)) (hl3.T (a := 121) (p := (9, 45)) 43 rfl rfl) (by decide) (hl3.R 24 rfl)) ?_
      refine Q.run zm250 1 (i' := 20) (ls' := [some (.ref 121), some (.int x1), some (.int x2)]) (st' := [.int x1, .ref 123, .int x2]) rfl ?_
      obtain ⟨hc6, h⟩ := ite_so h
      refine Q.map (A.ia (gI_of zm250 (e := (38, 1, .iaload, [])) rfl) (hl3.lt (a := 123) (by decide)) (hl3.T (a := 123) (p := (100, 8)) 45 rfl rfl) hc6) ?_
      by_cases hc7 : x2 < (sI s1 123 (jN x1))
      · rw [if_pos hc7] at h
        refine Q.map (A.bT (gI_of zm250 (e := (39, 3, .if_icmp .lt 7, [24])) rfl) (decide_eq_true hc7)) ?_
        refine Q.run zm250 1 (i' := 25) (ls' := [some (.ref 121), some (.int x1), some (.int x2)]) (st' := [.ref 121]) rfl ?_
        refine Q.map (A.gf (gI_of zm250 (e := (47, 3, .getfield 16, [9, 5])) rfl) (hl3.lt (a := 121) (by decide)) (hl3.T (a := 121) (p := (9, 45)) 43 rfl rfl) (by decide) (hl3.R 25 rfl)) ?_
        refine Q.run zm250 5 (i' := 31) (ls' := [some (.ref 121), some (.int x1), some (.int x2)]) (st' := [.int ((32 * x1) + x2), .ref 124]) rfl ?_
        obtain ⟨hc8, h⟩ := ite_so h
        refine Q.map (A.ia (gI_of zm250 (e := (56, 1, .iaload, [])) rfl) (hl3.lt (a := 124) (by decide)) (hl3.T (a := 124) (p := (100, 256)) 46 rfl rfl) hc8) ?_
        cases h
        exact Q.ret (A.ri zm250 (show zM250.2.2.2.2.2[32]? = some (57, 1, .ireturn, []) from rfl) rfl rfl) hl3
      · rw [if_neg hc7] at h
        refine Q.map (A.bF (gI_of zm250 (e := (39, 3, .if_icmp .lt 7, [24])) rfl) (fun q => hc7 (of_decide_eq_true q))) ?_
        exact dt250_22 hd hl3  h
  · rw [if_neg hc4] at h
    refine Q.map (A.zF (gI_of zm250 (e := (21, 3, .ifCond .le 7, [14])) rfl) (fun q => hc4 (of_decide_eq_true q))) ?_
    refine Q.run zm250 2 (i' := 32) (ls' := [some (.ref 121), some (.int x1), some (.int x2)]) (st' := [.int 0]) rfl ?_
    cases h
    exact Q.ret (A.ri zm250 (show zM250.2.2.2.2.2[32]? = some (57, 1, .ireturn, []) from rfl) rfl rfl) hl3
def dm250 (x1 : Int32) (x2 : Int32) (s : aS) : Option (Int32 × aS) :=
  bu (dm181 x1 s) fun r3 =>
  if r3 = 0 then
    dm250_8 x1 x2 0 s
  else
    dm250_8 x1 x2 1 s
set_option maxRecDepth 100000 in
theorem dt250 {sio : Bool} {tt : Nat} {cc : Nat → Nat → Int32} {d : Nat} (hd : 1 ≤ d) {x1 : Int32} {x2 : Int32} {s : aS} (hl : Ly tt cc s) {o : Int32 × aS} (h : dm250  x1 x2 s = some o) : Q 2 sio tt cc d 250 0 [some (.ref 121), some (.int x1), some (.int x2)] [] s (.inl (some (.int o.1)), o.2) := by
  unfold dm250 at h
  obtain ⟨d, rfl⟩ : ∃ e, d = e + 1 := ⟨d - 1, by omega⟩
  refine Q.run zm250 3 (i' := 3) (ls' := [some (.ref 121), some (.int x1), some (.int x2)]) (st' := [.int x1, .ref 121, .ref 121]) rfl ?_
  obtain ⟨r3, hc2, h⟩ := bu_so h
  have hq1 : Q 2 sio tt cc d 181 0 [some (.ref 121), some (.int x1)] [] s (.inl (some (.int r3)), s) := dt181 (by omega) hl  hc2
  refine Q.callI (gC_vi zm250 (show zM250.2.2.2.2.2[3]? = some (3, 3, .invokevirtual 128, [0, 181, 1, 9]) from rfl) zm181 (hl.lt (a := 121) (by decide)) (hl.T (a := 121) (p := (9, 45)) 43 rfl rfl) rfl (show aCr 1 121 [.int x1, .ref 121, .ref 121] 2 = some ([some (.ref 121), some (.int x1)], [.ref 121]) from rfl)) hq1 ?_
  by_cases hc4 : r3 = 0
  · rw [if_pos hc4] at h
    refine Q.map (A.zT (gI_of zm250 (e := (6, 3, .ifCond .eq 7, [7])) rfl) (decide_eq_true hc4)) ?_
    refine Q.run zm250 1 (i' := 8) (ls' := [some (.ref 121), some (.int x1), some (.int x2)]) (st' := [.int 0, .ref 121]) rfl ?_
    exact dt250_8 hd hl  h
  · rw [if_neg hc4] at h
    refine Q.map (A.zF (gI_of zm250 (e := (6, 3, .ifCond .eq 7, [7])) rfl) (fun q => hc4 (of_decide_eq_true q))) ?_
    refine Q.run zm250 2 (i' := 8) (ls' := [some (.ref 121), some (.int x1), some (.int x2)]) (st' := [.int 1, .ref 121]) rfl ?_
    exact dt250_8 hd hl  h
/-! 0 FormulaTreesLaw.law([I)Z -/
set_option maxRecDepth 100000 in
theorem zm0 : zP[0]? = some zM0 := rfl
def dm0_457 (k13 : Int32 → aS → Option (Int32 × aS)) (x4 : Int32) (s : aS) : Option (Int32 × aS) :=
  k13 (x4 + 6) s
set_option maxRecDepth 100000 in
theorem dt0_457 {sio : Bool} {tt : Nat} {cc : Nat → Nat → Int32} {d : Nat} (hd : 1214 ≤ d) {k13 : Int32 → aS → Option (Int32 × aS)} (hk13 : ∀ {x4 : Int32} {g5 : Option Value} {g6 : Option Value} {s : aS}, Ly tt cc s → ∀ {o : Int32 × aS}, k13 x4 s = some o → Q 0 sio tt cc d 0 13 [some (.ref 0), some (.ref 78), some (.ref 121), some (.ref 148), some (.int x4), g5, g6] [] s (.inl (some (.int o.1)), o.2)) {x4 : Int32} {g5 : Option Value} {g6 : Option Value} {s : aS} (hl : Ly tt cc s) {o : Int32 × aS} (h : dm0_457 k13 x4 s = some o) : Q 0 sio tt cc d 0 457 [some (.ref 0), some (.ref 78), some (.ref 121), some (.ref 148), some (.int x4), g5, g6] [] s (.inl (some (.int o.1)), o.2) := by
  unfold dm0_457 at h
  obtain ⟨d, rfl⟩ : ∃ e, d = e + 1 := ⟨d - 1, by omega⟩
  refine Q.run zm0 2 (i' := 13) (ls' := [some (.ref 0), some (.ref 78), some (.ref 121), some (.ref 148), some (.int (x4 + 6)), g5, g6]) (st' := []) rfl ?_
  exact hk13 hl  h
def dm0_288 (k13 : Int32 → aS → Option (Int32 × aS)) (x4 : Int32) (s : aS) : Option (Int32 × aS) :=
  dm0_457 k13 x4 s
set_option maxRecDepth 100000 in
theorem dt0_288 {sio : Bool} {tt : Nat} {cc : Nat → Nat → Int32} {d : Nat} (hd : 1214 ≤ d) {k13 : Int32 → aS → Option (Int32 × aS)} (hk13 : ∀ {x4 : Int32} {g5 : Option Value} {g6 : Option Value} {s : aS}, Ly tt cc s → ∀ {o : Int32 × aS}, k13 x4 s = some o → Q 0 sio tt cc d 0 13 [some (.ref 0), some (.ref 78), some (.ref 121), some (.ref 148), some (.int x4), g5, g6] [] s (.inl (some (.int o.1)), o.2)) {x4 : Int32} {x5 : Int32} {x6 : Int32} {s : aS} (hl : Ly tt cc s) {o : Int32 × aS} (h : dm0_288 k13 x4 s = some o) : Q 0 sio tt cc d 0 288 [some (.ref 0), some (.ref 78), some (.ref 121), some (.ref 148), some (.int x4), some (.int x5), some (.int x6)] [] s (.inl (some (.int o.1)), o.2) := by
  unfold dm0_288 at h
  obtain ⟨d, rfl⟩ : ∃ e, d = e + 1 := ⟨d - 1, by omega⟩
  refine Q.run zm0 1 (i' := 457) (ls' := [some (.ref 0), some (.ref 78), some (.ref 121), some (.ref 148), some (.int x4), some (.int x5), some (.int x6)]) (st' := []) rfl ?_
  exact dt0_457 hd hk13 hl  h
def dm0_215 (k13 : Int32 → aS → Option (Int32 × aS)) (x4 : Int32) (y1 : Int32) (y2 : Int32) (s : aS) : Option (Int32 × aS) :=
  if aB (x4 + 3) (sT s 0).2 then
    if aB (x4 + 4) (sT s 0).2 then
      bv (dm228 y1 y2 (sI s 0 (jN (x4 + 3))) (sI s 0 (jN (x4 + 4))) s) fun r6 s5 =>
      dm0_457 k13 x4 s5
    else none
  else none
set_option maxRecDepth 100000 in
theorem dt0_215 {sio : Bool} {tt : Nat} {cc : Nat → Nat → Int32} {d : Nat} (hd : 1214 ≤ d) {k13 : Int32 → aS → Option (Int32 × aS)} (hk13 : ∀ {x4 : Int32} {g5 : Option Value} {g6 : Option Value} {s : aS}, Ly tt cc s → ∀ {o : Int32 × aS}, k13 x4 s = some o → Q 0 sio tt cc d 0 13 [some (.ref 0), some (.ref 78), some (.ref 121), some (.ref 148), some (.int x4), g5, g6] [] s (.inl (some (.int o.1)), o.2)) {x4 : Int32} {y1 : Int32} {y2 : Int32} {x5 : Int32} {g6 : Option Value} {s : aS} (hl : Ly tt cc s) {o : Int32 × aS} (h : dm0_215 k13 x4 y1 y2 s = some o) : Q 0 sio tt cc d 0 215 [some (.ref 0), some (.ref 78), some (.ref 121), some (.ref 148), some (.int x4), some (.int x5), g6] [.int y2, .int y1, .ref 121] s (.inl (some (.int o.1)), o.2) := by
  unfold dm0_215 at h
  obtain ⟨d, rfl⟩ : ∃ e, d = e + 1 := ⟨d - 1, by omega⟩
  refine Q.run zm0 4 (i' := 219) (ls' := [some (.ref 0), some (.ref 78), some (.ref 121), some (.ref 148), some (.int x4), some (.int x5), g6]) (st' := [.int (x4 + 3), .ref 0, .int y2, .int y1, .ref 121]) rfl ?_
  obtain ⟨hc1, h⟩ := ite_so h
  refine Q.map (A.ia (gI_of zm0 (e := (403, 1, .iaload, [])) rfl) (hl.lt (a := 0) (by decide)) hl.t0 hc1) ?_
  refine Q.run zm0 4 (i' := 224) (ls' := [some (.ref 0), some (.ref 78), some (.ref 121), some (.ref 148), some (.int x4), some (.int x5), g6]) (st' := [.int (x4 + 4), .ref 0, .int (sI s 0 (jN (x4 + 3))), .int y2, .int y1, .ref 121]) rfl ?_
  obtain ⟨hc2, h⟩ := ite_so h
  refine Q.map (A.ia (gI_of zm0 (e := (409, 1, .iaload, [])) rfl) (hl.lt (a := 0) (by decide)) hl.t0 hc2) ?_
  obtain ⟨r6, s5, hc4, h⟩ := bv_so h
  have hq3 : Q 0 sio tt cc d 228 0 [some (.ref 121), some (.int y1), some (.int y2), some (.int (sI s 0 (jN (x4 + 3)))), some (.int (sI s 0 (jN (x4 + 4)))), none, none, none, none, none, none, none, none] [] s (.inl (some (.int r6)), s5) := (dt228 (by omega) hl  hc4).w
  refine Q.callI (gC_vi zm0 (show zM0.2.2.2.2.2[225]? = some (410, 3, .invokevirtual 104, [0, 228, 4, 9]) from rfl) zm228 (hl.lt (a := 121) (by decide)) (hl.T (a := 121) (p := (9, 45)) 43 rfl rfl) rfl (show aCr 4 121 [.int (sI s 0 (jN (x4 + 4))), .int (sI s 0 (jN (x4 + 3))), .int y2, .int y1, .ref 121] 13 = some ([some (.ref 121), some (.int y1), some (.int y2), some (.int (sI s 0 (jN (x4 + 3)))), some (.int (sI s 0 (jN (x4 + 4)))), none, none, none, none, none, none, none, none], []) from rfl)) hq3 ?_
  refine Q.run zm0 2 (i' := 457) (ls' := [some (.ref 0), some (.ref 78), some (.ref 121), some (.ref 148), some (.int x4), some (.int x5), some (.int r6)]) (st' := []) rfl ?_
  exact dt0_457 hd hk13 hq3.1  h
def dm0_187 (k13 : Int32 → aS → Option (Int32 × aS)) (x4 : Int32) (y1 : Int32) (y2 : Int32) (s : aS) : Option (Int32 × aS) :=
  if aB (x4 + 3) (sT s 0).2 then
    if aB (x4 + 4) (sT s 0).2 then
      bv (dm7 y1 y2 (sI s 0 (jN (x4 + 3))) (sI s 0 (jN (x4 + 4))) s) fun r6 s5 =>
      if aB (x4 + 1) (sT s5 0).2 then
        if aB (x4 + 2) (sT s5 0).2 then
          if (sI s5 0 (jN (x4 + 2))) = 0 then
            dm0_215 k13 x4 (sI s5 0 (jN (x4 + 1))) 0 s5
          else
            dm0_215 k13 x4 (sI s5 0 (jN (x4 + 1))) 1 s5
        else none
      else none
    else none
  else none
set_option maxRecDepth 100000 in
theorem dt0_187 {sio : Bool} {tt : Nat} {cc : Nat → Nat → Int32} {d : Nat} (hd : 1214 ≤ d) {k13 : Int32 → aS → Option (Int32 × aS)} (hk13 : ∀ {x4 : Int32} {g5 : Option Value} {g6 : Option Value} {s : aS}, Ly tt cc s → ∀ {o : Int32 × aS}, k13 x4 s = some o → Q 0 sio tt cc d 0 13 [some (.ref 0), some (.ref 78), some (.ref 121), some (.ref 148), some (.int x4), g5, g6] [] s (.inl (some (.int o.1)), o.2)) {x4 : Int32} {y1 : Int32} {y2 : Int32} {g5 : Option Value} {g6 : Option Value} {s : aS} (hl : Ly tt cc s) {o : Int32 × aS} (h : dm0_187 k13 x4 y1 y2 s = some o) : Q 0 sio tt cc d 0 187 [some (.ref 0), some (.ref 78), some (.ref 121), some (.ref 148), some (.int x4), g5, g6] [.int y2, .int y1, .ref 78] s (.inl (some (.int o.1)), o.2) := by
  unfold dm0_187 at h
  obtain ⟨d, rfl⟩ : ∃ e, d = e + 1 := ⟨d - 1, by omega⟩
  refine Q.run zm0 4 (i' := 191) (ls' := [some (.ref 0), some (.ref 78), some (.ref 121), some (.ref 148), some (.int x4), g5, g6]) (st' := [.int (x4 + 3), .ref 0, .int y2, .int y1, .ref 78]) rfl ?_
  obtain ⟨hc1, h⟩ := ite_so h
  refine Q.map (A.ia (gI_of zm0 (e := (364, 1, .iaload, [])) rfl) (hl.lt (a := 0) (by decide)) hl.t0 hc1) ?_
  refine Q.run zm0 4 (i' := 196) (ls' := [some (.ref 0), some (.ref 78), some (.ref 121), some (.ref 148), some (.int x4), g5, g6]) (st' := [.int (x4 + 4), .ref 0, .int (sI s 0 (jN (x4 + 3))), .int y2, .int y1, .ref 78]) rfl ?_
  obtain ⟨hc2, h⟩ := ite_so h
  refine Q.map (A.ia (gI_of zm0 (e := (370, 1, .iaload, [])) rfl) (hl.lt (a := 0) (by decide)) hl.t0 hc2) ?_
  refine Q.run zm0 1 (i' := 198) (ls' := [some (.ref 0), some (.ref 78), some (.ref 121), some (.ref 148), some (.int x4), g5, g6]) (st' := [.ref 148, .int (sI s 0 (jN (x4 + 4))), .int (sI s 0 (jN (x4 + 3))), .int y2, .int y1, .ref 78]) rfl ?_
  obtain ⟨r6, s5, hc4, h⟩ := bv_so h
  have hq3 : Q 0 sio tt cc d 7 0 [some (.ref 78), some (.int y1), some (.int y2), some (.int (sI s 0 (jN (x4 + 3)))), some (.int (sI s 0 (jN (x4 + 4)))), some (.ref 148), none] [] s (.inl (some (.int r6)), s5) := (dt7 (by omega) hl  hc4).w
  refine Q.callI (gC_st zm0 (show zM0.2.2.2.2.2[198]? = some (372, 3, .invokestatic 101, [0, 7, 6]) from rfl) zm7 (show aC 6 [.ref 148, .int (sI s 0 (jN (x4 + 4))), .int (sI s 0 (jN (x4 + 3))), .int y2, .int y1, .ref 78] 7 = some ([some (.ref 78), some (.int y1), some (.int y2), some (.int (sI s 0 (jN (x4 + 3)))), some (.int (sI s 0 (jN (x4 + 4)))), some (.ref 148), none], []) from rfl)) hq3 ?_
  refine Q.run zm0 6 (i' := 205) (ls' := [some (.ref 0), some (.ref 78), some (.ref 121), some (.ref 148), some (.int x4), some (.int r6), g6]) (st' := [.int (x4 + 1), .ref 0, .ref 121]) rfl ?_
  obtain ⟨hc7, h⟩ := ite_so h
  refine Q.map (A.ia (gI_of zm0 (e := (383, 1, .iaload, [])) rfl) (hq3.1.lt (a := 0) (by decide)) hq3.1.t0 hc7) ?_
  refine Q.run zm0 4 (i' := 210) (ls' := [some (.ref 0), some (.ref 78), some (.ref 121), some (.ref 148), some (.int x4), some (.int r6), g6]) (st' := [.int (x4 + 2), .ref 0, .int (sI s5 0 (jN (x4 + 1))), .ref 121]) rfl ?_
  obtain ⟨hc8, h⟩ := ite_so h
  refine Q.map (A.ia (gI_of zm0 (e := (389, 1, .iaload, [])) rfl) (hq3.1.lt (a := 0) (by decide)) hq3.1.t0 hc8) ?_
  by_cases hc9 : (sI s5 0 (jN (x4 + 2))) = 0
  · rw [if_pos hc9] at h
    refine Q.map (A.zT (gI_of zm0 (e := (390, 3, .ifCond .eq 7, [214])) rfl) (decide_eq_true hc9)) ?_
    refine Q.run zm0 1 (i' := 215) (ls' := [some (.ref 0), some (.ref 78), some (.ref 121), some (.ref 148), some (.int x4), some (.int r6), g6]) (st' := [.int 0, .int (sI s5 0 (jN (x4 + 1))), .ref 121]) rfl ?_
    exact dt0_215 hd hk13 hq3.1  h
  · rw [if_neg hc9] at h
    refine Q.map (A.zF (gI_of zm0 (e := (390, 3, .ifCond .eq 7, [214])) rfl) (fun q => hc9 (of_decide_eq_true q))) ?_
    refine Q.run zm0 2 (i' := 215) (ls' := [some (.ref 0), some (.ref 78), some (.ref 121), some (.ref 148), some (.int x4), some (.int r6), g6]) (st' := [.int 1, .int (sI s5 0 (jN (x4 + 1))), .ref 121]) rfl ?_
    exact dt0_215 hd hk13 hq3.1  h
def dm0_13 : Nat → Int32 → aS → Option (Int32 × aS)
  | 0, _, _ => none
  | n + 1, x4, s =>
    if ((Int32.ofNat (sT s 0).2) - 6) < x4 then
      some (1, s)
    else
      if aB x4 (sT s 0).2 then
        if ((sI s 0 (jN x4)) &&& 15) = 0 then
          if aB (x4 + 1) (sT s 0).2 then
            bv (dm1 (sI s 0 (jN (x4 + 1))) s) fun r8 s7 =>
            if aB (x4 + 1) (sT s7 0).2 then
              bv (dm172 (sI s7 0 (jN (x4 + 1))) s7) fun r13 s12 =>
              dm0_457 (dm0_13 n) x4 s12
            else none
          else none
        else
          if ((sI s 0 (jN x4)) &&& 15) = 1 then
            bu (dm25 s) fun s17 =>
            bu (dm173 s17) fun s20 =>
            dm0_457 (dm0_13 n) x4 s20
          else
            if ((sI s 0 (jN x4)) &&& 15) = 2 then
              bv (dm2 s) fun r25 s24 =>
              bv (dm174 s24) fun r29 s28 =>
              dm0_457 (dm0_13 n) x4 s28
            else
              if ((sI s 0 (jN x4)) &&& 15) = 3 then
                if aB (x4 + 1) (sT s 0).2 then
                  bv (dm3 (sI s 0 (jN (x4 + 1))) s) fun r35 s34 =>
                  if aB (x4 + 1) (sT s34 0).2 then
                    bu (dm180 (sI s34 0 (jN (x4 + 1))) s34) fun s39 =>
                    dm0_457 (dm0_13 n) x4 s39
                  else none
                else none
              else
                if ((sI s 0 (jN x4)) &&& 15) = 4 then
                  if aB (x4 + 1) (sT s 0).2 then
                    bv (dm4 (sI s 0 (jN (x4 + 1))) s) fun r45 s44 =>
                    if aB (x4 + 1) (sT s44 0).2 then
                      bu (dm182 (sI s44 0 (jN (x4 + 1))) s44) fun s49 =>
                      dm0_457 (dm0_13 n) x4 s49
                    else none
                  else none
                else
                  if ((sI s 0 (jN x4)) &&& 15) = 5 then
                    if aB (x4 + 1) (sT s 0).2 then
                      if aB (x4 + 2) (sT s 0).2 then
                        bv (dm5 (sI s 0 (jN (x4 + 1))) (sI s 0 (jN (x4 + 2))) s) fun r56 s55 =>
                        if aB (x4 + 1) (sT s55 0).2 then
                          if aB (x4 + 2) (sT s55 0).2 then
                            bv (dm184 (sI s55 0 (jN (x4 + 1))) (sI s55 0 (jN (x4 + 2))) s55) fun r62 s61 =>
                            dm0_457 (dm0_13 n) x4 s61
                          else none
                        else none
                      else none
                    else none
                  else
                    if ((sI s 0 (jN x4)) &&& 15) = 6 then
                      if aB (x4 + 1) (sT s 0).2 then
                        if aB (x4 + 2) (sT s 0).2 then
                          if aB (x4 + 3) (sT s 0).2 then
                            if aB (x4 + 4) (sT s 0).2 then
                              if aB (x4 + 5) (sT s 0).2 then
                                bv (dm6 (sI s 0 (jN (x4 + 1))) (sI s 0 (jN (x4 + 2))) (sI s 0 (jN (x4 + 3))) (sI s 0 (jN (x4 + 4))) (sI s 0 (jN (x4 + 5))) s) fun r72 s71 =>
                                if aB (x4 + 1) (sT s71 0).2 then
                                  if aB (x4 + 2) (sT s71 0).2 then
                                    if aB (x4 + 3) (sT s71 0).2 then
                                      if aB (x4 + 4) (sT s71 0).2 then
                                        if aB (x4 + 5) (sT s71 0).2 then
                                          bu (dm224 (sI s71 0 (jN (x4 + 1))) (sI s71 0 (jN (x4 + 2))) (sI s71 0 (jN (x4 + 3))) (sI s71 0 (jN (x4 + 4))) (sI s71 0 (jN (x4 + 5))) s71) fun s80 =>
                                          dm0_457 (dm0_13 n) x4 s80
                                        else none
                                      else none
                                    else none
                                  else none
                                else none
                              else none
                            else none
                          else none
                        else none
                      else none
                    else
                      if ((sI s 0 (jN x4)) &&& 15) = 7 then
                        if aB (x4 + 1) (sT s 0).2 then
                          if aB (x4 + 2) (sT s 0).2 then
                            if (sI s 0 (jN (x4 + 2))) = 0 then
                              dm0_187 (dm0_13 n) x4 (sI s 0 (jN (x4 + 1))) 0 s
                            else
                              dm0_187 (dm0_13 n) x4 (sI s 0 (jN (x4 + 1))) 1 s
                          else none
                        else none
                      else
                        if ((sI s 0 (jN x4)) &&& 15) = 8 then
                          if aB (x4 + 1) (sT s 0).2 then
                            bv (dm8 (sI s 0 (jN (x4 + 1))) s) fun r90 s89 =>
                            if aB (x4 + 1) (sT s89 0).2 then
                              bu (dm231 (sI s89 0 (jN (x4 + 1))) s89) fun s94 =>
                              dm0_457 (dm0_13 n) x4 s94
                            else none
                          else none
                        else
                          if ((sI s 0 (jN x4)) &&& 15) = 9 then
                            if aB (x4 + 1) (sT s 0).2 then
                              if aB (x4 + 2) (sT s 0).2 then
                                bv (dm9 (sI s 0 (jN (x4 + 1))) (sI s 0 (jN (x4 + 2))) s) fun r101 s100 =>
                                if aB (x4 + 1) (sT s100 0).2 then
                                  if aB (x4 + 2) (sT s100 0).2 then
                                    bv (dm232 (sI s100 0 (jN (x4 + 1))) (sI s100 0 (jN (x4 + 2))) s100) fun r107 s106 =>
                                    bu (dm171 s106) fun r110 =>
                                    if r110 = r101 then
                                      if r101 = 0 then
                                        if aB 0 1 then
                                          if (lg_cmp (sJ s106 148 (jN 0)) r107.toInt64) = 0 then
                                            dm0_288 (dm0_13 n) x4 s106
                                          else
                                            some (0, s106)
                                        else none
                                      else
                                        dm0_288 (dm0_13 n) x4 s106
                                    else
                                      some (0, s106)
                                  else none
                                else none
                              else none
                            else none
                          else
                            if ((sI s 0 (jN x4)) &&& 15) = 10 then
                              if aB (x4 + 1) (sT s 0).2 then
                                bv (dm10 (sI s 0 (jN (x4 + 1))) s) fun r120 s119 =>
                                if aB (x4 + 1) (sT s119 0).2 then
                                  bv (dm243 (sI s119 0 (jN (x4 + 1))) s119) fun r125 s124 =>
                                  dm0_457 (dm0_13 n) x4 s124
                                else none
                              else none
                            else
                              if ((sI s 0 (jN x4)) &&& 15) = 11 then
                                if aB (x4 + 1) (sT s 0).2 then
                                  if aB (x4 + 2) (sT s 0).2 then
                                    if aB (x4 + 3) (sT s 0).2 then
                                      bv (dm11 (sI s 0 (jN (x4 + 1))) (sI s 0 (jN (x4 + 2))) (sI s 0 (jN (x4 + 3))) s) fun r133 s132 =>
                                      if aB (x4 + 1) (sT s132 0).2 then
                                        if aB (x4 + 2) (sT s132 0).2 then
                                          if aB (x4 + 3) (sT s132 0).2 then
                                            bv (dm244 (sI s132 0 (jN (x4 + 1))) (sI s132 0 (jN (x4 + 2))) (sI s132 0 (jN (x4 + 3))) s132) fun r140 s139 =>
                                            dm0_457 (dm0_13 n) x4 s139
                                          else none
                                        else none
                                      else none
                                    else none
                                  else none
                                else none
                              else
                                if ((sI s 0 (jN x4)) &&& 15) = 12 then
                                  if aB (x4 + 1) (sT s 0).2 then
                                    if aB (x4 + 2) (sT s 0).2 then
                                      if aB (x4 + 3) (sT s 0).2 then
                                        bv (dm12 (sI s 0 (jN (x4 + 1))) (sI s 0 (jN (x4 + 2))) (sI s 0 (jN (x4 + 3))) s) fun r148 s147 =>
                                        if aB (x4 + 1) (sT s147 0).2 then
                                          if aB (x4 + 2) (sT s147 0).2 then
                                            if aB (x4 + 3) (sT s147 0).2 then
                                              bv (dm246 (sI s147 0 (jN (x4 + 1))) (sI s147 0 (jN (x4 + 2))) (sI s147 0 (jN (x4 + 3))) s147) fun r155 s154 =>
                                              dm0_457 (dm0_13 n) x4 s154
                                            else none
                                          else none
                                        else none
                                      else none
                                    else none
                                  else none
                                else
                                  if ((sI s 0 (jN x4)) &&& 15) = 13 then
                                    if aB (x4 + 1) (sT s 0).2 then
                                      if aB (x4 + 2) (sT s 0).2 then
                                        bv (dm13 (sI s 0 (jN (x4 + 1))) (sI s 0 (jN (x4 + 2))) s) fun r162 s161 =>
                                        if aB (x4 + 1) (sT s161 0).2 then
                                          if aB (x4 + 2) (sT s161 0).2 then
                                            bv (dm248 (sI s161 0 (jN (x4 + 1))) (sI s161 0 (jN (x4 + 2))) s161) fun r168 s167 =>
                                            dm0_457 (dm0_13 n) x4 s167
                                          else none
                                        else none
                                      else none
                                    else none
                                  else
                                    if ((sI s 0 (jN x4)) &&& 15) = 14 then
                                      if aB (x4 + 1) (sT s 0).2 then
                                        bv (dm14 (sI s 0 (jN (x4 + 1))) s) fun r174 s173 =>
                                        if aB (x4 + 1) (sT s173 0).2 then
                                          bv (dm249 (sI s173 0 (jN (x4 + 1))) s173) fun r179 s178 =>
                                          dm0_457 (dm0_13 n) x4 s178
                                        else none
                                      else none
                                    else
                                      if ((sI s 0 (jN x4)) &&& 15) = 15 then
                                        if aB (x4 + 1) (sT s 0).2 then
                                          if aB (x4 + 2) (sT s 0).2 then
                                            bv (dm15 (sI s 0 (jN (x4 + 1))) (sI s 0 (jN (x4 + 2))) s) fun r186 s185 =>
                                            if aB (x4 + 1) (sT s185 0).2 then
                                              if aB (x4 + 2) (sT s185 0).2 then
                                                bv (dm250 (sI s185 0 (jN (x4 + 1))) (sI s185 0 (jN (x4 + 2))) s185) fun r192 s191 =>
                                                dm0_457 (dm0_13 n) x4 s191
                                              else none
                                            else none
                                          else none
                                        else none
                                      else
                                        dm0_457 (dm0_13 n) x4 s
      else none
set_option maxRecDepth 100000 in
theorem dt0_13 {sio : Bool} {tt : Nat} {cc : Nat → Nat → Int32} {d : Nat} (hd : 1214 ≤ d) : ∀ (n : Nat) {x4 : Int32} {g5 : Option Value} {g6 : Option Value} {s : aS} (_ : Ly tt cc s) {o : Int32 × aS} (_ : dm0_13  n x4 s = some o), Q 0 sio tt cc d 0 13 [some (.ref 0), some (.ref 78), some (.ref 121), some (.ref 148), some (.int x4), g5, g6] [] s (.inl (some (.int o.1)), o.2) := by
  obtain ⟨d, rfl⟩ : ∃ e, d = e + 1 := ⟨d - 1, by omega⟩
  intro n
  induction n with
  | zero => intro x4 g5 g6 s hl o h; rw [dm0_13] at h; cases h
  | succ n ih =>
    intro x4 g5 g6 s hl o h
    rw [dm0_13] at h
    refine Q.run zm0 2 (i' := 15) (ls' := [some (.ref 0), some (.ref 78), some (.ref 121), some (.ref 148), some (.int x4), g5, g6]) (st' := [.ref 0, .int x4]) rfl ?_
    refine Q.map (A.al (gI_of zm0 (e := (26, 1, .arraylength, [])) rfl) (hl.lt (a := 0) (by decide)) hl.t0 (by decide)) ?_
    refine Q.run zm0 2 (i' := 18) (ls' := [some (.ref 0), some (.ref 78), some (.ref 121), some (.ref 148), some (.int x4), g5, g6]) (st' := [.int ((Int32.ofNat (sT s 0).2) - 6), .int x4]) rfl ?_
    by_cases hc1 : ((Int32.ofNat (sT s 0).2) - 6) < x4
    · rw [if_pos hc1] at h
      refine Q.map (A.bT (gI_of zm0 (e := (30, 3, .if_icmp .gt 727, [459])) rfl) (decide_eq_true hc1)) ?_
      refine Q.run zm0 1 (i' := 460) (ls' := [some (.ref 0), some (.ref 78), some (.ref 121), some (.ref 148), some (.int x4), g5, g6]) (st' := [.int 1]) rfl ?_
      cases h
      exact Q.ret (A.ri zm0 (show zM0.2.2.2.2.2[460]? = some (758, 1, .ireturn, []) from rfl) rfl rfl) hl
    · rw [if_neg hc1] at h
      refine Q.map (A.bF (gI_of zm0 (e := (30, 3, .if_icmp .gt 727, [459])) rfl) (fun q => hc1 (of_decide_eq_true q))) ?_
      refine Q.run zm0 2 (i' := 21) (ls' := [some (.ref 0), some (.ref 78), some (.ref 121), some (.ref 148), some (.int x4), g5, g6]) (st' := [.int x4, .ref 0]) rfl ?_
      obtain ⟨hc2, h⟩ := ite_so h
      refine Q.map (A.ia (gI_of zm0 (e := (36, 1, .iaload, [])) rfl) (hl.lt (a := 0) (by decide)) hl.t0 hc2) ?_
      refine Q.run zm0 2 (i' := 24) (ls' := [some (.ref 0), some (.ref 78), some (.ref 121), some (.ref 148), some (.int x4), g5, g6]) (st' := [.int ((sI s 0 (jN x4)) &&& 15)]) rfl ?_
      by_cases hc3 : ((sI s 0 (jN x4)) &&& 15) = 0
      · rw [if_pos hc3] at h
        refine Q.map (A.ts (gI_of zm0 (e := (40, 80, .tableswitch 711 0 15 #[80, 108, 119, 135, 160, 185, 225, 298, 378, 403, 471, 499, 551, 603, 643, 671], [457, 25, 43, 48, 56, 72, 88, 116, 172, 228, 244, 289, 307, 345, 383, 411, 429])) rfl) (t := 25) (by rw [hc3] <;> decide)) ?_
        refine Q.run zm0 5 (i' := 30) (ls' := [some (.ref 0), some (.ref 78), some (.ref 121), some (.ref 148), some (.int x4), g5, g6]) (st' := [.int (x4 + 1), .ref 0, .ref 78]) rfl ?_
        obtain ⟨hc4, h⟩ := ite_so h
        refine Q.map (A.ia (gI_of zm0 (e := (126, 1, .iaload, [])) rfl) (hl.lt (a := 0) (by decide)) hl.t0 hc4) ?_
        refine Q.run zm0 1 (i' := 32) (ls' := [some (.ref 0), some (.ref 78), some (.ref 121), some (.ref 148), some (.int x4), g5, g6]) (st' := [.ref 148, .int (sI s 0 (jN (x4 + 1))), .ref 78]) rfl ?_
        obtain ⟨r8, s7, hc6, h⟩ := bv_so h
        have hq5 : Q 0 sio tt cc d 1 0 [some (.ref 78), some (.int (sI s 0 (jN (x4 + 1)))), some (.ref 148), none] [] s (.inl (some (.int r8)), s7) := (dt1 (by omega) hl  hc6).w
        refine Q.callI (gC_st zm0 (show zM0.2.2.2.2.2[32]? = some (128, 3, .invokestatic 72, [0, 1, 3]) from rfl) zm1 (show aC 3 [.ref 148, .int (sI s 0 (jN (x4 + 1))), .ref 78] 4 = some ([some (.ref 78), some (.int (sI s 0 (jN (x4 + 1)))), some (.ref 148), none], []) from rfl)) hq5 ?_
        refine Q.run zm0 6 (i' := 39) (ls' := [some (.ref 0), some (.ref 78), some (.ref 121), some (.ref 148), some (.int x4), some (.int r8), g6]) (st' := [.int (x4 + 1), .ref 0, .ref 121]) rfl ?_
        obtain ⟨hc9, h⟩ := ite_so h
        refine Q.map (A.ia (gI_of zm0 (e := (139, 1, .iaload, [])) rfl) (hq5.1.lt (a := 0) (by decide)) hq5.1.t0 hc9) ?_
        obtain ⟨r13, s12, hc11, h⟩ := bv_so h
        have hq10 : Q 0 sio tt cc d 172 0 [some (.ref 121), some (.int (sI s7 0 (jN (x4 + 1)))), none, none, none, none] [] s7 (.inl (some (.int r13)), s12) := (dt172 (by omega) hq5.1  hc11).w
        refine Q.callI (gC_vi zm0 (show zM0.2.2.2.2.2[40]? = some (140, 3, .invokevirtual 77, [0, 172, 1, 9]) from rfl) zm172 (hq5.1.lt (a := 121) (by decide)) (hq5.1.T (a := 121) (p := (9, 45)) 43 rfl rfl) rfl (show aCr 1 121 [.int (sI s7 0 (jN (x4 + 1))), .ref 121] 6 = some ([some (.ref 121), some (.int (sI s7 0 (jN (x4 + 1)))), none, none, none, none], []) from rfl)) hq10 ?_
        refine Q.run zm0 2 (i' := 457) (ls' := [some (.ref 0), some (.ref 78), some (.ref 121), some (.ref 148), some (.int x4), some (.int r8), some (.int r13)]) (st' := []) rfl ?_
        exact dt0_457 hd ih hq10.1  h
      · rw [if_neg hc3] at h
        by_cases hc14 : ((sI s 0 (jN x4)) &&& 15) = 1
        · rw [if_pos hc14] at h
          refine Q.map (A.ts (gI_of zm0 (e := (40, 80, .tableswitch 711 0 15 #[80, 108, 119, 135, 160, 185, 225, 298, 378, 403, 471, 499, 551, 603, 643, 671], [457, 25, 43, 48, 56, 72, 88, 116, 172, 228, 244, 289, 307, 345, 383, 411, 429])) rfl) (t := 43) (by rw [hc14] <;> decide)) ?_
          refine Q.run zm0 1 (i' := 44) (ls' := [some (.ref 0), some (.ref 78), some (.ref 121), some (.ref 148), some (.int x4), g5, g6]) (st' := [.ref 78]) rfl ?_
          obtain ⟨s17, hc16, h⟩ := bu_so h
          have hq15 : Q 0 sio tt cc d 25 0 [some (.ref 78)] [] s (.inl none, s17) := (dt25 (by omega) hl  hc16).w
          refine Q.callV (gC_vi zm0 (show zM0.2.2.2.2.2[44]? = some (149, 3, .invokevirtual 78, [0, 25, 0, 0]) from rfl) zm25 (hl.lt (a := 78) (by decide)) (hl.T (a := 78) (p := (0, 7)) 0 rfl rfl) rfl (show aCr 0 78 [.ref 78] 1 = some ([some (.ref 78)], []) from rfl)) hq15 ?_
          refine Q.run zm0 1 (i' := 46) (ls' := [some (.ref 0), some (.ref 78), some (.ref 121), some (.ref 148), some (.int x4), g5, g6]) (st' := [.ref 121]) rfl ?_
          obtain ⟨s20, hc19, h⟩ := bu_so h
          have hq18 : Q 0 sio tt cc d 173 0 [some (.ref 121)] [] s17 (.inl none, s20) := (dt173 (by omega) hq15.1  hc19).w
          refine Q.callV (gC_vi zm0 (show zM0.2.2.2.2.2[46]? = some (153, 3, .invokevirtual 81, [0, 173, 0, 9]) from rfl) zm173 (hq15.1.lt (a := 121) (by decide)) (hq15.1.T (a := 121) (p := (9, 45)) 43 rfl rfl) rfl (show aCr 0 121 [.ref 121] 1 = some ([some (.ref 121)], []) from rfl)) hq18 ?_
          refine Q.run zm0 1 (i' := 457) (ls' := [some (.ref 0), some (.ref 78), some (.ref 121), some (.ref 148), some (.int x4), g5, g6]) (st' := []) rfl ?_
          exact dt0_457 hd ih hq18.1  h
        · rw [if_neg hc14] at h
          by_cases hc21 : ((sI s 0 (jN x4)) &&& 15) = 2
          · rw [if_pos hc21] at h
            refine Q.map (A.ts (gI_of zm0 (e := (40, 80, .tableswitch 711 0 15 #[80, 108, 119, 135, 160, 185, 225, 298, 378, 403, 471, 499, 551, 603, 643, 671], [457, 25, 43, 48, 56, 72, 88, 116, 172, 228, 244, 289, 307, 345, 383, 411, 429])) rfl) (t := 48) (by rw [hc21] <;> decide)) ?_
            refine Q.run zm0 2 (i' := 50) (ls' := [some (.ref 0), some (.ref 78), some (.ref 121), some (.ref 148), some (.int x4), g5, g6]) (st' := [.ref 148, .ref 78]) rfl ?_
            obtain ⟨r25, s24, hc23, h⟩ := bv_so h
            have hq22 : Q 0 sio tt cc d 2 0 [some (.ref 78), some (.ref 148), none] [] s (.inl (some (.int r25)), s24) := (dt2 (by omega) hl  hc23).w
            refine Q.callI (gC_st zm0 (show zM0.2.2.2.2.2[50]? = some (161, 3, .invokestatic 82, [0, 2, 2]) from rfl) zm2 (show aC 2 [.ref 148, .ref 78] 3 = some ([some (.ref 78), some (.ref 148), none], []) from rfl)) hq22 ?_
            refine Q.run zm0 2 (i' := 53) (ls' := [some (.ref 0), some (.ref 78), some (.ref 121), some (.ref 148), some (.int x4), some (.int r25), g6]) (st' := [.ref 121]) rfl ?_
            obtain ⟨r29, s28, hc27, h⟩ := bv_so h
            have hq26 : Q 0 sio tt cc d 174 0 [some (.ref 121)] [] s24 (.inl (some (.int r29)), s28) := (dt174 (by omega) hq22.1  hc27).w
            refine Q.callI (gC_vi zm0 (show zM0.2.2.2.2.2[53]? = some (167, 3, .invokevirtual 85, [0, 174, 0, 9]) from rfl) zm174 (hq22.1.lt (a := 121) (by decide)) (hq22.1.T (a := 121) (p := (9, 45)) 43 rfl rfl) rfl (show aCr 0 121 [.ref 121] 1 = some ([some (.ref 121)], []) from rfl)) hq26 ?_
            refine Q.run zm0 2 (i' := 457) (ls' := [some (.ref 0), some (.ref 78), some (.ref 121), some (.ref 148), some (.int x4), some (.int r25), some (.int r29)]) (st' := []) rfl ?_
            exact dt0_457 hd ih hq26.1  h
          · rw [if_neg hc21] at h
            by_cases hc30 : ((sI s 0 (jN x4)) &&& 15) = 3
            · rw [if_pos hc30] at h
              refine Q.map (A.ts (gI_of zm0 (e := (40, 80, .tableswitch 711 0 15 #[80, 108, 119, 135, 160, 185, 225, 298, 378, 403, 471, 499, 551, 603, 643, 671], [457, 25, 43, 48, 56, 72, 88, 116, 172, 228, 244, 289, 307, 345, 383, 411, 429])) rfl) (t := 56) (by rw [hc30] <;> decide)) ?_
              refine Q.run zm0 5 (i' := 61) (ls' := [some (.ref 0), some (.ref 78), some (.ref 121), some (.ref 148), some (.int x4), g5, g6]) (st' := [.int (x4 + 1), .ref 0, .ref 78]) rfl ?_
              obtain ⟨hc31, h⟩ := ite_so h
              refine Q.map (A.ia (gI_of zm0 (e := (181, 1, .iaload, [])) rfl) (hl.lt (a := 0) (by decide)) hl.t0 hc31) ?_
              obtain ⟨r35, s34, hc33, h⟩ := bv_so h
              have hq32 : Q 0 sio tt cc d 3 0 [some (.ref 78), some (.int (sI s 0 (jN (x4 + 1)))), none] [] s (.inl (some (.int r35)), s34) := (dt3 (by omega) hl  hc33).w
              refine Q.callI (gC_st zm0 (show zM0.2.2.2.2.2[62]? = some (182, 3, .invokestatic 86, [0, 3, 2]) from rfl) zm3 (show aC 2 [.int (sI s 0 (jN (x4 + 1))), .ref 78] 3 = some ([some (.ref 78), some (.int (sI s 0 (jN (x4 + 1)))), none], []) from rfl)) hq32 ?_
              refine Q.run zm0 6 (i' := 69) (ls' := [some (.ref 0), some (.ref 78), some (.ref 121), some (.ref 148), some (.int x4), some (.int r35), g6]) (st' := [.int (x4 + 1), .ref 0, .ref 121]) rfl ?_
              obtain ⟨hc36, h⟩ := ite_so h
              refine Q.map (A.ia (gI_of zm0 (e := (193, 1, .iaload, [])) rfl) (hq32.1.lt (a := 0) (by decide)) hq32.1.t0 hc36) ?_
              obtain ⟨s39, hc38, h⟩ := bu_so h
              have hq37 : Q 0 sio tt cc d 180 0 [some (.ref 121), some (.int (sI s34 0 (jN (x4 + 1)))), none, none] [] s34 (.inl none, s39) := (dt180 (by omega) hq32.1  hc38).w
              refine Q.callV (gC_vi zm0 (show zM0.2.2.2.2.2[70]? = some (194, 3, .invokevirtual 89, [0, 180, 1, 9]) from rfl) zm180 (hq32.1.lt (a := 121) (by decide)) (hq32.1.T (a := 121) (p := (9, 45)) 43 rfl rfl) rfl (show aCr 1 121 [.int (sI s34 0 (jN (x4 + 1))), .ref 121] 4 = some ([some (.ref 121), some (.int (sI s34 0 (jN (x4 + 1)))), none, none], []) from rfl)) hq37 ?_
              refine Q.run zm0 1 (i' := 457) (ls' := [some (.ref 0), some (.ref 78), some (.ref 121), some (.ref 148), some (.int x4), some (.int r35), g6]) (st' := []) rfl ?_
              exact dt0_457 hd ih hq37.1  h
            · rw [if_neg hc30] at h
              by_cases hc40 : ((sI s 0 (jN x4)) &&& 15) = 4
              · rw [if_pos hc40] at h
                refine Q.map (A.ts (gI_of zm0 (e := (40, 80, .tableswitch 711 0 15 #[80, 108, 119, 135, 160, 185, 225, 298, 378, 403, 471, 499, 551, 603, 643, 671], [457, 25, 43, 48, 56, 72, 88, 116, 172, 228, 244, 289, 307, 345, 383, 411, 429])) rfl) (t := 72) (by rw [hc40] <;> decide)) ?_
                refine Q.run zm0 5 (i' := 77) (ls' := [some (.ref 0), some (.ref 78), some (.ref 121), some (.ref 148), some (.int x4), g5, g6]) (st' := [.int (x4 + 1), .ref 0, .ref 78]) rfl ?_
                obtain ⟨hc41, h⟩ := ite_so h
                refine Q.map (A.ia (gI_of zm0 (e := (206, 1, .iaload, [])) rfl) (hl.lt (a := 0) (by decide)) hl.t0 hc41) ?_
                obtain ⟨r45, s44, hc43, h⟩ := bv_so h
                have hq42 : Q 0 sio tt cc d 4 0 [some (.ref 78), some (.int (sI s 0 (jN (x4 + 1)))), none] [] s (.inl (some (.int r45)), s44) := (dt4 (by omega) hl  hc43).w
                refine Q.callI (gC_st zm0 (show zM0.2.2.2.2.2[78]? = some (207, 3, .invokestatic 90, [0, 4, 2]) from rfl) zm4 (show aC 2 [.int (sI s 0 (jN (x4 + 1))), .ref 78] 3 = some ([some (.ref 78), some (.int (sI s 0 (jN (x4 + 1)))), none], []) from rfl)) hq42 ?_
                refine Q.run zm0 6 (i' := 85) (ls' := [some (.ref 0), some (.ref 78), some (.ref 121), some (.ref 148), some (.int x4), some (.int r45), g6]) (st' := [.int (x4 + 1), .ref 0, .ref 121]) rfl ?_
                obtain ⟨hc46, h⟩ := ite_so h
                refine Q.map (A.ia (gI_of zm0 (e := (218, 1, .iaload, [])) rfl) (hq42.1.lt (a := 0) (by decide)) hq42.1.t0 hc46) ?_
                obtain ⟨s49, hc48, h⟩ := bu_so h
                have hq47 : Q 0 sio tt cc d 182 0 [some (.ref 121), some (.int (sI s44 0 (jN (x4 + 1)))), none, none] [] s44 (.inl none, s49) := (dt182 (by omega) hq42.1  hc48).w
                refine Q.callV (gC_vi zm0 (show zM0.2.2.2.2.2[86]? = some (219, 3, .invokevirtual 92, [0, 182, 1, 9]) from rfl) zm182 (hq42.1.lt (a := 121) (by decide)) (hq42.1.T (a := 121) (p := (9, 45)) 43 rfl rfl) rfl (show aCr 1 121 [.int (sI s44 0 (jN (x4 + 1))), .ref 121] 4 = some ([some (.ref 121), some (.int (sI s44 0 (jN (x4 + 1)))), none, none], []) from rfl)) hq47 ?_
                refine Q.run zm0 1 (i' := 457) (ls' := [some (.ref 0), some (.ref 78), some (.ref 121), some (.ref 148), some (.int x4), some (.int r45), g6]) (st' := []) rfl ?_
                exact dt0_457 hd ih hq47.1  h
              · rw [if_neg hc40] at h
                by_cases hc50 : ((sI s 0 (jN x4)) &&& 15) = 5
                · rw [if_pos hc50] at h
                  refine Q.map (A.ts (gI_of zm0 (e := (40, 80, .tableswitch 711 0 15 #[80, 108, 119, 135, 160, 185, 225, 298, 378, 403, 471, 499, 551, 603, 643, 671], [457, 25, 43, 48, 56, 72, 88, 116, 172, 228, 244, 289, 307, 345, 383, 411, 429])) rfl) (t := 88) (by rw [hc50] <;> decide)) ?_
                  refine Q.run zm0 5 (i' := 93) (ls' := [some (.ref 0), some (.ref 78), some (.ref 121), some (.ref 148), some (.int x4), g5, g6]) (st' := [.int (x4 + 1), .ref 0, .ref 78]) rfl ?_
                  obtain ⟨hc51, h⟩ := ite_so h
                  refine Q.map (A.ia (gI_of zm0 (e := (231, 1, .iaload, [])) rfl) (hl.lt (a := 0) (by decide)) hl.t0 hc51) ?_
                  refine Q.run zm0 4 (i' := 98) (ls' := [some (.ref 0), some (.ref 78), some (.ref 121), some (.ref 148), some (.int x4), g5, g6]) (st' := [.int (x4 + 2), .ref 0, .int (sI s 0 (jN (x4 + 1))), .ref 78]) rfl ?_
                  obtain ⟨hc52, h⟩ := ite_so h
                  refine Q.map (A.ia (gI_of zm0 (e := (237, 1, .iaload, [])) rfl) (hl.lt (a := 0) (by decide)) hl.t0 hc52) ?_
                  refine Q.run zm0 1 (i' := 100) (ls' := [some (.ref 0), some (.ref 78), some (.ref 121), some (.ref 148), some (.int x4), g5, g6]) (st' := [.ref 148, .int (sI s 0 (jN (x4 + 2))), .int (sI s 0 (jN (x4 + 1))), .ref 78]) rfl ?_
                  obtain ⟨r56, s55, hc54, h⟩ := bv_so h
                  have hq53 : Q 0 sio tt cc d 5 0 [some (.ref 78), some (.int (sI s 0 (jN (x4 + 1)))), some (.int (sI s 0 (jN (x4 + 2)))), some (.ref 148), none] [] s (.inl (some (.int r56)), s55) := (dt5 (by omega) hl  hc54).w
                  refine Q.callI (gC_st zm0 (show zM0.2.2.2.2.2[100]? = some (239, 3, .invokestatic 93, [0, 5, 4]) from rfl) zm5 (show aC 4 [.ref 148, .int (sI s 0 (jN (x4 + 2))), .int (sI s 0 (jN (x4 + 1))), .ref 78] 5 = some ([some (.ref 78), some (.int (sI s 0 (jN (x4 + 1)))), some (.int (sI s 0 (jN (x4 + 2)))), some (.ref 148), none], []) from rfl)) hq53 ?_
                  refine Q.run zm0 6 (i' := 107) (ls' := [some (.ref 0), some (.ref 78), some (.ref 121), some (.ref 148), some (.int x4), some (.int r56), g6]) (st' := [.int (x4 + 1), .ref 0, .ref 121]) rfl ?_
                  obtain ⟨hc57, h⟩ := ite_so h
                  refine Q.map (A.ia (gI_of zm0 (e := (250, 1, .iaload, [])) rfl) (hq53.1.lt (a := 0) (by decide)) hq53.1.t0 hc57) ?_
                  refine Q.run zm0 4 (i' := 112) (ls' := [some (.ref 0), some (.ref 78), some (.ref 121), some (.ref 148), some (.int x4), some (.int r56), g6]) (st' := [.int (x4 + 2), .ref 0, .int (sI s55 0 (jN (x4 + 1))), .ref 121]) rfl ?_
                  obtain ⟨hc58, h⟩ := ite_so h
                  refine Q.map (A.ia (gI_of zm0 (e := (256, 1, .iaload, [])) rfl) (hq53.1.lt (a := 0) (by decide)) hq53.1.t0 hc58) ?_
                  obtain ⟨r62, s61, hc60, h⟩ := bv_so h
                  have hq59 : Q 0 sio tt cc d 184 0 [some (.ref 121), some (.int (sI s55 0 (jN (x4 + 1)))), some (.int (sI s55 0 (jN (x4 + 2)))), none] [] s55 (.inl (some (.int r62)), s61) := (dt184 (by omega) hq53.1  hc60).w
                  refine Q.callI (gC_vi zm0 (show zM0.2.2.2.2.2[113]? = some (257, 3, .invokevirtual 96, [0, 184, 2, 9]) from rfl) zm184 (hq53.1.lt (a := 121) (by decide)) (hq53.1.T (a := 121) (p := (9, 45)) 43 rfl rfl) rfl (show aCr 2 121 [.int (sI s55 0 (jN (x4 + 2))), .int (sI s55 0 (jN (x4 + 1))), .ref 121] 4 = some ([some (.ref 121), some (.int (sI s55 0 (jN (x4 + 1)))), some (.int (sI s55 0 (jN (x4 + 2)))), none], []) from rfl)) hq59 ?_
                  refine Q.run zm0 2 (i' := 457) (ls' := [some (.ref 0), some (.ref 78), some (.ref 121), some (.ref 148), some (.int x4), some (.int r56), some (.int r62)]) (st' := []) rfl ?_
                  exact dt0_457 hd ih hq59.1  h
                · rw [if_neg hc50] at h
                  by_cases hc63 : ((sI s 0 (jN x4)) &&& 15) = 6
                  · rw [if_pos hc63] at h
                    refine Q.map (A.ts (gI_of zm0 (e := (40, 80, .tableswitch 711 0 15 #[80, 108, 119, 135, 160, 185, 225, 298, 378, 403, 471, 499, 551, 603, 643, 671], [457, 25, 43, 48, 56, 72, 88, 116, 172, 228, 244, 289, 307, 345, 383, 411, 429])) rfl) (t := 116) (by rw [hc63] <;> decide)) ?_
                    refine Q.run zm0 5 (i' := 121) (ls' := [some (.ref 0), some (.ref 78), some (.ref 121), some (.ref 148), some (.int x4), g5, g6]) (st' := [.int (x4 + 1), .ref 0, .ref 78]) rfl ?_
                    obtain ⟨hc64, h⟩ := ite_so h
                    refine Q.map (A.ia (gI_of zm0 (e := (271, 1, .iaload, [])) rfl) (hl.lt (a := 0) (by decide)) hl.t0 hc64) ?_
                    refine Q.run zm0 4 (i' := 126) (ls' := [some (.ref 0), some (.ref 78), some (.ref 121), some (.ref 148), some (.int x4), g5, g6]) (st' := [.int (x4 + 2), .ref 0, .int (sI s 0 (jN (x4 + 1))), .ref 78]) rfl ?_
                    obtain ⟨hc65, h⟩ := ite_so h
                    refine Q.map (A.ia (gI_of zm0 (e := (277, 1, .iaload, [])) rfl) (hl.lt (a := 0) (by decide)) hl.t0 hc65) ?_
                    refine Q.run zm0 4 (i' := 131) (ls' := [some (.ref 0), some (.ref 78), some (.ref 121), some (.ref 148), some (.int x4), g5, g6]) (st' := [.int (x4 + 3), .ref 0, .int (sI s 0 (jN (x4 + 2))), .int (sI s 0 (jN (x4 + 1))), .ref 78]) rfl ?_
                    obtain ⟨hc66, h⟩ := ite_so h
                    refine Q.map (A.ia (gI_of zm0 (e := (283, 1, .iaload, [])) rfl) (hl.lt (a := 0) (by decide)) hl.t0 hc66) ?_
                    refine Q.run zm0 4 (i' := 136) (ls' := [some (.ref 0), some (.ref 78), some (.ref 121), some (.ref 148), some (.int x4), g5, g6]) (st' := [.int (x4 + 4), .ref 0, .int (sI s 0 (jN (x4 + 3))), .int (sI s 0 (jN (x4 + 2))), .int (sI s 0 (jN (x4 + 1))), .ref 78]) rfl ?_
                    obtain ⟨hc67, h⟩ := ite_so h
                    refine Q.map (A.ia (gI_of zm0 (e := (289, 1, .iaload, [])) rfl) (hl.lt (a := 0) (by decide)) hl.t0 hc67) ?_
                    refine Q.run zm0 4 (i' := 141) (ls' := [some (.ref 0), some (.ref 78), some (.ref 121), some (.ref 148), some (.int x4), g5, g6]) (st' := [.int (x4 + 5), .ref 0, .int (sI s 0 (jN (x4 + 4))), .int (sI s 0 (jN (x4 + 3))), .int (sI s 0 (jN (x4 + 2))), .int (sI s 0 (jN (x4 + 1))), .ref 78]) rfl ?_
                    obtain ⟨hc68, h⟩ := ite_so h
                    refine Q.map (A.ia (gI_of zm0 (e := (295, 1, .iaload, [])) rfl) (hl.lt (a := 0) (by decide)) hl.t0 hc68) ?_
                    obtain ⟨r72, s71, hc70, h⟩ := bv_so h
                    have hq69 : Q 0 sio tt cc d 6 0 [some (.ref 78), some (.int (sI s 0 (jN (x4 + 1)))), some (.int (sI s 0 (jN (x4 + 2)))), some (.int (sI s 0 (jN (x4 + 3)))), some (.int (sI s 0 (jN (x4 + 4)))), some (.int (sI s 0 (jN (x4 + 5)))), none] [] s (.inl (some (.int r72)), s71) := (dt6 (by omega) hl  hc70).w
                    refine Q.callI (gC_st zm0 (show zM0.2.2.2.2.2[142]? = some (296, 3, .invokestatic 97, [0, 6, 6]) from rfl) zm6 (show aC 6 [.int (sI s 0 (jN (x4 + 5))), .int (sI s 0 (jN (x4 + 4))), .int (sI s 0 (jN (x4 + 3))), .int (sI s 0 (jN (x4 + 2))), .int (sI s 0 (jN (x4 + 1))), .ref 78] 7 = some ([some (.ref 78), some (.int (sI s 0 (jN (x4 + 1)))), some (.int (sI s 0 (jN (x4 + 2)))), some (.int (sI s 0 (jN (x4 + 3)))), some (.int (sI s 0 (jN (x4 + 4)))), some (.int (sI s 0 (jN (x4 + 5)))), none], []) from rfl)) hq69 ?_
                    refine Q.run zm0 6 (i' := 149) (ls' := [some (.ref 0), some (.ref 78), some (.ref 121), some (.ref 148), some (.int x4), some (.int r72), g6]) (st' := [.int (x4 + 1), .ref 0, .ref 121]) rfl ?_
                    obtain ⟨hc73, h⟩ := ite_so h
                    refine Q.map (A.ia (gI_of zm0 (e := (307, 1, .iaload, [])) rfl) (hq69.1.lt (a := 0) (by decide)) hq69.1.t0 hc73) ?_
                    refine Q.run zm0 4 (i' := 154) (ls' := [some (.ref 0), some (.ref 78), some (.ref 121), some (.ref 148), some (.int x4), some (.int r72), g6]) (st' := [.int (x4 + 2), .ref 0, .int (sI s71 0 (jN (x4 + 1))), .ref 121]) rfl ?_
                    obtain ⟨hc74, h⟩ := ite_so h
                    refine Q.map (A.ia (gI_of zm0 (e := (313, 1, .iaload, [])) rfl) (hq69.1.lt (a := 0) (by decide)) hq69.1.t0 hc74) ?_
                    refine Q.run zm0 4 (i' := 159) (ls' := [some (.ref 0), some (.ref 78), some (.ref 121), some (.ref 148), some (.int x4), some (.int r72), g6]) (st' := [.int (x4 + 3), .ref 0, .int (sI s71 0 (jN (x4 + 2))), .int (sI s71 0 (jN (x4 + 1))), .ref 121]) rfl ?_
                    obtain ⟨hc75, h⟩ := ite_so h
                    refine Q.map (A.ia (gI_of zm0 (e := (319, 1, .iaload, [])) rfl) (hq69.1.lt (a := 0) (by decide)) hq69.1.t0 hc75) ?_
                    refine Q.run zm0 4 (i' := 164) (ls' := [some (.ref 0), some (.ref 78), some (.ref 121), some (.ref 148), some (.int x4), some (.int r72), g6]) (st' := [.int (x4 + 4), .ref 0, .int (sI s71 0 (jN (x4 + 3))), .int (sI s71 0 (jN (x4 + 2))), .int (sI s71 0 (jN (x4 + 1))), .ref 121]) rfl ?_
                    obtain ⟨hc76, h⟩ := ite_so h
                    refine Q.map (A.ia (gI_of zm0 (e := (325, 1, .iaload, [])) rfl) (hq69.1.lt (a := 0) (by decide)) hq69.1.t0 hc76) ?_
                    refine Q.run zm0 4 (i' := 169) (ls' := [some (.ref 0), some (.ref 78), some (.ref 121), some (.ref 148), some (.int x4), some (.int r72), g6]) (st' := [.int (x4 + 5), .ref 0, .int (sI s71 0 (jN (x4 + 4))), .int (sI s71 0 (jN (x4 + 3))), .int (sI s71 0 (jN (x4 + 2))), .int (sI s71 0 (jN (x4 + 1))), .ref 121]) rfl ?_
                    obtain ⟨hc77, h⟩ := ite_so h
                    refine Q.map (A.ia (gI_of zm0 (e := (331, 1, .iaload, [])) rfl) (hq69.1.lt (a := 0) (by decide)) hq69.1.t0 hc77) ?_
                    obtain ⟨s80, hc79, h⟩ := bu_so h
                    have hq78 : Q 0 sio tt cc d 224 0 [some (.ref 121), some (.int (sI s71 0 (jN (x4 + 1)))), some (.int (sI s71 0 (jN (x4 + 2)))), some (.int (sI s71 0 (jN (x4 + 3)))), some (.int (sI s71 0 (jN (x4 + 4)))), some (.int (sI s71 0 (jN (x4 + 5)))), none, none, none] [] s71 (.inl none, s80) := (dt224 (by omega) hq69.1  hc79).w
                    refine Q.callV (gC_vi zm0 (show zM0.2.2.2.2.2[170]? = some (332, 3, .invokevirtual 100, [0, 224, 5, 9]) from rfl) zm224 (hq69.1.lt (a := 121) (by decide)) (hq69.1.T (a := 121) (p := (9, 45)) 43 rfl rfl) rfl (show aCr 5 121 [.int (sI s71 0 (jN (x4 + 5))), .int (sI s71 0 (jN (x4 + 4))), .int (sI s71 0 (jN (x4 + 3))), .int (sI s71 0 (jN (x4 + 2))), .int (sI s71 0 (jN (x4 + 1))), .ref 121] 9 = some ([some (.ref 121), some (.int (sI s71 0 (jN (x4 + 1)))), some (.int (sI s71 0 (jN (x4 + 2)))), some (.int (sI s71 0 (jN (x4 + 3)))), some (.int (sI s71 0 (jN (x4 + 4)))), some (.int (sI s71 0 (jN (x4 + 5)))), none, none, none], []) from rfl)) hq78 ?_
                    refine Q.run zm0 1 (i' := 457) (ls' := [some (.ref 0), some (.ref 78), some (.ref 121), some (.ref 148), some (.int x4), some (.int r72), g6]) (st' := []) rfl ?_
                    exact dt0_457 hd ih hq78.1  h
                  · rw [if_neg hc63] at h
                    by_cases hc81 : ((sI s 0 (jN x4)) &&& 15) = 7
                    · rw [if_pos hc81] at h
                      refine Q.map (A.ts (gI_of zm0 (e := (40, 80, .tableswitch 711 0 15 #[80, 108, 119, 135, 160, 185, 225, 298, 378, 403, 471, 499, 551, 603, 643, 671], [457, 25, 43, 48, 56, 72, 88, 116, 172, 228, 244, 289, 307, 345, 383, 411, 429])) rfl) (t := 172) (by rw [hc81] <;> decide)) ?_
                      refine Q.run zm0 5 (i' := 177) (ls' := [some (.ref 0), some (.ref 78), some (.ref 121), some (.ref 148), some (.int x4), g5, g6]) (st' := [.int (x4 + 1), .ref 0, .ref 78]) rfl ?_
                      obtain ⟨hc82, h⟩ := ite_so h
                      refine Q.map (A.ia (gI_of zm0 (e := (344, 1, .iaload, [])) rfl) (hl.lt (a := 0) (by decide)) hl.t0 hc82) ?_
                      refine Q.run zm0 4 (i' := 182) (ls' := [some (.ref 0), some (.ref 78), some (.ref 121), some (.ref 148), some (.int x4), g5, g6]) (st' := [.int (x4 + 2), .ref 0, .int (sI s 0 (jN (x4 + 1))), .ref 78]) rfl ?_
                      obtain ⟨hc83, h⟩ := ite_so h
                      refine Q.map (A.ia (gI_of zm0 (e := (350, 1, .iaload, [])) rfl) (hl.lt (a := 0) (by decide)) hl.t0 hc83) ?_
                      by_cases hc84 : (sI s 0 (jN (x4 + 2))) = 0
                      · rw [if_pos hc84] at h
                        refine Q.map (A.zT (gI_of zm0 (e := (351, 3, .ifCond .eq 7, [186])) rfl) (decide_eq_true hc84)) ?_
                        refine Q.run zm0 1 (i' := 187) (ls' := [some (.ref 0), some (.ref 78), some (.ref 121), some (.ref 148), some (.int x4), g5, g6]) (st' := [.int 0, .int (sI s 0 (jN (x4 + 1))), .ref 78]) rfl ?_
                        exact dt0_187 hd ih hl  h
                      · rw [if_neg hc84] at h
                        refine Q.map (A.zF (gI_of zm0 (e := (351, 3, .ifCond .eq 7, [186])) rfl) (fun q => hc84 (of_decide_eq_true q))) ?_
                        refine Q.run zm0 2 (i' := 187) (ls' := [some (.ref 0), some (.ref 78), some (.ref 121), some (.ref 148), some (.int x4), g5, g6]) (st' := [.int 1, .int (sI s 0 (jN (x4 + 1))), .ref 78]) rfl ?_
                        exact dt0_187 hd ih hl  h
                    · rw [if_neg hc81] at h
                      by_cases hc85 : ((sI s 0 (jN x4)) &&& 15) = 8
                      · rw [if_pos hc85] at h
                        refine Q.map (A.ts (gI_of zm0 (e := (40, 80, .tableswitch 711 0 15 #[80, 108, 119, 135, 160, 185, 225, 298, 378, 403, 471, 499, 551, 603, 643, 671], [457, 25, 43, 48, 56, 72, 88, 116, 172, 228, 244, 289, 307, 345, 383, 411, 429])) rfl) (t := 228) (by rw [hc85] <;> decide)) ?_
                        refine Q.run zm0 5 (i' := 233) (ls' := [some (.ref 0), some (.ref 78), some (.ref 121), some (.ref 148), some (.int x4), g5, g6]) (st' := [.int (x4 + 1), .ref 0, .ref 78]) rfl ?_
                        obtain ⟨hc86, h⟩ := ite_so h
                        refine Q.map (A.ia (gI_of zm0 (e := (424, 1, .iaload, [])) rfl) (hl.lt (a := 0) (by decide)) hl.t0 hc86) ?_
                        obtain ⟨r90, s89, hc88, h⟩ := bv_so h
                        have hq87 : Q 0 sio tt cc d 8 0 [some (.ref 78), some (.int (sI s 0 (jN (x4 + 1)))), none] [] s (.inl (some (.int r90)), s89) := (dt8 (by omega) hl  hc88).w
                        refine Q.callI (gC_st zm0 (show zM0.2.2.2.2.2[234]? = some (425, 3, .invokestatic 105, [0, 8, 2]) from rfl) zm8 (show aC 2 [.int (sI s 0 (jN (x4 + 1))), .ref 78] 3 = some ([some (.ref 78), some (.int (sI s 0 (jN (x4 + 1)))), none], []) from rfl)) hq87 ?_
                        refine Q.run zm0 6 (i' := 241) (ls' := [some (.ref 0), some (.ref 78), some (.ref 121), some (.ref 148), some (.int x4), some (.int r90), g6]) (st' := [.int (x4 + 1), .ref 0, .ref 121]) rfl ?_
                        obtain ⟨hc91, h⟩ := ite_so h
                        refine Q.map (A.ia (gI_of zm0 (e := (436, 1, .iaload, [])) rfl) (hq87.1.lt (a := 0) (by decide)) hq87.1.t0 hc91) ?_
                        obtain ⟨s94, hc93, h⟩ := bu_so h
                        have hq92 : Q 0 sio tt cc d 231 0 [some (.ref 121), some (.int (sI s89 0 (jN (x4 + 1))))] [] s89 (.inl none, s94) := (dt231 (by omega) hq87.1  hc93).w
                        refine Q.callV (gC_vi zm0 (show zM0.2.2.2.2.2[242]? = some (437, 3, .invokevirtual 107, [0, 231, 1, 9]) from rfl) zm231 (hq87.1.lt (a := 121) (by decide)) (hq87.1.T (a := 121) (p := (9, 45)) 43 rfl rfl) rfl (show aCr 1 121 [.int (sI s89 0 (jN (x4 + 1))), .ref 121] 2 = some ([some (.ref 121), some (.int (sI s89 0 (jN (x4 + 1))))], []) from rfl)) hq92 ?_
                        refine Q.run zm0 1 (i' := 457) (ls' := [some (.ref 0), some (.ref 78), some (.ref 121), some (.ref 148), some (.int x4), some (.int r90), g6]) (st' := []) rfl ?_
                        exact dt0_457 hd ih hq92.1  h
                      · rw [if_neg hc85] at h
                        by_cases hc95 : ((sI s 0 (jN x4)) &&& 15) = 9
                        · rw [if_pos hc95] at h
                          refine Q.map (A.ts (gI_of zm0 (e := (40, 80, .tableswitch 711 0 15 #[80, 108, 119, 135, 160, 185, 225, 298, 378, 403, 471, 499, 551, 603, 643, 671], [457, 25, 43, 48, 56, 72, 88, 116, 172, 228, 244, 289, 307, 345, 383, 411, 429])) rfl) (t := 244) (by rw [hc95] <;> decide)) ?_
                          refine Q.run zm0 5 (i' := 249) (ls' := [some (.ref 0), some (.ref 78), some (.ref 121), some (.ref 148), some (.int x4), g5, g6]) (st' := [.int (x4 + 1), .ref 0, .ref 78]) rfl ?_
                          obtain ⟨hc96, h⟩ := ite_so h
                          refine Q.map (A.ia (gI_of zm0 (e := (449, 1, .iaload, [])) rfl) (hl.lt (a := 0) (by decide)) hl.t0 hc96) ?_
                          refine Q.run zm0 4 (i' := 254) (ls' := [some (.ref 0), some (.ref 78), some (.ref 121), some (.ref 148), some (.int x4), g5, g6]) (st' := [.int (x4 + 2), .ref 0, .int (sI s 0 (jN (x4 + 1))), .ref 78]) rfl ?_
                          obtain ⟨hc97, h⟩ := ite_so h
                          refine Q.map (A.ia (gI_of zm0 (e := (455, 1, .iaload, [])) rfl) (hl.lt (a := 0) (by decide)) hl.t0 hc97) ?_
                          refine Q.run zm0 1 (i' := 256) (ls' := [some (.ref 0), some (.ref 78), some (.ref 121), some (.ref 148), some (.int x4), g5, g6]) (st' := [.ref 148, .int (sI s 0 (jN (x4 + 2))), .int (sI s 0 (jN (x4 + 1))), .ref 78]) rfl ?_
                          obtain ⟨r101, s100, hc99, h⟩ := bv_so h
                          have hq98 : Q 0 sio tt cc d 9 0 [some (.ref 78), some (.int (sI s 0 (jN (x4 + 1)))), some (.int (sI s 0 (jN (x4 + 2)))), some (.ref 148), none] [] s (.inl (some (.int r101)), s100) := (dt9 (by omega) hl  hc99).w
                          refine Q.callI (gC_st zm0 (show zM0.2.2.2.2.2[256]? = some (457, 3, .invokestatic 108, [0, 9, 4]) from rfl) zm9 (show aC 4 [.ref 148, .int (sI s 0 (jN (x4 + 2))), .int (sI s 0 (jN (x4 + 1))), .ref 78] 5 = some ([some (.ref 78), some (.int (sI s 0 (jN (x4 + 1)))), some (.int (sI s 0 (jN (x4 + 2)))), some (.ref 148), none], []) from rfl)) hq98 ?_
                          refine Q.run zm0 6 (i' := 263) (ls' := [some (.ref 0), some (.ref 78), some (.ref 121), some (.ref 148), some (.int x4), some (.int r101), g6]) (st' := [.int (x4 + 1), .ref 0, .ref 121]) rfl ?_
                          obtain ⟨hc102, h⟩ := ite_so h
                          refine Q.map (A.ia (gI_of zm0 (e := (468, 1, .iaload, [])) rfl) (hq98.1.lt (a := 0) (by decide)) hq98.1.t0 hc102) ?_
                          refine Q.run zm0 4 (i' := 268) (ls' := [some (.ref 0), some (.ref 78), some (.ref 121), some (.ref 148), some (.int x4), some (.int r101), g6]) (st' := [.int (x4 + 2), .ref 0, .int (sI s100 0 (jN (x4 + 1))), .ref 121]) rfl ?_
                          obtain ⟨hc103, h⟩ := ite_so h
                          refine Q.map (A.ia (gI_of zm0 (e := (474, 1, .iaload, [])) rfl) (hq98.1.lt (a := 0) (by decide)) hq98.1.t0 hc103) ?_
                          obtain ⟨r107, s106, hc105, h⟩ := bv_so h
                          have hq104 : Q 0 sio tt cc d 232 0 [some (.ref 121), some (.int (sI s100 0 (jN (x4 + 1)))), some (.int (sI s100 0 (jN (x4 + 2))))] [] s100 (.inl (some (.int r107)), s106) := (dt232 (by omega) hq98.1  hc105).w
                          refine Q.callI (gC_vi zm0 (show zM0.2.2.2.2.2[269]? = some (475, 3, .invokevirtual 110, [0, 232, 2, 9]) from rfl) zm232 (hq98.1.lt (a := 121) (by decide)) (hq98.1.T (a := 121) (p := (9, 45)) 43 rfl rfl) rfl (show aCr 2 121 [.int (sI s100 0 (jN (x4 + 2))), .int (sI s100 0 (jN (x4 + 1))), .ref 121] 3 = some ([some (.ref 121), some (.int (sI s100 0 (jN (x4 + 1)))), some (.int (sI s100 0 (jN (x4 + 2))))], []) from rfl)) hq104 ?_
                          refine Q.run zm0 2 (i' := 272) (ls' := [some (.ref 0), some (.ref 78), some (.ref 121), some (.ref 148), some (.int x4), some (.int r101), some (.int r107)]) (st' := [.ref 121]) rfl ?_
                          obtain ⟨r110, hc109, h⟩ := bu_so h
                          have hq108 : Q 0 sio tt cc d 171 0 [some (.ref 121)] [] s106 (.inl (some (.int r110)), s106) := (dt171 (by omega) hq104.1  hc109).w
                          refine Q.callI (gC_vi zm0 (show zM0.2.2.2.2.2[272]? = some (481, 3, .invokevirtual 111, [0, 171, 0, 9]) from rfl) zm171 (hq104.1.lt (a := 121) (by decide)) (hq104.1.T (a := 121) (p := (9, 45)) 43 rfl rfl) rfl (show aCr 0 121 [.ref 121] 1 = some ([some (.ref 121)], []) from rfl)) hq108 ?_
                          refine Q.run zm0 1 (i' := 274) (ls' := [some (.ref 0), some (.ref 78), some (.ref 121), some (.ref 148), some (.int x4), some (.int r101), some (.int r107)]) (st' := [.int r101, .int r110]) rfl ?_
                          by_cases hc111 : r110 = r101
                          · rw [if_pos hc111] at h
                            refine Q.map (A.bT (gI_of zm0 (e := (486, 3, .if_icmp .eq 5, [277])) rfl) (decide_eq_true hc111)) ?_
                            refine Q.run zm0 1 (i' := 278) (ls' := [some (.ref 0), some (.ref 78), some (.ref 121), some (.ref 148), some (.int x4), some (.int r101), some (.int r107)]) (st' := [.int r101]) rfl ?_
                            by_cases hc112 : r101 = 0
                            · rw [if_pos hc112] at h
                              refine Q.map (A.zF (gI_of zm0 (e := (493, 3, .ifCond .ne 15, [288])) rfl) (fun q => of_decide_eq_true q hc112)) ?_
                              refine Q.run zm0 2 (i' := 281) (ls' := [some (.ref 0), some (.ref 78), some (.ref 121), some (.ref 148), some (.int x4), some (.int r101), some (.int r107)]) (st' := [.int 0, .ref 148]) rfl ?_
                              obtain ⟨hc113, h⟩ := ite_so h
                              refine Q.map (A.la (gI_of zm0 (e := (498, 1, .laload, [])) rfl) (hq104.1.lt (a := 148) (by decide)) (hq104.1.T (a := 148) (p := (104, 1)) 70 rfl rfl) hc113) ?_
                              refine Q.run zm0 3 (i' := 285) (ls' := [some (.ref 0), some (.ref 78), some (.ref 121), some (.ref 148), some (.int x4), some (.int r101), some (.int r107)]) (st' := [.int (lg_cmp (sJ s106 148 (jN 0)) r107.toInt64)]) rfl ?_
                              by_cases hc114 : (lg_cmp (sJ s106 148 (jN 0)) r107.toInt64) = 0
                              · rw [if_pos hc114] at h
                                refine Q.map (A.zT (gI_of zm0 (e := (503, 3, .ifCond .eq 5, [288])) rfl) (decide_eq_true hc114)) ?_
                                exact dt0_288 hd ih hq104.1  h
                              · rw [if_neg hc114] at h
                                refine Q.map (A.zF (gI_of zm0 (e := (503, 3, .ifCond .eq 5, [288])) rfl) (fun q => hc114 (of_decide_eq_true q))) ?_
                                refine Q.run zm0 1 (i' := 287) (ls' := [some (.ref 0), some (.ref 78), some (.ref 121), some (.ref 148), some (.int x4), some (.int r101), some (.int r107)]) (st' := [.int 0]) rfl ?_
                                cases h
                                exact Q.ret (A.ri zm0 (show zM0.2.2.2.2.2[287]? = some (507, 1, .ireturn, []) from rfl) rfl rfl) hq104.1
                            · rw [if_neg hc112] at h
                              refine Q.map (A.zT (gI_of zm0 (e := (493, 3, .ifCond .ne 15, [288])) rfl) (decide_eq_true hc112)) ?_
                              exact dt0_288 hd ih hq104.1  h
                          · rw [if_neg hc111] at h
                            refine Q.map (A.bF (gI_of zm0 (e := (486, 3, .if_icmp .eq 5, [277])) rfl) (fun q => hc111 (of_decide_eq_true q))) ?_
                            refine Q.run zm0 1 (i' := 276) (ls' := [some (.ref 0), some (.ref 78), some (.ref 121), some (.ref 148), some (.int x4), some (.int r101), some (.int r107)]) (st' := [.int 0]) rfl ?_
                            cases h
                            exact Q.ret (A.ri zm0 (show zM0.2.2.2.2.2[276]? = some (490, 1, .ireturn, []) from rfl) rfl rfl) hq104.1
                        · rw [if_neg hc95] at h
                          by_cases hc115 : ((sI s 0 (jN x4)) &&& 15) = 10
                          · rw [if_pos hc115] at h
                            refine Q.map (A.ts (gI_of zm0 (e := (40, 80, .tableswitch 711 0 15 #[80, 108, 119, 135, 160, 185, 225, 298, 378, 403, 471, 499, 551, 603, 643, 671], [457, 25, 43, 48, 56, 72, 88, 116, 172, 228, 244, 289, 307, 345, 383, 411, 429])) rfl) (t := 289) (by rw [hc115] <;> decide)) ?_
                            refine Q.run zm0 5 (i' := 294) (ls' := [some (.ref 0), some (.ref 78), some (.ref 121), some (.ref 148), some (.int x4), g5, g6]) (st' := [.int (x4 + 1), .ref 0, .ref 78]) rfl ?_
                            obtain ⟨hc116, h⟩ := ite_so h
                            refine Q.map (A.ia (gI_of zm0 (e := (517, 1, .iaload, [])) rfl) (hl.lt (a := 0) (by decide)) hl.t0 hc116) ?_
                            refine Q.run zm0 1 (i' := 296) (ls' := [some (.ref 0), some (.ref 78), some (.ref 121), some (.ref 148), some (.int x4), g5, g6]) (st' := [.ref 148, .int (sI s 0 (jN (x4 + 1))), .ref 78]) rfl ?_
                            obtain ⟨r120, s119, hc118, h⟩ := bv_so h
                            have hq117 : Q 0 sio tt cc d 10 0 [some (.ref 78), some (.int (sI s 0 (jN (x4 + 1)))), some (.ref 148), none] [] s (.inl (some (.int r120)), s119) := (dt10 (by omega) hl  hc118).w
                            refine Q.callI (gC_st zm0 (show zM0.2.2.2.2.2[296]? = some (519, 3, .invokestatic 114, [0, 10, 3]) from rfl) zm10 (show aC 3 [.ref 148, .int (sI s 0 (jN (x4 + 1))), .ref 78] 4 = some ([some (.ref 78), some (.int (sI s 0 (jN (x4 + 1)))), some (.ref 148), none], []) from rfl)) hq117 ?_
                            refine Q.run zm0 6 (i' := 303) (ls' := [some (.ref 0), some (.ref 78), some (.ref 121), some (.ref 148), some (.int x4), some (.int r120), g6]) (st' := [.int (x4 + 1), .ref 0, .ref 121]) rfl ?_
                            obtain ⟨hc121, h⟩ := ite_so h
                            refine Q.map (A.ia (gI_of zm0 (e := (530, 1, .iaload, [])) rfl) (hq117.1.lt (a := 0) (by decide)) hq117.1.t0 hc121) ?_
                            obtain ⟨r125, s124, hc123, h⟩ := bv_so h
                            have hq122 : Q 0 sio tt cc d 243 0 [some (.ref 121), some (.int (sI s119 0 (jN (x4 + 1))))] [] s119 (.inl (some (.int r125)), s124) := (dt243 (by omega) hq117.1  hc123).w
                            refine Q.callI (gC_vi zm0 (show zM0.2.2.2.2.2[304]? = some (531, 3, .invokevirtual 116, [0, 243, 1, 9]) from rfl) zm243 (hq117.1.lt (a := 121) (by decide)) (hq117.1.T (a := 121) (p := (9, 45)) 43 rfl rfl) rfl (show aCr 1 121 [.int (sI s119 0 (jN (x4 + 1))), .ref 121] 2 = some ([some (.ref 121), some (.int (sI s119 0 (jN (x4 + 1))))], []) from rfl)) hq122 ?_
                            refine Q.run zm0 2 (i' := 457) (ls' := [some (.ref 0), some (.ref 78), some (.ref 121), some (.ref 148), some (.int x4), some (.int r120), some (.int r125)]) (st' := []) rfl ?_
                            exact dt0_457 hd ih hq122.1  h
                          · rw [if_neg hc115] at h
                            by_cases hc126 : ((sI s 0 (jN x4)) &&& 15) = 11
                            · rw [if_pos hc126] at h
                              refine Q.map (A.ts (gI_of zm0 (e := (40, 80, .tableswitch 711 0 15 #[80, 108, 119, 135, 160, 185, 225, 298, 378, 403, 471, 499, 551, 603, 643, 671], [457, 25, 43, 48, 56, 72, 88, 116, 172, 228, 244, 289, 307, 345, 383, 411, 429])) rfl) (t := 307) (by rw [hc126] <;> decide)) ?_
                              refine Q.run zm0 5 (i' := 312) (ls' := [some (.ref 0), some (.ref 78), some (.ref 121), some (.ref 148), some (.int x4), g5, g6]) (st' := [.int (x4 + 1), .ref 0, .ref 78]) rfl ?_
                              obtain ⟨hc127, h⟩ := ite_so h
                              refine Q.map (A.ia (gI_of zm0 (e := (545, 1, .iaload, [])) rfl) (hl.lt (a := 0) (by decide)) hl.t0 hc127) ?_
                              refine Q.run zm0 4 (i' := 317) (ls' := [some (.ref 0), some (.ref 78), some (.ref 121), some (.ref 148), some (.int x4), g5, g6]) (st' := [.int (x4 + 2), .ref 0, .int (sI s 0 (jN (x4 + 1))), .ref 78]) rfl ?_
                              obtain ⟨hc128, h⟩ := ite_so h
                              refine Q.map (A.ia (gI_of zm0 (e := (551, 1, .iaload, [])) rfl) (hl.lt (a := 0) (by decide)) hl.t0 hc128) ?_
                              refine Q.run zm0 4 (i' := 322) (ls' := [some (.ref 0), some (.ref 78), some (.ref 121), some (.ref 148), some (.int x4), g5, g6]) (st' := [.int (x4 + 3), .ref 0, .int (sI s 0 (jN (x4 + 2))), .int (sI s 0 (jN (x4 + 1))), .ref 78]) rfl ?_
                              obtain ⟨hc129, h⟩ := ite_so h
                              refine Q.map (A.ia (gI_of zm0 (e := (557, 1, .iaload, [])) rfl) (hl.lt (a := 0) (by decide)) hl.t0 hc129) ?_
                              refine Q.run zm0 1 (i' := 324) (ls' := [some (.ref 0), some (.ref 78), some (.ref 121), some (.ref 148), some (.int x4), g5, g6]) (st' := [.ref 148, .int (sI s 0 (jN (x4 + 3))), .int (sI s 0 (jN (x4 + 2))), .int (sI s 0 (jN (x4 + 1))), .ref 78]) rfl ?_
                              obtain ⟨r133, s132, hc131, h⟩ := bv_so h
                              have hq130 : Q 0 sio tt cc d 11 0 [some (.ref 78), some (.int (sI s 0 (jN (x4 + 1)))), some (.int (sI s 0 (jN (x4 + 2)))), some (.int (sI s 0 (jN (x4 + 3)))), some (.ref 148), none] [] s (.inl (some (.int r133)), s132) := (dt11 (by omega) hl  hc131).w
                              refine Q.callI (gC_st zm0 (show zM0.2.2.2.2.2[324]? = some (559, 3, .invokestatic 117, [0, 11, 5]) from rfl) zm11 (show aC 5 [.ref 148, .int (sI s 0 (jN (x4 + 3))), .int (sI s 0 (jN (x4 + 2))), .int (sI s 0 (jN (x4 + 1))), .ref 78] 6 = some ([some (.ref 78), some (.int (sI s 0 (jN (x4 + 1)))), some (.int (sI s 0 (jN (x4 + 2)))), some (.int (sI s 0 (jN (x4 + 3)))), some (.ref 148), none], []) from rfl)) hq130 ?_
                              refine Q.run zm0 6 (i' := 331) (ls' := [some (.ref 0), some (.ref 78), some (.ref 121), some (.ref 148), some (.int x4), some (.int r133), g6]) (st' := [.int (x4 + 1), .ref 0, .ref 121]) rfl ?_
                              obtain ⟨hc134, h⟩ := ite_so h
                              refine Q.map (A.ia (gI_of zm0 (e := (570, 1, .iaload, [])) rfl) (hq130.1.lt (a := 0) (by decide)) hq130.1.t0 hc134) ?_
                              refine Q.run zm0 4 (i' := 336) (ls' := [some (.ref 0), some (.ref 78), some (.ref 121), some (.ref 148), some (.int x4), some (.int r133), g6]) (st' := [.int (x4 + 2), .ref 0, .int (sI s132 0 (jN (x4 + 1))), .ref 121]) rfl ?_
                              obtain ⟨hc135, h⟩ := ite_so h
                              refine Q.map (A.ia (gI_of zm0 (e := (576, 1, .iaload, [])) rfl) (hq130.1.lt (a := 0) (by decide)) hq130.1.t0 hc135) ?_
                              refine Q.run zm0 4 (i' := 341) (ls' := [some (.ref 0), some (.ref 78), some (.ref 121), some (.ref 148), some (.int x4), some (.int r133), g6]) (st' := [.int (x4 + 3), .ref 0, .int (sI s132 0 (jN (x4 + 2))), .int (sI s132 0 (jN (x4 + 1))), .ref 121]) rfl ?_
                              obtain ⟨hc136, h⟩ := ite_so h
                              refine Q.map (A.ia (gI_of zm0 (e := (582, 1, .iaload, [])) rfl) (hq130.1.lt (a := 0) (by decide)) hq130.1.t0 hc136) ?_
                              obtain ⟨r140, s139, hc138, h⟩ := bv_so h
                              have hq137 : Q 0 sio tt cc d 244 0 [some (.ref 121), some (.int (sI s132 0 (jN (x4 + 1)))), some (.int (sI s132 0 (jN (x4 + 2)))), some (.int (sI s132 0 (jN (x4 + 3))))] [] s132 (.inl (some (.int r140)), s139) := (dt244 (by omega) hq130.1  hc138).w
                              refine Q.callI (gC_vi zm0 (show zM0.2.2.2.2.2[342]? = some (583, 3, .invokevirtual 120, [0, 244, 3, 9]) from rfl) zm244 (hq130.1.lt (a := 121) (by decide)) (hq130.1.T (a := 121) (p := (9, 45)) 43 rfl rfl) rfl (show aCr 3 121 [.int (sI s132 0 (jN (x4 + 3))), .int (sI s132 0 (jN (x4 + 2))), .int (sI s132 0 (jN (x4 + 1))), .ref 121] 4 = some ([some (.ref 121), some (.int (sI s132 0 (jN (x4 + 1)))), some (.int (sI s132 0 (jN (x4 + 2)))), some (.int (sI s132 0 (jN (x4 + 3))))], []) from rfl)) hq137 ?_
                              refine Q.run zm0 2 (i' := 457) (ls' := [some (.ref 0), some (.ref 78), some (.ref 121), some (.ref 148), some (.int x4), some (.int r133), some (.int r140)]) (st' := []) rfl ?_
                              exact dt0_457 hd ih hq137.1  h
                            · rw [if_neg hc126] at h
                              by_cases hc141 : ((sI s 0 (jN x4)) &&& 15) = 12
                              · rw [if_pos hc141] at h
                                refine Q.map (A.ts (gI_of zm0 (e := (40, 80, .tableswitch 711 0 15 #[80, 108, 119, 135, 160, 185, 225, 298, 378, 403, 471, 499, 551, 603, 643, 671], [457, 25, 43, 48, 56, 72, 88, 116, 172, 228, 244, 289, 307, 345, 383, 411, 429])) rfl) (t := 345) (by rw [hc141] <;> decide)) ?_
                                refine Q.run zm0 5 (i' := 350) (ls' := [some (.ref 0), some (.ref 78), some (.ref 121), some (.ref 148), some (.int x4), g5, g6]) (st' := [.int (x4 + 1), .ref 0, .ref 78]) rfl ?_
                                obtain ⟨hc142, h⟩ := ite_so h
                                refine Q.map (A.ia (gI_of zm0 (e := (597, 1, .iaload, [])) rfl) (hl.lt (a := 0) (by decide)) hl.t0 hc142) ?_
                                refine Q.run zm0 4 (i' := 355) (ls' := [some (.ref 0), some (.ref 78), some (.ref 121), some (.ref 148), some (.int x4), g5, g6]) (st' := [.int (x4 + 2), .ref 0, .int (sI s 0 (jN (x4 + 1))), .ref 78]) rfl ?_
                                obtain ⟨hc143, h⟩ := ite_so h
                                refine Q.map (A.ia (gI_of zm0 (e := (603, 1, .iaload, [])) rfl) (hl.lt (a := 0) (by decide)) hl.t0 hc143) ?_
                                refine Q.run zm0 4 (i' := 360) (ls' := [some (.ref 0), some (.ref 78), some (.ref 121), some (.ref 148), some (.int x4), g5, g6]) (st' := [.int (x4 + 3), .ref 0, .int (sI s 0 (jN (x4 + 2))), .int (sI s 0 (jN (x4 + 1))), .ref 78]) rfl ?_
                                obtain ⟨hc144, h⟩ := ite_so h
                                refine Q.map (A.ia (gI_of zm0 (e := (609, 1, .iaload, [])) rfl) (hl.lt (a := 0) (by decide)) hl.t0 hc144) ?_
                                refine Q.run zm0 1 (i' := 362) (ls' := [some (.ref 0), some (.ref 78), some (.ref 121), some (.ref 148), some (.int x4), g5, g6]) (st' := [.ref 148, .int (sI s 0 (jN (x4 + 3))), .int (sI s 0 (jN (x4 + 2))), .int (sI s 0 (jN (x4 + 1))), .ref 78]) rfl ?_
                                obtain ⟨r148, s147, hc146, h⟩ := bv_so h
                                have hq145 : Q 0 sio tt cc d 12 0 [some (.ref 78), some (.int (sI s 0 (jN (x4 + 1)))), some (.int (sI s 0 (jN (x4 + 2)))), some (.int (sI s 0 (jN (x4 + 3)))), some (.ref 148), none] [] s (.inl (some (.int r148)), s147) := (dt12 (by omega) hl  hc146).w
                                refine Q.callI (gC_st zm0 (show zM0.2.2.2.2.2[362]? = some (611, 3, .invokestatic 121, [0, 12, 5]) from rfl) zm12 (show aC 5 [.ref 148, .int (sI s 0 (jN (x4 + 3))), .int (sI s 0 (jN (x4 + 2))), .int (sI s 0 (jN (x4 + 1))), .ref 78] 6 = some ([some (.ref 78), some (.int (sI s 0 (jN (x4 + 1)))), some (.int (sI s 0 (jN (x4 + 2)))), some (.int (sI s 0 (jN (x4 + 3)))), some (.ref 148), none], []) from rfl)) hq145 ?_
                                refine Q.run zm0 6 (i' := 369) (ls' := [some (.ref 0), some (.ref 78), some (.ref 121), some (.ref 148), some (.int x4), some (.int r148), g6]) (st' := [.int (x4 + 1), .ref 0, .ref 121]) rfl ?_
                                obtain ⟨hc149, h⟩ := ite_so h
                                refine Q.map (A.ia (gI_of zm0 (e := (622, 1, .iaload, [])) rfl) (hq145.1.lt (a := 0) (by decide)) hq145.1.t0 hc149) ?_
                                refine Q.run zm0 4 (i' := 374) (ls' := [some (.ref 0), some (.ref 78), some (.ref 121), some (.ref 148), some (.int x4), some (.int r148), g6]) (st' := [.int (x4 + 2), .ref 0, .int (sI s147 0 (jN (x4 + 1))), .ref 121]) rfl ?_
                                obtain ⟨hc150, h⟩ := ite_so h
                                refine Q.map (A.ia (gI_of zm0 (e := (628, 1, .iaload, [])) rfl) (hq145.1.lt (a := 0) (by decide)) hq145.1.t0 hc150) ?_
                                refine Q.run zm0 4 (i' := 379) (ls' := [some (.ref 0), some (.ref 78), some (.ref 121), some (.ref 148), some (.int x4), some (.int r148), g6]) (st' := [.int (x4 + 3), .ref 0, .int (sI s147 0 (jN (x4 + 2))), .int (sI s147 0 (jN (x4 + 1))), .ref 121]) rfl ?_
                                obtain ⟨hc151, h⟩ := ite_so h
                                refine Q.map (A.ia (gI_of zm0 (e := (634, 1, .iaload, [])) rfl) (hq145.1.lt (a := 0) (by decide)) hq145.1.t0 hc151) ?_
                                obtain ⟨r155, s154, hc153, h⟩ := bv_so h
                                have hq152 : Q 0 sio tt cc d 246 0 [some (.ref 121), some (.int (sI s147 0 (jN (x4 + 1)))), some (.int (sI s147 0 (jN (x4 + 2)))), some (.int (sI s147 0 (jN (x4 + 3))))] [] s147 (.inl (some (.int r155)), s154) := (dt246 (by omega) hq145.1  hc153).w
                                refine Q.callI (gC_vi zm0 (show zM0.2.2.2.2.2[380]? = some (635, 3, .invokevirtual 123, [0, 246, 3, 9]) from rfl) zm246 (hq145.1.lt (a := 121) (by decide)) (hq145.1.T (a := 121) (p := (9, 45)) 43 rfl rfl) rfl (show aCr 3 121 [.int (sI s147 0 (jN (x4 + 3))), .int (sI s147 0 (jN (x4 + 2))), .int (sI s147 0 (jN (x4 + 1))), .ref 121] 4 = some ([some (.ref 121), some (.int (sI s147 0 (jN (x4 + 1)))), some (.int (sI s147 0 (jN (x4 + 2)))), some (.int (sI s147 0 (jN (x4 + 3))))], []) from rfl)) hq152 ?_
                                refine Q.run zm0 2 (i' := 457) (ls' := [some (.ref 0), some (.ref 78), some (.ref 121), some (.ref 148), some (.int x4), some (.int r148), some (.int r155)]) (st' := []) rfl ?_
                                exact dt0_457 hd ih hq152.1  h
                              · rw [if_neg hc141] at h
                                by_cases hc156 : ((sI s 0 (jN x4)) &&& 15) = 13
                                · rw [if_pos hc156] at h
                                  refine Q.map (A.ts (gI_of zm0 (e := (40, 80, .tableswitch 711 0 15 #[80, 108, 119, 135, 160, 185, 225, 298, 378, 403, 471, 499, 551, 603, 643, 671], [457, 25, 43, 48, 56, 72, 88, 116, 172, 228, 244, 289, 307, 345, 383, 411, 429])) rfl) (t := 383) (by rw [hc156] <;> decide)) ?_
                                  refine Q.run zm0 5 (i' := 388) (ls' := [some (.ref 0), some (.ref 78), some (.ref 121), some (.ref 148), some (.int x4), g5, g6]) (st' := [.int (x4 + 1), .ref 0, .ref 78]) rfl ?_
                                  obtain ⟨hc157, h⟩ := ite_so h
                                  refine Q.map (A.ia (gI_of zm0 (e := (649, 1, .iaload, [])) rfl) (hl.lt (a := 0) (by decide)) hl.t0 hc157) ?_
                                  refine Q.run zm0 4 (i' := 393) (ls' := [some (.ref 0), some (.ref 78), some (.ref 121), some (.ref 148), some (.int x4), g5, g6]) (st' := [.int (x4 + 2), .ref 0, .int (sI s 0 (jN (x4 + 1))), .ref 78]) rfl ?_
                                  obtain ⟨hc158, h⟩ := ite_so h
                                  refine Q.map (A.ia (gI_of zm0 (e := (655, 1, .iaload, [])) rfl) (hl.lt (a := 0) (by decide)) hl.t0 hc158) ?_
                                  refine Q.run zm0 1 (i' := 395) (ls' := [some (.ref 0), some (.ref 78), some (.ref 121), some (.ref 148), some (.int x4), g5, g6]) (st' := [.ref 148, .int (sI s 0 (jN (x4 + 2))), .int (sI s 0 (jN (x4 + 1))), .ref 78]) rfl ?_
                                  obtain ⟨r162, s161, hc160, h⟩ := bv_so h
                                  have hq159 : Q 0 sio tt cc d 13 0 [some (.ref 78), some (.int (sI s 0 (jN (x4 + 1)))), some (.int (sI s 0 (jN (x4 + 2)))), some (.ref 148), none] [] s (.inl (some (.int r162)), s161) := (dt13 (by omega) hl  hc160).w
                                  refine Q.callI (gC_st zm0 (show zM0.2.2.2.2.2[395]? = some (657, 3, .invokestatic 124, [0, 13, 4]) from rfl) zm13 (show aC 4 [.ref 148, .int (sI s 0 (jN (x4 + 2))), .int (sI s 0 (jN (x4 + 1))), .ref 78] 5 = some ([some (.ref 78), some (.int (sI s 0 (jN (x4 + 1)))), some (.int (sI s 0 (jN (x4 + 2)))), some (.ref 148), none], []) from rfl)) hq159 ?_
                                  refine Q.run zm0 6 (i' := 402) (ls' := [some (.ref 0), some (.ref 78), some (.ref 121), some (.ref 148), some (.int x4), some (.int r162), g6]) (st' := [.int (x4 + 1), .ref 0, .ref 121]) rfl ?_
                                  obtain ⟨hc163, h⟩ := ite_so h
                                  refine Q.map (A.ia (gI_of zm0 (e := (668, 1, .iaload, [])) rfl) (hq159.1.lt (a := 0) (by decide)) hq159.1.t0 hc163) ?_
                                  refine Q.run zm0 4 (i' := 407) (ls' := [some (.ref 0), some (.ref 78), some (.ref 121), some (.ref 148), some (.int x4), some (.int r162), g6]) (st' := [.int (x4 + 2), .ref 0, .int (sI s161 0 (jN (x4 + 1))), .ref 121]) rfl ?_
                                  obtain ⟨hc164, h⟩ := ite_so h
                                  refine Q.map (A.ia (gI_of zm0 (e := (674, 1, .iaload, [])) rfl) (hq159.1.lt (a := 0) (by decide)) hq159.1.t0 hc164) ?_
                                  obtain ⟨r168, s167, hc166, h⟩ := bv_so h
                                  have hq165 : Q 0 sio tt cc d 248 0 [some (.ref 121), some (.int (sI s161 0 (jN (x4 + 1)))), some (.int (sI s161 0 (jN (x4 + 2)))), none, none, none, none, none] [] s161 (.inl (some (.int r168)), s167) := (dt248 (by omega) hq159.1  hc166).w
                                  refine Q.callI (gC_vi zm0 (show zM0.2.2.2.2.2[408]? = some (675, 3, .invokevirtual 126, [0, 248, 2, 9]) from rfl) zm248 (hq159.1.lt (a := 121) (by decide)) (hq159.1.T (a := 121) (p := (9, 45)) 43 rfl rfl) rfl (show aCr 2 121 [.int (sI s161 0 (jN (x4 + 2))), .int (sI s161 0 (jN (x4 + 1))), .ref 121] 8 = some ([some (.ref 121), some (.int (sI s161 0 (jN (x4 + 1)))), some (.int (sI s161 0 (jN (x4 + 2)))), none, none, none, none, none], []) from rfl)) hq165 ?_
                                  refine Q.run zm0 2 (i' := 457) (ls' := [some (.ref 0), some (.ref 78), some (.ref 121), some (.ref 148), some (.int x4), some (.int r162), some (.int r168)]) (st' := []) rfl ?_
                                  exact dt0_457 hd ih hq165.1  h
                                · rw [if_neg hc156] at h
                                  by_cases hc169 : ((sI s 0 (jN x4)) &&& 15) = 14
                                  · rw [if_pos hc169] at h
                                    refine Q.map (A.ts (gI_of zm0 (e := (40, 80, .tableswitch 711 0 15 #[80, 108, 119, 135, 160, 185, 225, 298, 378, 403, 471, 499, 551, 603, 643, 671], [457, 25, 43, 48, 56, 72, 88, 116, 172, 228, 244, 289, 307, 345, 383, 411, 429])) rfl) (t := 411) (by rw [hc169] <;> decide)) ?_
                                    refine Q.run zm0 5 (i' := 416) (ls' := [some (.ref 0), some (.ref 78), some (.ref 121), some (.ref 148), some (.int x4), g5, g6]) (st' := [.int (x4 + 1), .ref 0, .ref 78]) rfl ?_
                                    obtain ⟨hc170, h⟩ := ite_so h
                                    refine Q.map (A.ia (gI_of zm0 (e := (689, 1, .iaload, [])) rfl) (hl.lt (a := 0) (by decide)) hl.t0 hc170) ?_
                                    refine Q.run zm0 1 (i' := 418) (ls' := [some (.ref 0), some (.ref 78), some (.ref 121), some (.ref 148), some (.int x4), g5, g6]) (st' := [.ref 148, .int (sI s 0 (jN (x4 + 1))), .ref 78]) rfl ?_
                                    obtain ⟨r174, s173, hc172, h⟩ := bv_so h
                                    have hq171 : Q 0 sio tt cc d 14 0 [some (.ref 78), some (.int (sI s 0 (jN (x4 + 1)))), some (.ref 148), none] [] s (.inl (some (.int r174)), s173) := (dt14 (by omega) hl  hc172).w
                                    refine Q.callI (gC_st zm0 (show zM0.2.2.2.2.2[418]? = some (691, 3, .invokestatic 127, [0, 14, 3]) from rfl) zm14 (show aC 3 [.ref 148, .int (sI s 0 (jN (x4 + 1))), .ref 78] 4 = some ([some (.ref 78), some (.int (sI s 0 (jN (x4 + 1)))), some (.ref 148), none], []) from rfl)) hq171 ?_
                                    refine Q.run zm0 6 (i' := 425) (ls' := [some (.ref 0), some (.ref 78), some (.ref 121), some (.ref 148), some (.int x4), some (.int r174), g6]) (st' := [.int (x4 + 1), .ref 0, .ref 121]) rfl ?_
                                    obtain ⟨hc175, h⟩ := ite_so h
                                    refine Q.map (A.ia (gI_of zm0 (e := (702, 1, .iaload, [])) rfl) (hq171.1.lt (a := 0) (by decide)) hq171.1.t0 hc175) ?_
                                    obtain ⟨r179, s178, hc177, h⟩ := bv_so h
                                    have hq176 : Q 0 sio tt cc d 249 0 [some (.ref 121), some (.int (sI s173 0 (jN (x4 + 1)))), none, none] [] s173 (.inl (some (.int r179)), s178) := (dt249 (by omega) hq171.1  hc177).w
                                    refine Q.callI (gC_vi zm0 (show zM0.2.2.2.2.2[426]? = some (703, 3, .invokevirtual 129, [0, 249, 1, 9]) from rfl) zm249 (hq171.1.lt (a := 121) (by decide)) (hq171.1.T (a := 121) (p := (9, 45)) 43 rfl rfl) rfl (show aCr 1 121 [.int (sI s173 0 (jN (x4 + 1))), .ref 121] 4 = some ([some (.ref 121), some (.int (sI s173 0 (jN (x4 + 1)))), none, none], []) from rfl)) hq176 ?_
                                    refine Q.run zm0 2 (i' := 457) (ls' := [some (.ref 0), some (.ref 78), some (.ref 121), some (.ref 148), some (.int x4), some (.int r174), some (.int r179)]) (st' := []) rfl ?_
                                    exact dt0_457 hd ih hq176.1  h
                                  · rw [if_neg hc169] at h
                                    by_cases hc180 : ((sI s 0 (jN x4)) &&& 15) = 15
                                    · rw [if_pos hc180] at h
                                      refine Q.map (A.ts (gI_of zm0 (e := (40, 80, .tableswitch 711 0 15 #[80, 108, 119, 135, 160, 185, 225, 298, 378, 403, 471, 499, 551, 603, 643, 671], [457, 25, 43, 48, 56, 72, 88, 116, 172, 228, 244, 289, 307, 345, 383, 411, 429])) rfl) (t := 429) (by rw [hc180] <;> decide)) ?_
                                      refine Q.run zm0 5 (i' := 434) (ls' := [some (.ref 0), some (.ref 78), some (.ref 121), some (.ref 148), some (.int x4), g5, g6]) (st' := [.int (x4 + 1), .ref 0, .ref 78]) rfl ?_
                                      obtain ⟨hc181, h⟩ := ite_so h
                                      refine Q.map (A.ia (gI_of zm0 (e := (717, 1, .iaload, [])) rfl) (hl.lt (a := 0) (by decide)) hl.t0 hc181) ?_
                                      refine Q.run zm0 4 (i' := 439) (ls' := [some (.ref 0), some (.ref 78), some (.ref 121), some (.ref 148), some (.int x4), g5, g6]) (st' := [.int (x4 + 2), .ref 0, .int (sI s 0 (jN (x4 + 1))), .ref 78]) rfl ?_
                                      obtain ⟨hc182, h⟩ := ite_so h
                                      refine Q.map (A.ia (gI_of zm0 (e := (723, 1, .iaload, [])) rfl) (hl.lt (a := 0) (by decide)) hl.t0 hc182) ?_
                                      refine Q.run zm0 1 (i' := 441) (ls' := [some (.ref 0), some (.ref 78), some (.ref 121), some (.ref 148), some (.int x4), g5, g6]) (st' := [.ref 148, .int (sI s 0 (jN (x4 + 2))), .int (sI s 0 (jN (x4 + 1))), .ref 78]) rfl ?_
                                      obtain ⟨r186, s185, hc184, h⟩ := bv_so h
                                      have hq183 : Q 0 sio tt cc d 15 0 [some (.ref 78), some (.int (sI s 0 (jN (x4 + 1)))), some (.int (sI s 0 (jN (x4 + 2)))), some (.ref 148), none] [] s (.inl (some (.int r186)), s185) := (dt15 (by omega) hl  hc184).w
                                      refine Q.callI (gC_st zm0 (show zM0.2.2.2.2.2[441]? = some (725, 3, .invokestatic 130, [0, 15, 4]) from rfl) zm15 (show aC 4 [.ref 148, .int (sI s 0 (jN (x4 + 2))), .int (sI s 0 (jN (x4 + 1))), .ref 78] 5 = some ([some (.ref 78), some (.int (sI s 0 (jN (x4 + 1)))), some (.int (sI s 0 (jN (x4 + 2)))), some (.ref 148), none], []) from rfl)) hq183 ?_
                                      refine Q.run zm0 6 (i' := 448) (ls' := [some (.ref 0), some (.ref 78), some (.ref 121), some (.ref 148), some (.int x4), some (.int r186), g6]) (st' := [.int (x4 + 1), .ref 0, .ref 121]) rfl ?_
                                      obtain ⟨hc187, h⟩ := ite_so h
                                      refine Q.map (A.ia (gI_of zm0 (e := (736, 1, .iaload, [])) rfl) (hq183.1.lt (a := 0) (by decide)) hq183.1.t0 hc187) ?_
                                      refine Q.run zm0 4 (i' := 453) (ls' := [some (.ref 0), some (.ref 78), some (.ref 121), some (.ref 148), some (.int x4), some (.int r186), g6]) (st' := [.int (x4 + 2), .ref 0, .int (sI s185 0 (jN (x4 + 1))), .ref 121]) rfl ?_
                                      obtain ⟨hc188, h⟩ := ite_so h
                                      refine Q.map (A.ia (gI_of zm0 (e := (742, 1, .iaload, [])) rfl) (hq183.1.lt (a := 0) (by decide)) hq183.1.t0 hc188) ?_
                                      obtain ⟨r192, s191, hc190, h⟩ := bv_so h
                                      have hq189 : Q 0 sio tt cc d 250 0 [some (.ref 121), some (.int (sI s185 0 (jN (x4 + 1)))), some (.int (sI s185 0 (jN (x4 + 2))))] [] s185 (.inl (some (.int r192)), s191) := (dt250 (by omega) hq183.1  hc190).w
                                      refine Q.callI (gC_vi zm0 (show zM0.2.2.2.2.2[454]? = some (743, 3, .invokevirtual 132, [0, 250, 2, 9]) from rfl) zm250 (hq183.1.lt (a := 121) (by decide)) (hq183.1.T (a := 121) (p := (9, 45)) 43 rfl rfl) rfl (show aCr 2 121 [.int (sI s185 0 (jN (x4 + 2))), .int (sI s185 0 (jN (x4 + 1))), .ref 121] 3 = some ([some (.ref 121), some (.int (sI s185 0 (jN (x4 + 1)))), some (.int (sI s185 0 (jN (x4 + 2))))], []) from rfl)) hq189 ?_
                                      refine Q.run zm0 2 (i' := 457) (ls' := [some (.ref 0), some (.ref 78), some (.ref 121), some (.ref 148), some (.int x4), some (.int r186), some (.int r192)]) (st' := []) rfl ?_
                                      exact dt0_457 hd ih hq189.1  h
                                    · rw [if_neg hc180] at h
                                      refine Q.map (A.ts (gI_of zm0 (e := (40, 80, .tableswitch 711 0 15 #[80, 108, 119, 135, 160, 185, 225, 298, 378, 403, 471, 499, 551, 603, 643, 671], [457, 25, 43, 48, 56, 72, 88, 116, 172, 228, 244, 289, 307, 345, 383, 411, 429])) rfl) (t := 457) (by have := (show ((sI s 0 (jN x4)) &&& 15).toInt ≠ 0 ∧ ((sI s 0 (jN x4)) &&& 15).toInt ≠ 1 ∧ ((sI s 0 (jN x4)) &&& 15).toInt ≠ 2 ∧ ((sI s 0 (jN x4)) &&& 15).toInt ≠ 3 ∧ ((sI s 0 (jN x4)) &&& 15).toInt ≠ 4 ∧ ((sI s 0 (jN x4)) &&& 15).toInt ≠ 5 ∧ ((sI s 0 (jN x4)) &&& 15).toInt ≠ 6 ∧ ((sI s 0 (jN x4)) &&& 15).toInt ≠ 7 ∧ ((sI s 0 (jN x4)) &&& 15).toInt ≠ 8 ∧ ((sI s 0 (jN x4)) &&& 15).toInt ≠ 9 ∧ ((sI s 0 (jN x4)) &&& 15).toInt ≠ 10 ∧ ((sI s 0 (jN x4)) &&& 15).toInt ≠ 11 ∧ ((sI s 0 (jN x4)) &&& 15).toInt ≠ 12 ∧ ((sI s 0 (jN x4)) &&& 15).toInt ≠ 13 ∧ ((sI s 0 (jN x4)) &&& 15).toInt ≠ 14 ∧ ((sI s 0 (jN x4)) &&& 15).toInt ≠ 15 from ⟨i32_ne (n := 0) hc3 (by decide), i32_ne (n := 1) hc14 (by decide), i32_ne (n := 2) hc21 (by decide), i32_ne (n := 3) hc30 (by decide), i32_ne (n := 4) hc40 (by decide), i32_ne (n := 5) hc50 (by decide), i32_ne (n := 6) hc63 (by decide), i32_ne (n := 7) hc81 (by decide), i32_ne (n := 8) hc85 (by decide), i32_ne (n := 9) hc95 (by decide), i32_ne (n := 10) hc115 (by decide), i32_ne (n := 11) hc126 (by decide), i32_ne (n := 12) hc141 (by decide), i32_ne (n := 13) hc156 (by decide), i32_ne (n := 14) hc169 (by decide), i32_ne (n := 15) hc180 (by decide)⟩); rw [if_pos]; omega)) ?_
                                      exact dt0_457 hd ih hl  h
def dm0 (x4 : Int32) (s : aS) : Option (Int32 × aS) :=
  dm0_13 5000 x4 s
set_option maxRecDepth 100000 in
theorem dt0 {sio : Bool} {tt : Nat} {cc : Nat → Nat → Int32} {d : Nat} (hd : 1214 ≤ d) {x4 : Int32} {s : aS} (hl : Ly tt cc s) {o : Int32 × aS} (h : dm0  x4 s = some o) : Q 0 sio tt cc d 0 13 [some (.ref 0), some (.ref 78), some (.ref 121), some (.ref 148), some (.int x4), none, none] [] s (.inl (some (.int o.1)), o.2) := by
  unfold dm0 at h
  obtain ⟨d, rfl⟩ : ∃ e, d = e + 1 := ⟨d - 1, by omega⟩
  exact dt0_13 hd _ hl  h
