/-! 249 FormulaTreesModel.count(I)I -/
set_option maxRecDepth 100000 in
theorem zm249 : zP[249]? = some zM249 := rfl
def dm249_56 (k43 : Int32 → Int32 → aS → Option (Int32 × aS)) (x3 : Int32) (y0 : Int32) (s : aS) : Option (Int32 × aS) :=
  k43 y0 (x3 + 1) s
set_option maxRecDepth 100000 in
theorem dt249_56 {sio : Bool} {tt : Nat} {cc : Nat → Nat → Int32} {d : Nat} (hd : 0 ≤ d) {k43 : Int32 → Int32 → aS → Option (Int32 × aS)} (hk43 : ∀ {x2 : Int32} {x3 : Int32} {x1 : Int32} {s : aS}, Ly tt cc s → ∀ {o : Int32 × aS}, k43 x2 x3 s = some o → Q 2 sio tt cc d 249 43 [some (.ref 121), some (.int x1), some (.int x2), some (.int x3)] [] s (.inl (some (.int o.1)), o.2)) {x3 : Int32} {y0 : Int32} {x1 : Int32} {x2 : Int32} {s : aS} (hl : Ly tt cc s) {o : Int32 × aS} (h : dm249_56 k43 x3 y0 s = some o) : Q 2 sio tt cc d 249 56 [some (.ref 121), some (.int x1), some (.int x2), some (.int x3)] [.int y0] s (.inl (some (.int o.1)), o.2) := by
  unfold dm249_56 at h
  refine Q.run zm249 3 (i' := 43) (ls' := [some (.ref 121), some (.int x1), some (.int y0), some (.int (x3 + 1))]) (st' := []) rfl ?_
  exact hk43 hl  h
def dm249_43 : Nat → Int32 → Int32 → aS → Option (Int32 × aS)
  | 0, _, _, _ => none
  | n + 1, x2, x3, s =>
    if 8 ≤ x3 then
      some (x2, s)
    else
      if aB x3 8 then
        if (sI s 125 (jN x3)) = 0 then
          dm249_56 (dm249_43 n) x3 x2 s
        else
          dm249_56 (dm249_43 n) x3 (x2 + 1) s
      else none
set_option maxRecDepth 100000 in
theorem dt249_43 {sio : Bool} {tt : Nat} {cc : Nat → Nat → Int32} {d : Nat} (hd : 0 ≤ d) : ∀ (n : Nat) {x2 : Int32} {x3 : Int32} {x1 : Int32} {s : aS} (_ : Ly tt cc s) {o : Int32 × aS} (_ : dm249_43  n x2 x3 s = some o), Q 2 sio tt cc d 249 43 [some (.ref 121), some (.int x1), some (.int x2), some (.int x3)] [] s (.inl (some (.int o.1)), o.2) := by
  intro n
  induction n with
  | zero => intro x2 x3 x1 s hl o h; rw [dm249_43] at h; cases h
  | succ n ih =>
    intro x2 x3 x1 s hl o h
    rw [dm249_43] at h
    refine Q.run zm249 2 (i' := 45) (ls' := [some (.ref 121), some (.int x1), some (.int x2), some (.int x3)]) (st' := [.int 8, .int x3]) rfl ?_
    by_cases hc1 : 8 ≤ x3
    · rw [if_pos hc1] at h
      refine Q.map (A.bT (gI_of zm249 (e := (73, 3, .if_icmp .ge 26, [59])) rfl) (decide_eq_true hc1)) ?_
      refine Q.run zm249 1 (i' := 60) (ls' := [some (.ref 121), some (.int x1), some (.int x2), some (.int x3)]) (st' := [.int x2]) rfl ?_
      cases h
      exact Q.ret (A.ri zm249 (show zM249.2.2.2.2.2[60]? = some (100, 1, .ireturn, []) from rfl) rfl rfl) hl
    · rw [if_neg hc1] at h
      refine Q.map (A.bF (gI_of zm249 (e := (73, 3, .if_icmp .ge 26, [59])) rfl) (fun q => hc1 (of_decide_eq_true q))) ?_
      refine Q.run zm249 1 (i' := 47) (ls' := [some (.ref 121), some (.int x1), some (.int x2), some (.int x3)]) (st' := [.ref 121]) rfl ?_
      refine Q.map (A.gf (gI_of zm249 (e := (77, 3, .getfield 19, [9, 6])) rfl) (hl.lt (a := 121) (by decide)) (hl.T (a := 121) (p := (9, 45)) 43 rfl rfl) (by decide) (hl.R 26 rfl)) ?_
      refine Q.run zm249 1 (i' := 49) (ls' := [some (.ref 121), some (.int x1), some (.int x2), some (.int x3)]) (st' := [.int x3, .ref 125]) rfl ?_
      obtain ⟨hc2, h⟩ := ite_so h
      refine Q.map (A.ba (gI_of zm249 (e := (81, 1, .baload, [])) rfl) (hl.lt (a := 125) (by decide)) (hl.T (a := 125) (p := (103, 8)) 47 rfl rfl) (by decide) hc2) ?_
      by_cases hc3 : (sI s 125 (jN x3)) = 0
      · rw [if_pos hc3] at h
        refine Q.map (A.zT (gI_of zm249 (e := (82, 3, .ifCond .eq 9, [55])) rfl) (decide_eq_true hc3)) ?_
        refine Q.run zm249 1 (i' := 56) (ls' := [some (.ref 121), some (.int x1), some (.int x2), some (.int x3)]) (st' := [.int x2]) rfl ?_
        exact dt249_56 hd ih hl  h
      · rw [if_neg hc3] at h
        refine Q.map (A.zF (gI_of zm249 (e := (82, 3, .ifCond .eq 9, [55])) rfl) (fun q => hc3 (of_decide_eq_true q))) ?_
        refine Q.run zm249 4 (i' := 56) (ls' := [some (.ref 121), some (.int x1), some (.int x2), some (.int x3)]) (st' := [.int (x2 + 1)]) rfl ?_
        exact dt249_56 hd ih hl  h
def dm249_9 (x1 : Int32) (y1 : Int32) (s : aS) : Option (Int32 × aS) :=
  nx (wI s 121 0 y1) fun s1 =>
  if (sI s1 121 0) ≤ 0 then
    if x1 = 0 then
      some (sI s1 121 3, s1)
    else
      if x1 ≤ 1 then
        dm249_43 5000 0 0 s1
      else
        if aB (x1 - 2) 8 then
          if (sI s1 125 (jN (x1 - 2))) = 0 then
            some ((-1), s1)
          else
            if aB (x1 - 2) 8 then
              some (sI s1 126 (jN (x1 - 2)), s1)
            else none
        else none
  else
    some (0, s1)
set_option maxRecDepth 100000 in
theorem dt249_9 {sio : Bool} {tt : Nat} {cc : Nat → Nat → Int32} {d : Nat} (hd : 0 ≤ d) {x1 : Int32} {y1 : Int32} {s : aS} (hl : Ly tt cc s) {o : Int32 × aS} (h : dm249_9  x1 y1 s = some o) : Q 2 sio tt cc d 249 9 [some (.ref 121), some (.int x1), none, none] [.int y1, .ref 121] s (.inl (some (.int o.1)), o.2) := by
  unfold dm249_9 at h
  obtain ⟨s1, hs2, h⟩ := nx_so h
  refine Q.pf hs2 rfl (gI_of zm249 (e := (16, 3, .putfield 89, [9, 0, 0])) rfl) (hl.lt (a := 121) (by decide)) (by decide) (hl.T (a := 121) (p := (9, 45)) 43 rfl rfl) (by decide) rfl rfl ?_
  have hl3 : Ly tt cc s1 := by rw [hs2]; exact hl.wId (by decide)
  refine Q.run zm249 1 (i' := 11) (ls' := [some (.ref 121), some (.int x1), none, none]) (st' := [.ref 121]) rfl ?_
  refine Q.map (A.gf (gI_of zm249 (e := (20, 3, .getfield 89, [9, 0])) rfl) (hl3.lt (a := 121) (by decide)) (hl3.T (a := 121) (p := (9, 45)) 43 rfl rfl) (by decide) rfl) ?_
  by_cases hc4 : (sI s1 121 0) ≤ 0
  · rw [if_pos hc4] at h
    refine Q.map (A.zT (gI_of zm249 (e := (23, 3, .ifCond .le 5, [15])) rfl) (decide_eq_true hc4)) ?_
    refine Q.run zm249 1 (i' := 16) (ls' := [some (.ref 121), some (.int x1), none, none]) (st' := [.int x1]) rfl ?_
    by_cases hc5 : x1 = 0
    · rw [if_pos hc5] at h
      refine Q.map (A.zF (gI_of zm249 (e := (29, 3, .ifCond .ne 8, [20])) rfl) (fun q => of_decide_eq_true q hc5)) ?_
      refine Q.run zm249 1 (i' := 18) (ls' := [some (.ref 121), some (.int x1), none, none]) (st' := [.ref 121]) rfl ?_
      refine Q.map (A.gf (gI_of zm249 (e := (33, 3, .getfield 106, [9, 3])) rfl) (hl3.lt (a := 121) (by decide)) (hl3.T (a := 121) (p := (9, 45)) 43 rfl rfl) (by decide) rfl) ?_
      cases h
      exact Q.ret (A.ri zm249 (show zM249.2.2.2.2.2[19]? = some (36, 1, .ireturn, []) from rfl) rfl rfl) hl3
    · rw [if_neg hc5] at h
      refine Q.map (A.zT (gI_of zm249 (e := (29, 3, .ifCond .ne 8, [20])) rfl) (decide_eq_true hc5)) ?_
      refine Q.run zm249 2 (i' := 22) (ls' := [some (.ref 121), some (.int x1), none, none]) (st' := [.int 1, .int x1]) rfl ?_
      by_cases hc6 : x1 ≤ 1
      · rw [if_pos hc6] at h
        refine Q.map (A.bT (gI_of zm249 (e := (39, 3, .if_icmp .le 27, [39])) rfl) (decide_eq_true hc6)) ?_
        refine Q.run zm249 4 (i' := 43) (ls' := [some (.ref 121), some (.int x1), some (.int 0), some (.int 0)]) (st' := []) rfl ?_
        exact dt249_43 hd _ hl3  h
      · rw [if_neg hc6] at h
        refine Q.map (A.bF (gI_of zm249 (e := (39, 3, .if_icmp .le 27, [39])) rfl) (fun q => hc6 (of_decide_eq_true q))) ?_
        refine Q.run zm249 1 (i' := 24) (ls' := [some (.ref 121), some (.int x1), none, none]) (st' := [.ref 121]) rfl ?_
        refine Q.map (A.gf (gI_of zm249 (e := (43, 3, .getfield 19, [9, 6])) rfl) (hl3.lt (a := 121) (by decide)) (hl3.T (a := 121) (p := (9, 45)) 43 rfl rfl) (by decide) (hl3.R 26 rfl)) ?_
        refine Q.run zm249 3 (i' := 28) (ls' := [some (.ref 121), some (.int x1), none, none]) (st' := [.int (x1 - 2), .ref 125]) rfl ?_
        obtain ⟨hc7, h⟩ := ite_so h
        refine Q.map (A.ba (gI_of zm249 (e := (49, 1, .baload, [])) rfl) (hl3.lt (a := 125) (by decide)) (hl3.T (a := 125) (p := (103, 8)) 47 rfl rfl) (by decide) hc7) ?_
        by_cases hc8 : (sI s1 125 (jN (x1 - 2))) = 0
        · rw [if_pos hc8] at h
          refine Q.map (A.zT (gI_of zm249 (e := (50, 3, .ifCond .eq 14, [37])) rfl) (decide_eq_true hc8)) ?_
          refine Q.run zm249 1 (i' := 38) (ls' := [some (.ref 121), some (.int x1), none, none]) (st' := [.int (-1)]) rfl ?_
          cases h
          exact Q.ret (A.ri zm249 (show zM249.2.2.2.2.2[38]? = some (65, 1, .ireturn, []) from rfl) rfl rfl) hl3
        · rw [if_neg hc8] at h
          refine Q.map (A.zF (gI_of zm249 (e := (50, 3, .ifCond .eq 14, [37])) rfl) (fun q => hc8 (of_decide_eq_true q))) ?_
          refine Q.run zm249 1 (i' := 31) (ls' := [some (.ref 121), some (.int x1), none, none]) (st' := [.ref 121]) rfl ?_
          refine Q.map (A.gf (gI_of zm249 (e := (54, 3, .getfield 23, [9, 7])) rfl) (hl3.lt (a := 121) (by decide)) (hl3.T (a := 121) (p := (9, 45)) 43 rfl rfl) (by decide) (hl3.R 27 rfl)) ?_
          refine Q.run zm249 3 (i' := 35) (ls' := [some (.ref 121), some (.int x1), none, none]) (st' := [.int (x1 - 2), .ref 126]) rfl ?_
          obtain ⟨hc9, h⟩ := ite_so h
          refine Q.map (A.ia (gI_of zm249 (e := (60, 1, .iaload, [])) rfl) (hl3.lt (a := 126) (by decide)) (hl3.T (a := 126) (p := (100, 8)) 48 rfl rfl) hc9) ?_
          refine Q.run zm249 1 (i' := 38) (ls' := [some (.ref 121), some (.int x1), none, none]) (st' := [.int (sI s1 126 (jN (x1 - 2)))]) rfl ?_
          cases h
          exact Q.ret (A.ri zm249 (show zM249.2.2.2.2.2[38]? = some (65, 1, .ireturn, []) from rfl) rfl rfl) hl3
  · rw [if_neg hc4] at h
    refine Q.map (A.zF (gI_of zm249 (e := (23, 3, .ifCond .le 5, [15])) rfl) (fun q => hc4 (of_decide_eq_true q))) ?_
    refine Q.run zm249 1 (i' := 14) (ls' := [some (.ref 121), some (.int x1), none, none]) (st' := [.int 0]) rfl ?_
    cases h
    exact Q.ret (A.ri zm249 (show zM249.2.2.2.2.2[14]? = some (27, 1, .ireturn, []) from rfl) rfl rfl) hl3
def dm249_6 (x1 : Int32) (s : aS) : Option (Int32 × aS) :=
  dm249_9 x1 1 s
set_option maxRecDepth 100000 in
theorem dt249_6 {sio : Bool} {tt : Nat} {cc : Nat → Nat → Int32} {d : Nat} (hd : 0 ≤ d) {x1 : Int32} {s : aS} (hl : Ly tt cc s) {o : Int32 × aS} (h : dm249_6  x1 s = some o) : Q 2 sio tt cc d 249 6 [some (.ref 121), some (.int x1), none, none] [.ref 121] s (.inl (some (.int o.1)), o.2) := by
  unfold dm249_6 at h
  refine Q.run zm249 2 (i' := 9) (ls' := [some (.ref 121), some (.int x1), none, none]) (st' := [.int 1, .ref 121]) rfl ?_
  exact dt249_9 hd hl  h
def dm249 (x1 : Int32) (s : aS) : Option (Int32 × aS) :=
  if x1 < 0 then
    dm249_6 x1 s
  else
    if x1 ≤ 9 then
      dm249_9 x1 0 s
    else
      dm249_6 x1 s
set_option maxRecDepth 100000 in
theorem dt249 {sio : Bool} {tt : Nat} {cc : Nat → Nat → Int32} {d : Nat} (hd : 0 ≤ d) {x1 : Int32} {s : aS} (hl : Ly tt cc s) {o : Int32 × aS} (h : dm249  x1 s = some o) : Q 2 sio tt cc d 249 0 [some (.ref 121), some (.int x1), none, none] [] s (.inl (some (.int o.1)), o.2) := by
  unfold dm249 at h
  refine Q.run zm249 2 (i' := 2) (ls' := [some (.ref 121), some (.int x1), none, none]) (st' := [.int x1, .ref 121]) rfl ?_
  by_cases hc1 : x1 < 0
  · rw [if_pos hc1] at h
    refine Q.map (A.zT (gI_of zm249 (e := (2, 3, .ifCond .lt 9, [6])) rfl) (decide_eq_true hc1)) ?_
    exact dt249_6 hd hl  h
  · rw [if_neg hc1] at h
    refine Q.map (A.zF (gI_of zm249 (e := (2, 3, .ifCond .lt 9, [6])) rfl) (fun q => hc1 (of_decide_eq_true q))) ?_
    refine Q.run zm249 2 (i' := 5) (ls' := [some (.ref 121), some (.int x1), none, none]) (st' := [.int 9, .int x1, .ref 121]) rfl ?_
    by_cases hc2 : x1 ≤ 9
    · rw [if_pos hc2] at h
      refine Q.map (A.bT (gI_of zm249 (e := (8, 3, .if_icmp .le 7, [8])) rfl) (decide_eq_true hc2)) ?_
      refine Q.run zm249 1 (i' := 9) (ls' := [some (.ref 121), some (.int x1), none, none]) (st' := [.int 0, .ref 121]) rfl ?_
      exact dt249_9 hd hl  h
    · rw [if_neg hc2] at h
      refine Q.map (A.bF (gI_of zm249 (e := (8, 3, .if_icmp .le 7, [8])) rfl) (fun q => hc2 (of_decide_eq_true q))) ?_
      exact dt249_6 hd hl  h
/-! 169 FormulaTrees.name(II)I -/
set_option maxRecDepth 100000 in
theorem zm169 : zP[169]? = some zM169 := rfl
def dm169 (x1 : Int32) (x2 : Int32) (s : aS) : Option (xZ × aS) :=
  bu (dm40 x1 s) fun r3 =>
  if r3 = 0 then
    some (.inr 2, nw s 82 0)
  else
    bu (dm151 x1 x2 s) fun r7 =>
    some (.inl (some (.int r7)), s)
set_option maxRecDepth 100000 in
theorem dt169 {sio : Bool} {tt : Nat} {cc : Nat → Nat → Int32} {d : Nat} (hd : 9 ≤ d) {x1 : Int32} {x2 : Int32} {s : aS} (hl : Ly tt cc s) {o : xZ × aS} (h : dm169  x1 x2 s = some o) : Q 1 sio tt cc d 169 0 [some (.ref 78), some (.int x1), some (.int x2)] [] s o := by
  unfold dm169 at h
  obtain ⟨d, rfl⟩ : ∃ e, d = e + 1 := ⟨d - 1, by omega⟩
  refine Q.run zm169 1 (i' := 1) (ls' := [some (.ref 78), some (.int x1), some (.int x2)]) (st' := [.ref 78]) rfl ?_
  refine Q.map (A.gf (gI_of zm169 (e := (1, 3, .getfield 21, [0, 1])) rfl) (hl.lt (a := 78) (by decide)) (hl.T (a := 78) (p := (0, 7)) 0 rfl rfl) (by decide) (hl.R 1 rfl)) ?_
  refine Q.run zm169 1 (i' := 3) (ls' := [some (.ref 78), some (.int x1), some (.int x2)]) (st' := [.int x1, .ref 81]) rfl ?_
  obtain ⟨r3, hc2, h⟩ := bu_so h
  have hq1 : Q 1 sio tt cc d 40 0 [some (.ref 81), some (.int x1)] [] s (.inl (some (.int r3)), s) := dt40 (by omega) hl  hc2
  refine Q.callI (gC_vi zm169 (show zM169.2.2.2.2.2[3]? = some (5, 3, .invokevirtual 96, [0, 40, 1, 2]) from rfl) zm40 (hl.lt (a := 81) (by decide)) (hl.T (a := 81) (p := (2, 3)) 3 rfl rfl) rfl (show aCr 1 81 [.int x1, .ref 81] 2 = some ([some (.ref 81), some (.int x1)], []) from rfl)) hq1 ?_
  by_cases hc4 : r3 = 0
  · rw [if_pos hc4] at h
    refine Q.map (A.zF (gI_of zm169 (e := (8, 3, .ifCond .ne 13, [10])) rfl) (fun q => of_decide_eq_true q hc4)) ?_
    cases h
    exact Q.t zm169 (show zM169.2.2.2.2.2[5]? = some (11, 3, .new 100, [202]) from rfl) rfl rfl hl.gL (by omega) hl
  · rw [if_neg hc4] at h
    refine Q.map (A.zT (gI_of zm169 (e := (8, 3, .ifCond .ne 13, [10])) rfl) (decide_eq_true hc4)) ?_
    refine Q.run zm169 1 (i' := 11) (ls' := [some (.ref 78), some (.int x1), some (.int x2)]) (st' := [.ref 78]) rfl ?_
    refine Q.map (A.gf (gI_of zm169 (e := (22, 3, .getfield 21, [0, 1])) rfl) (hl.lt (a := 78) (by decide)) (hl.T (a := 78) (p := (0, 7)) 0 rfl rfl) (by decide) (hl.R 1 rfl)) ?_
    refine Q.run zm169 2 (i' := 14) (ls' := [some (.ref 78), some (.int x1), some (.int x2)]) (st' := [.int x2, .int x1, .ref 81]) rfl ?_
    obtain ⟨r7, hc6, h⟩ := bu_so h
    have hq5 : Q 1 sio tt cc d 151 0 [some (.ref 81), some (.int x1), some (.int x2)] [] s (.inl (some (.int r7)), s) := dt151 (by omega) hl  hc6
    refine Q.callI (gC_vi zm169 (show zM169.2.2.2.2.2[14]? = some (27, 3, .invokevirtual 189, [0, 151, 2, 2]) from rfl) zm151 (hl.lt (a := 81) (by decide)) (hl.T (a := 81) (p := (2, 3)) 3 rfl rfl) rfl (show aCr 2 81 [.int x2, .int x1, .ref 81] 3 = some ([some (.ref 81), some (.int x1), some (.int x2)], []) from rfl)) hq5 ?_
    cases h
    exact Q.ret (A.ri zm169 (show zM169.2.2.2.2.2[15]? = some (30, 1, .ireturn, []) from rfl) rfl rfl) hl
/-! 15 FormulaTreesLaw.name(LFormulaTrees;II[J)I -/
set_option maxRecDepth 100000 in
theorem zm15 : zP[15]? = some zM15 := rfl
def dm15 (x1 : Int32) (x2 : Int32) (s : aS) : Option (Int32 × aS) :=
  bv (dm169 x1 x2 s) fun z4 s3 =>
  zN z4 (fun v5 =>
    vI v5 fun r7 =>
    if aB 0 1 then
      nx (wJ s3 148 (jN 0) r7.toInt64) fun s10 =>
      some (0, s10)
    else none
  ) fun e6 =>
    if e6 = 2 then
      some (1, s3)
    else
      none
set_option maxRecDepth 100000 in
theorem dt15 {sio : Bool} {tt : Nat} {cc : Nat → Nat → Int32} {d : Nat} (hd : 10 ≤ d) {x1 : Int32} {x2 : Int32} {s : aS} (hl : Ly tt cc s) {o : Int32 × aS} (h : dm15  x1 x2 s = some o) : Q 1 sio tt cc d 15 0 [some (.ref 78), some (.int x1), some (.int x2), some (.ref 148), none] [] s (.inl (some (.int o.1)), o.2) := by
  unfold dm15 at h
  obtain ⟨d, rfl⟩ : ∃ e, d = e + 1 := ⟨d - 1, by omega⟩
  refine Q.run zm15 5 (i' := 5) (ls' := [some (.ref 78), some (.int x1), some (.int x2), some (.ref 148), none]) (st' := [.int x2, .int x1, .ref 78, .int 0, .ref 148]) rfl ?_
  obtain ⟨z4, s3, hc2, h⟩ := bv_so h
  have hq1 : Q 1 sio tt cc d 169 0 [some (.ref 78), some (.int x1), some (.int x2)] [] s (z4, s3) := dt169 (by omega) hl  hc2
  rcases zN_so h with ⟨v5, hz13, h8⟩ | ⟨e6, hz13, h8⟩
  · clear h
    subst hz13
    have h := h8
    obtain ⟨r7, hv8, h9⟩ := vI_so h
    clear h
    subst hv8
    have h := h9
    refine Q.callI (gC_vi zm15 (show zM15.2.2.2.2.2[5]? = some (5, 3, .invokevirtual 65, [0, 169, 2, 0]) from rfl) zm169 (hl.lt (a := 78) (by decide)) (hl.T (a := 78) (p := (0, 7)) 0 rfl rfl) rfl (show aCr 2 78 [.int x2, .int x1, .ref 78, .int 0, .ref 148] 3 = some ([some (.ref 78), some (.int x1), some (.int x2)], [.int 0, .ref 148]) from rfl)) hq1 ?_
    refine Q.run zm15 1 (i' := 7) (ls' := [some (.ref 78), some (.int x1), some (.int x2), some (.ref 148), none]) (st' := [.long r7.toInt64, .int 0, .ref 148]) rfl ?_
    obtain ⟨hc9, h⟩ := ite_so h
    obtain ⟨s10, hs11, h⟩ := nx_so h
    refine Q.lS hs11 rfl (gI_of zm15 (e := (9, 1, .lastore, [])) rfl) (hq1.1.lt (a := 148) (by decide)) (by decide) (hq1.1.T (a := 148) (p := (104, 1)) 70 rfl rfl) hc9 ?_
    have hl12 : Ly tt cc s10 := by rw [hs11]; exact hq1.1.wJd
    refine Q.run zm15 2 (i' := 13) (ls' := [some (.ref 78), some (.int x1), some (.int x2), some (.ref 148), none]) (st' := [.int 0]) rfl ?_
    cases h
    exact Q.ret (A.ri zm15 (show zM15.2.2.2.2.2[13]? = some (18, 1, .ireturn, []) from rfl) rfl rfl) hl12
  · clear h
    subst hz13
    have h := h8
    by_cases hc14 : e6 = 2
    · rw [if_pos hc14] at h
      subst hc14
      refine Q.hc (gC_vi zm15 (show zM15.2.2.2.2.2[5]? = some (5, 3, .invokevirtual 65, [0, 169, 2, 0]) from rfl) zm169 (hl.lt (a := 78) (by decide)) (hl.T (a := 78) (p := (0, 7)) 0 rfl rfl) rfl (show aCr 2 78 [.int x2, .int x1, .ref 78, .int 0, .ref 148] 3 = some ([some (.ref 78), some (.int x1), some (.int x2)], [.int 0, .ref 148]) from rfl)) hq1 (t := 9) rfl ?_
      refine Q.run zm15 2 (i' := 11) (ls' := [some (.ref 78), some (.int x1), some (.int x2), some (.ref 148), some (.ref (sL s3 - 1))]) (st' := [.int 1]) rfl ?_
      cases h
      exact Q.ret (A.ri zm15 (show zM15.2.2.2.2.2[11]? = some (16, 1, .ireturn, []) from rfl) rfl rfl) hq1.1
    · rw [if_neg hc14] at h
      cases h
/-! 250 FormulaTreesModel.name(II)I -/
set_option maxRecDepth 100000 in
theorem zm250 : zP[250]? = some zM250 := rfl
def dm250_22 (s : aS) : Option (Int32 × aS) :=
  some ((-1), s)
set_option maxRecDepth 100000 in
theorem dt250_22 {sio : Bool} {tt : Nat} {cc : Nat → Nat → Int32} {d : Nat} (hd : 1 ≤ d) {x1 : Int32} {x2 : Int32} {s : aS} (hl : Ly tt cc s) {o : Int32 × aS} (h : dm250_22  s = some o) : Q 2 sio tt cc d 250 22 [some (.ref 121), some (.int x1), some (.int x2)] [] s (.inl (some (.int o.1)), o.2) := by
  unfold dm250_22 at h
  obtain ⟨d, rfl⟩ : ∃ e, d = e + 1 := ⟨d - 1, by omega⟩
  refine Q.run zm250 2 (i' := 32) (ls' := [some (.ref 121), some (.int x1), some (.int x2)]) (st' := [.int (-1)]) rfl ?_
  cases h
  exact Q.ret (A.ri zm250 (show zM250.2.2.2.2.2[32]? = some (57, 1, .ireturn, []) from rfl) rfl rfl) hl
def dm250_8 (x1 : Int32) (x2 : Int32) (y1 : Int32) (s : aS) : Option (Int32 × aS) :=
  nx (wI s 121 0 y1) fun s1 =>
  if (sI s1 121 0) ≤ 0 then
    if x2 < 0 then
      dm250_22 s1
    else
      if aB x1 8 then
        if x2 < (sI s1 123 (jN x1)) then
          if aB ((32 * x1) + x2) 256 then
            some (sI s1 124 (jN ((32 * x1) + x2)), s1)
          else none
        else
          dm250_22 s1
      else none
  else
    some (0, s1)
set_option maxRecDepth 100000 in
theorem dt250_8 {sio : Bool} {tt : Nat} {cc : Nat → Nat → Int32} {d : Nat} (hd : 1 ≤ d) {x1 : Int32} {x2 : Int32} {y1 : Int32} {s : aS} (hl : Ly tt cc s) {o : Int32 × aS} (h : dm250_8  x1 x2 y1 s = some o) : Q 2 sio tt cc d 250 8 [some (.ref 121), some (.int x1), some (.int x2)] [.int y1, .ref 121] s (.inl (some (.int o.1)), o.2) := by
  unfold dm250_8 at h
  obtain ⟨d, rfl⟩ : ∃ e, d = e + 1 := ⟨d - 1, by omega⟩
  obtain ⟨s1, hs2, h⟩ := nx_so h
  refine Q.pf hs2 rfl (gI_of zm250 (e := (14, 3, .putfield 89, [9, 0, 0])) rfl) (hl.lt (a := 121) (by decide)) (by decide) (hl.T (a := 121) (p := (9, 45)) 43 rfl rfl) (by decide) rfl rfl ?_
  have hl3 : Ly tt cc s1 := by rw [hs2]; exact hl.wId (by decide)
  refine Q.run zm250 1 (i' := 10) (ls' := [some (.ref 121), some (.int x1), some (.int x2)]) (st' := [.ref 121]) rfl ?_
  refine Q.map (A.gf (gI_of zm250 (e := (18, 3, .getfield 89, [9, 0])) rfl) (hl3.lt (a := 121) (by decide)) (hl3.T (a := 121) (p := (9, 45)) 43 rfl rfl) (by decide) rfl) ?_
  by_cases hc4 : (sI s1 121 0) ≤ 0
  · rw [if_pos hc4] at h
    refine Q.map (A.zT (gI_of zm250 (e := (21, 3, .ifCond .le 7, [14])) rfl) (decide_eq_true hc4)) ?_
    refine Q.run zm250 1 (i' := 15) (ls' := [some (.ref 121), some (.int x1), some (.int x2)]) (st' := [.int x2]) rfl ?_
    by_cases hc5 : x2 < 0
    · rw [if_pos hc5] at h
      refine Q.map (A.zT (gI_of zm250 (e := (29, 3, .ifCond .lt 13, [22])) rfl) (decide_eq_true hc5)) ?_
      exact dt250_22 hd hl3  h
    · rw [if_neg hc5] at h
      refine Q.map (A.zF (gI_of zm250 (e := (29, 3, .ifCond .lt 13, [22])) rfl) (fun q => hc5 (of_decide_eq_true q))) ?_
      refine Q.run zm250 2 (i' := 18) (ls' := [some (.ref 121), some (.int x1), some (.int x2)]) (st' := [.ref 121, .int x2]) rfl ?_
      refine Q.map (A.gf (gI_of zm250 (e := (34, 3, .getfield 13, [9, 4])) rfl) (hl3.lt (a := 121) (by decide)) (hl3.T (a := 121) (p := (9, 45)) 43 rfl rfl) (by decide) (hl3.R 24 rfl)) ?_
      refine Q.run zm250 1 (i' := 20) (ls' := [some (.ref 121), some (.int x1), some (.int x2)]) (st' := [.int x1, .ref 123, .int x2]) rfl ?_
      obtain ⟨hc6, h⟩ := ite_so h
      refine Q.map (A.ia (gI_of zm250 (e := (38, 1, .iaload, [])) rfl) (hl3.lt (a := 123) (by decide)) (hl3.T (a := 123) (p := (100, 8)) 45 rfl rfl) hc6) ?_
      by_cases hc7 : x2 < (sI s1 123 (jN x1))
      · rw [if_pos hc7] at h
        refine Q.map (A.bT (gI_of zm250 (e := (39, 3, .if_icmp .lt 7, [24])) rfl) (decide_eq_true hc7)) ?_
        refine Q.run zm250 1 (i' := 25) (ls' := [some (.ref 121), some (.int x1), some (.int x2)]) (st' := [.ref 121]) rfl ?_
        refine Q.map (A.gf (gI_of zm250 (e := (47, 3, .getfield 16, [9, 5])) rfl) (hl3.lt (a := 121) (by decide)) (hl3.T (a := 121) (p := (9, 45)) 43 rfl rfl) (by decide) (hl3.R 25 rfl)) ?_
        refine Q.run zm250 5 (i' := 31) (ls' := [some (.ref 121), some (.int x1), some (.int x2)]) (st' := [.int ((32 * x1) + x2), .ref 124]) rfl ?_
        obtain ⟨hc8, h⟩ := ite_so h
        refine Q.map (A.ia (gI_of zm250 (e := (56, 1, .iaload, [])) rfl) (hl3.lt (a := 124) (by decide)) (hl3.T (a := 124) (p := (100, 256)) 46 rfl rfl) hc8) ?_
        cases h
        exact Q.ret (A.ri zm250 (show zM250.2.2.2.2.2[32]? = some (57, 1, .ireturn, []) from rfl) rfl rfl) hl3
      · rw [if_neg hc7] at h
        refine Q.map (A.bF (gI_of zm250 (e := (39, 3, .if_icmp .lt 7, [24])) rfl) (fun q => hc7 (of_decide_eq_true q))) ?_
        exact dt250_22 hd hl3  h
  · rw [if_neg hc4] at h
    refine Q.map (A.zF (gI_of zm250 (e := (21, 3, .ifCond .le 7, [14])) rfl) (fun q => hc4 (of_decide_eq_true q))) ?_
    refine Q.run zm250 2 (i' := 32) (ls' := [some (.ref 121), some (.int x1), some (.int x2)]) (st' := [.int 0]) rfl ?_
    cases h
    exact Q.ret (A.ri zm250 (show zM250.2.2.2.2.2[32]? = some (57, 1, .ireturn, []) from rfl) rfl rfl) hl3
def dm250 (x1 : Int32) (x2 : Int32) (s : aS) : Option (Int32 × aS) :=
  bu (dm181 x1 s) fun r3 =>
  if r3 = 0 then
    dm250_8 x1 x2 0 s
  else
    dm250_8 x1 x2 1 s
set_option maxRecDepth 100000 in
theorem dt250 {sio : Bool} {tt : Nat} {cc : Nat → Nat → Int32} {d : Nat} (hd : 1 ≤ d) {x1 : Int32} {x2 : Int32} {s : aS} (hl : Ly tt cc s) {o : Int32 × aS} (h : dm250  x1 x2 s = some o) : Q 2 sio tt cc d 250 0 [some (.ref 121), some (.int x1), some (.int x2)] [] s (.inl (some (.int o.1)), o.2) := by
  unfold dm250 at h
  obtain ⟨d, rfl⟩ : ∃ e, d = e + 1 := ⟨d - 1, by omega⟩
  refine Q.run zm250 3 (i' := 3) (ls' := [some (.ref 121), some (.int x1), some (.int x2)]) (st' := [.int x1, .ref 121, .ref 121]) rfl ?_
  obtain ⟨r3, hc2, h⟩ := bu_so h
  have hq1 : Q 2 sio tt cc d 181 0 [some (.ref 121), some (.int x1)] [] s (.inl (some (.int r3)), s) := dt181 (by omega) hl  hc2
  refine Q.callI (gC_vi zm250 (show zM250.2.2.2.2.2[3]? = some (3, 3, .invokevirtual 128, [0, 181, 1, 9]) from rfl) zm181 (hl.lt (a := 121) (by decide)) (hl.T (a := 121) (p := (9, 45)) 43 rfl rfl) rfl (show aCr 1 121 [.int x1, .ref 121, .ref 121] 2 = some ([some (.ref 121), some (.int x1)], [.ref 121]) from rfl)) hq1 ?_
  by_cases hc4 : r3 = 0
  · rw [if_pos hc4] at h
    refine Q.map (A.zT (gI_of zm250 (e := (6, 3, .ifCond .eq 7, [7])) rfl) (decide_eq_true hc4)) ?_
    refine Q.run zm250 1 (i' := 8) (ls' := [some (.ref 121), some (.int x1), some (.int x2)]) (st' := [.int 0, .ref 121]) rfl ?_
    exact dt250_8 hd hl  h
  · rw [if_neg hc4] at h
    refine Q.map (A.zF (gI_of zm250 (e := (6, 3, .ifCond .eq 7, [7])) rfl) (fun q => hc4 (of_decide_eq_true q))) ?_
    refine Q.run zm250 2 (i' := 8) (ls' := [some (.ref 121), some (.int x1), some (.int x2)]) (st' := [.int 1, .ref 121]) rfl ?_
    exact dt250_8 hd hl  h
/-! 0 FormulaTreesLaw.law([I)Z -/
set_option maxRecDepth 100000 in
theorem zm0 : zP[0]? = some zM0 := rfl
def dm0_457 (k13 : Int32 → aS → Option (Int32 × aS)) (x4 : Int32) (s : aS) : Option (Int32 × aS) :=
  k13 (x4 + 6) s
set_option maxRecDepth 100000 in
theorem dt0_457 {sio : Bool} {tt : Nat} {cc : Nat → Nat → Int32} {d : Nat} (hd : 1214 ≤ d) {k13 : Int32 → aS → Option (Int32 × aS)} (hk13 : ∀ {x4 : Int32} {g5 : Option Value} {g6 : Option Value} {s : aS}, Ly tt cc s → ∀ {o : Int32 × aS}, k13 x4 s = some o → Q 0 sio tt cc d 0 13 [some (.ref 0), some (.ref 78), some (.ref 121), some (.ref 148), some (.int x4), g5, g6] [] s (.inl (some (.int o.1)), o.2)) {x4 : Int32} {g5 : Option Value} {g6 : Option Value} {s : aS} (hl : Ly tt cc s) {o : Int32 × aS} (h : dm0_457 k13 x4 s = some o) : Q 0 sio tt cc d 0 457 [some (.ref 0), some (.ref 78), some (.ref 121), some (.ref 148), some (.int x4), g5, g6] [] s (.inl (some (.int o.1)), o.2) := by
  unfold dm0_457 at h
  obtain ⟨d, rfl⟩ : ∃ e, d = e + 1 := ⟨d - 1, by omega⟩
  refine Q.run zm0 2 (i' := 13) (ls' := [some (.ref 0), some (.ref 78), some (.ref 121), some (.ref 148), some (.int (x4 + 6)), g5, g6]) (st' := []) rfl ?_
  exact hk13 hl  h
def dm0_232 (k13 : Int32 → aS → Option (Int32 × aS)) (x4 : Int32) (y1 : Int32) (y2 : Int32) (s : aS) : Option (Int32 × aS) :=
  if aB (x4 + 3) (sT s 0).2 then
    if aB (x4 + 4) (sT s 0).2 then
      bv (dm228 y1 y2 (sI s 0 (jN (x4 + 3))) (sI s 0 (jN (x4 + 4))) s) fun r6 s5 =>
      dm0_457 k13 x4 s5
    else none
  else none
set_option maxRecDepth 100000 in
theorem dt0_232 {sio : Bool} {tt : Nat} {cc : Nat → Nat → Int32} {d : Nat} (hd : 1214 ≤ d) {k13 : Int32 → aS → Option (Int32 × aS)} (hk13 : ∀ {x4 : Int32} {g5 : Option Value} {g6 : Option Value} {s : aS}, Ly tt cc s → ∀ {o : Int32 × aS}, k13 x4 s = some o → Q 0 sio tt cc d 0 13 [some (.ref 0), some (.ref 78), some (.ref 121), some (.ref 148), some (.int x4), g5, g6] [] s (.inl (some (.int o.1)), o.2)) {x4 : Int32} {y1 : Int32} {y2 : Int32} {x5 : Int32} {g6 : Option Value} {s : aS} (hl : Ly tt cc s) {o : Int32 × aS} (h : dm0_232 k13 x4 y1 y2 s = some o) : Q 0 sio tt cc d 0 232 [some (.ref 0), some (.ref 78), some (.ref 121), some (.ref 148), some (.int x4), some (.int x5), g6] [.int y2, .int y1, .ref 121] s (.inl (some (.int o.1)), o.2) := by
  unfold dm0_232 at h
  obtain ⟨d, rfl⟩ : ∃ e, d = e + 1 := ⟨d - 1, by omega⟩
  refine Q.run zm0 4 (i' := 236) (ls' := [some (.ref 0), some (.ref 78), some (.ref 121), some (.ref 148), some (.int x4), some (.int x5), g6]) (st' := [.int (x4 + 3), .ref 0, .int y2, .int y1, .ref 121]) rfl ?_
  obtain ⟨hc1, h⟩ := ite_so h
  refine Q.map (A.ia (gI_of zm0 (e := (431, 1, .iaload, [])) rfl) (hl.lt (a := 0) (by decide)) hl.t0 hc1) ?_
  refine Q.run zm0 4 (i' := 241) (ls' := [some (.ref 0), some (.ref 78), some (.ref 121), some (.ref 148), some (.int x4), some (.int x5), g6]) (st' := [.int (x4 + 4), .ref 0, .int (sI s 0 (jN (x4 + 3))), .int y2, .int y1, .ref 121]) rfl ?_
  obtain ⟨hc2, h⟩ := ite_so h
  refine Q.map (A.ia (gI_of zm0 (e := (437, 1, .iaload, [])) rfl) (hl.lt (a := 0) (by decide)) hl.t0 hc2) ?_
  obtain ⟨r6, s5, hc4, h⟩ := bv_so h
  have hq3 : Q 0 sio tt cc d 228 0 [some (.ref 121), some (.int y1), some (.int y2), some (.int (sI s 0 (jN (x4 + 3)))), some (.int (sI s 0 (jN (x4 + 4)))), none, none, none, none, none, none, none, none] [] s (.inl (some (.int r6)), s5) := (dt228 (by omega) hl  hc4).w
  refine Q.callI (gC_vi zm0 (show zM0.2.2.2.2.2[242]? = some (438, 3, .invokevirtual 107, [0, 228, 4, 9]) from rfl) zm228 (hl.lt (a := 121) (by decide)) (hl.T (a := 121) (p := (9, 45)) 43 rfl rfl) rfl (show aCr 4 121 [.int (sI s 0 (jN (x4 + 4))), .int (sI s 0 (jN (x4 + 3))), .int y2, .int y1, .ref 121] 13 = some ([some (.ref 121), some (.int y1), some (.int y2), some (.int (sI s 0 (jN (x4 + 3)))), some (.int (sI s 0 (jN (x4 + 4)))), none, none, none, none, none, none, none, none], []) from rfl)) hq3 ?_
  refine Q.run zm0 2 (i' := 457) (ls' := [some (.ref 0), some (.ref 78), some (.ref 121), some (.ref 148), some (.int x4), some (.int x5), some (.int r6)]) (st' := []) rfl ?_
  exact dt0_457 hd hk13 hq3.1  h
def dm0_72 (k13 : Int32 → aS → Option (Int32 × aS)) (x4 : Int32) (s : aS) : Option (Int32 × aS) :=
  dm0_457 k13 x4 s
set_option maxRecDepth 100000 in
theorem dt0_72 {sio : Bool} {tt : Nat} {cc : Nat → Nat → Int32} {d : Nat} (hd : 1214 ≤ d) {k13 : Int32 → aS → Option (Int32 × aS)} (hk13 : ∀ {x4 : Int32} {g5 : Option Value} {g6 : Option Value} {s : aS}, Ly tt cc s → ∀ {o : Int32 × aS}, k13 x4 s = some o → Q 0 sio tt cc d 0 13 [some (.ref 0), some (.ref 78), some (.ref 121), some (.ref 148), some (.int x4), g5, g6] [] s (.inl (some (.int o.1)), o.2)) {x4 : Int32} {x5 : Int32} {x6 : Int32} {s : aS} (hl : Ly tt cc s) {o : Int32 × aS} (h : dm0_72 k13 x4 s = some o) : Q 0 sio tt cc d 0 72 [some (.ref 0), some (.ref 78), some (.ref 121), some (.ref 148), some (.int x4), some (.int x5), some (.int x6)] [] s (.inl (some (.int o.1)), o.2) := by
  unfold dm0_72 at h
  obtain ⟨d, rfl⟩ : ∃ e, d = e + 1 := ⟨d - 1, by omega⟩
  refine Q.run zm0 1 (i' := 457) (ls' := [some (.ref 0), some (.ref 78), some (.ref 121), some (.ref 148), some (.int x4), some (.int x5), some (.int x6)]) (st' := []) rfl ?_
  exact dt0_457 hd hk13 hl  h
def dm0_204 (k13 : Int32 → aS → Option (Int32 × aS)) (x4 : Int32) (y1 : Int32) (y2 : Int32) (s : aS) : Option (Int32 × aS) :=
  if aB (x4 + 3) (sT s 0).2 then
    if aB (x4 + 4) (sT s 0).2 then
      bv (dm7 y1 y2 (sI s 0 (jN (x4 + 3))) (sI s 0 (jN (x4 + 4))) s) fun r6 s5 =>
      if aB (x4 + 1) (sT s5 0).2 then
        if aB (x4 + 2) (sT s5 0).2 then
          if (sI s5 0 (jN (x4 + 2))) = 0 then
            dm0_232 k13 x4 (sI s5 0 (jN (x4 + 1))) 0 s5
          else
            dm0_232 k13 x4 (sI s5 0 (jN (x4 + 1))) 1 s5
        else none
      else none
    else none
  else none
set_option maxRecDepth 100000 in
theorem dt0_204 {sio : Bool} {tt : Nat} {cc : Nat → Nat → Int32} {d : Nat} (hd : 1214 ≤ d) {k13 : Int32 → aS → Option (Int32 × aS)} (hk13 : ∀ {x4 : Int32} {g5 : Option Value} {g6 : Option Value} {s : aS}, Ly tt cc s → ∀ {o : Int32 × aS}, k13 x4 s = some o → Q 0 sio tt cc d 0 13 [some (.ref 0), some (.ref 78), some (.ref 121), some (.ref 148), some (.int x4), g5, g6] [] s (.inl (some (.int o.1)), o.2)) {x4 : Int32} {y1 : Int32} {y2 : Int32} {g5 : Option Value} {g6 : Option Value} {s : aS} (hl : Ly tt cc s) {o : Int32 × aS} (h : dm0_204 k13 x4 y1 y2 s = some o) : Q 0 sio tt cc d 0 204 [some (.ref 0), some (.ref 78), some (.ref 121), some (.ref 148), some (.int x4), g5, g6] [.int y2, .int y1, .ref 78] s (.inl (some (.int o.1)), o.2) := by
  unfold dm0_204 at h
  obtain ⟨d, rfl⟩ : ∃ e, d = e + 1 := ⟨d - 1, by omega⟩
  refine Q.run zm0 4 (i' := 208) (ls' := [some (.ref 0), some (.ref 78), some (.ref 121), some (.ref 148), some (.int x4), g5, g6]) (st' := [.int (x4 + 3), .ref 0, .int y2, .int y1, .ref 78]) rfl ?_
  obtain ⟨hc1, h⟩ := ite_so h
  refine Q.map (A.ia (gI_of zm0 (e := (392, 1, .iaload, [])) rfl) (hl.lt (a := 0) (by decide)) hl.t0 hc1) ?_
  refine Q.run zm0 4 (i' := 213) (ls' := [some (.ref 0), some (.ref 78), some (.ref 121), some (.ref 148), some (.int x4), g5, g6]) (st' := [.int (x4 + 4), .ref 0, .int (sI s 0 (jN (x4 + 3))), .int y2, .int y1, .ref 78]) rfl ?_
  obtain ⟨hc2, h⟩ := ite_so h
  refine Q.map (A.ia (gI_of zm0 (e := (398, 1, .iaload, [])) rfl) (hl.lt (a := 0) (by decide)) hl.t0 hc2) ?_
  refine Q.run zm0 1 (i' := 215) (ls' := [some (.ref 0), some (.ref 78), some (.ref 121), some (.ref 148), some (.int x4), g5, g6]) (st' := [.ref 148, .int (sI s 0 (jN (x4 + 4))), .int (sI s 0 (jN (x4 + 3))), .int y2, .int y1, .ref 78]) rfl ?_
  obtain ⟨r6, s5, hc4, h⟩ := bv_so h
  have hq3 : Q 0 sio tt cc d 7 0 [some (.ref 78), some (.int y1), some (.int y2), some (.int (sI s 0 (jN (x4 + 3)))), some (.int (sI s 0 (jN (x4 + 4)))), some (.ref 148), none] [] s (.inl (some (.int r6)), s5) := (dt7 (by omega) hl  hc4).w
  refine Q.callI (gC_st zm0 (show zM0.2.2.2.2.2[215]? = some (400, 3, .invokestatic 104, [0, 7, 6]) from rfl) zm7 (show aC 6 [.ref 148, .int (sI s 0 (jN (x4 + 4))), .int (sI s 0 (jN (x4 + 3))), .int y2, .int y1, .ref 78] 7 = some ([some (.ref 78), some (.int y1), some (.int y2), some (.int (sI s 0 (jN (x4 + 3)))), some (.int (sI s 0 (jN (x4 + 4)))), some (.ref 148), none], []) from rfl)) hq3 ?_
  refine Q.run zm0 6 (i' := 222) (ls' := [some (.ref 0), some (.ref 78), some (.ref 121), some (.ref 148), some (.int x4), some (.int r6), g6]) (st' := [.int (x4 + 1), .ref 0, .ref 121]) rfl ?_
  obtain ⟨hc7, h⟩ := ite_so h
  refine Q.map (A.ia (gI_of zm0 (e := (411, 1, .iaload, [])) rfl) (hq3.1.lt (a := 0) (by decide)) hq3.1.t0 hc7) ?_
  refine Q.run zm0 4 (i' := 227) (ls' := [some (.ref 0), some (.ref 78), some (.ref 121), some (.ref 148), some (.int x4), some (.int r6), g6]) (st' := [.int (x4 + 2), .ref 0, .int (sI s5 0 (jN (x4 + 1))), .ref 121]) rfl ?_
  obtain ⟨hc8, h⟩ := ite_so h
  refine Q.map (A.ia (gI_of zm0 (e := (417, 1, .iaload, [])) rfl) (hq3.1.lt (a := 0) (by decide)) hq3.1.t0 hc8) ?_
  by_cases hc9 : (sI s5 0 (jN (x4 + 2))) = 0
  · rw [if_pos hc9] at h
    refine Q.map (A.zT (gI_of zm0 (e := (418, 3, .ifCond .eq 7, [231])) rfl) (decide_eq_true hc9)) ?_
    refine Q.run zm0 1 (i' := 232) (ls' := [some (.ref 0), some (.ref 78), some (.ref 121), some (.ref 148), some (.int x4), some (.int r6), g6]) (st' := [.int 0, .int (sI s5 0 (jN (x4 + 1))), .ref 121]) rfl ?_
    exact dt0_232 hd hk13 hq3.1  h
  · rw [if_neg hc9] at h
    refine Q.map (A.zF (gI_of zm0 (e := (418, 3, .ifCond .eq 7, [231])) rfl) (fun q => hc9 (of_decide_eq_true q))) ?_
    refine Q.run zm0 2 (i' := 232) (ls' := [some (.ref 0), some (.ref 78), some (.ref 121), some (.ref 148), some (.int x4), some (.int r6), g6]) (st' := [.int 1, .int (sI s5 0 (jN (x4 + 1))), .ref 121]) rfl ?_
    exact dt0_232 hd hk13 hq3.1  h
def dm0_13 : Nat → Int32 → aS → Option (Int32 × aS)
  | 0, _, _ => none
  | n + 1, x4, s =>
    if ((Int32.ofNat (sT s 0).2) - 6) < x4 then
      some (1, s)
    else
      if aB x4 (sT s 0).2 then
        if ((sI s 0 (jN x4)) &&& 15) = 0 then
          if aB (x4 + 1) (sT s 0).2 then
            bv (dm1 (sI s 0 (jN (x4 + 1))) s) fun r8 s7 =>
            if aB (x4 + 1) (sT s7 0).2 then
              bv (dm172 (sI s7 0 (jN (x4 + 1))) s7) fun r13 s12 =>
              dm0_457 (dm0_13 n) x4 s12
            else none
          else none
        else
          if ((sI s 0 (jN x4)) &&& 15) = 1 then
            bu (dm25 s) fun s17 =>
            bu (dm173 s17) fun s20 =>
            dm0_457 (dm0_13 n) x4 s20
          else
            if ((sI s 0 (jN x4)) &&& 15) = 2 then
              bv (dm2 s) fun r25 s24 =>
              bv (dm174 s24) fun r29 s28 =>
              bu (dm171 s28) fun r32 =>
              if r32 = r25 then
                if r25 = 0 then
                  if aB 0 1 then
                    if (lg_cmp (sJ s28 148 (jN 0)) r29.toInt64) = 0 then
                      dm0_72 (dm0_13 n) x4 s28
                    else
                      some (0, s28)
                  else none
                else
                  dm0_72 (dm0_13 n) x4 s28
              else
                some (0, s28)
            else
              if ((sI s 0 (jN x4)) &&& 15) = 3 then
                if aB (x4 + 1) (sT s 0).2 then
                  bv (dm3 (sI s 0 (jN (x4 + 1))) s) fun r42 s41 =>
                  if aB (x4 + 1) (sT s41 0).2 then
                    bu (dm180 (sI s41 0 (jN (x4 + 1))) s41) fun s46 =>
                    dm0_457 (dm0_13 n) x4 s46
                  else none
                else none
              else
                if ((sI s 0 (jN x4)) &&& 15) = 4 then
                  if aB (x4 + 1) (sT s 0).2 then
                    bv (dm4 (sI s 0 (jN (x4 + 1))) s) fun r52 s51 =>
                    if aB (x4 + 1) (sT s51 0).2 then
                      bu (dm182 (sI s51 0 (jN (x4 + 1))) s51) fun s56 =>
                      dm0_457 (dm0_13 n) x4 s56
                    else none
                  else none
                else
                  if ((sI s 0 (jN x4)) &&& 15) = 5 then
                    if aB (x4 + 1) (sT s 0).2 then
                      if aB (x4 + 2) (sT s 0).2 then
                        bv (dm5 (sI s 0 (jN (x4 + 1))) (sI s 0 (jN (x4 + 2))) s) fun r63 s62 =>
                        if aB (x4 + 1) (sT s62 0).2 then
                          if aB (x4 + 2) (sT s62 0).2 then
                            bv (dm184 (sI s62 0 (jN (x4 + 1))) (sI s62 0 (jN (x4 + 2))) s62) fun r69 s68 =>
                            dm0_457 (dm0_13 n) x4 s68
                          else none
                        else none
                      else none
                    else none
                  else
                    if ((sI s 0 (jN x4)) &&& 15) = 6 then
                      if aB (x4 + 1) (sT s 0).2 then
                        if aB (x4 + 2) (sT s 0).2 then
                          if aB (x4 + 3) (sT s 0).2 then
                            if aB (x4 + 4) (sT s 0).2 then
                              if aB (x4 + 5) (sT s 0).2 then
                                bv (dm6 (sI s 0 (jN (x4 + 1))) (sI s 0 (jN (x4 + 2))) (sI s 0 (jN (x4 + 3))) (sI s 0 (jN (x4 + 4))) (sI s 0 (jN (x4 + 5))) s) fun r79 s78 =>
                                if aB (x4 + 1) (sT s78 0).2 then
                                  if aB (x4 + 2) (sT s78 0).2 then
                                    if aB (x4 + 3) (sT s78 0).2 then
                                      if aB (x4 + 4) (sT s78 0).2 then
                                        if aB (x4 + 5) (sT s78 0).2 then
                                          bu (dm224 (sI s78 0 (jN (x4 + 1))) (sI s78 0 (jN (x4 + 2))) (sI s78 0 (jN (x4 + 3))) (sI s78 0 (jN (x4 + 4))) (sI s78 0 (jN (x4 + 5))) s78) fun s87 =>
                                          dm0_457 (dm0_13 n) x4 s87
                                        else none
                                      else none
                                    else none
                                  else none
                                else none
                              else none
                            else none
                          else none
                        else none
                      else none
                    else
                      if ((sI s 0 (jN x4)) &&& 15) = 7 then
                        if aB (x4 + 1) (sT s 0).2 then
                          if aB (x4 + 2) (sT s 0).2 then
                            if (sI s 0 (jN (x4 + 2))) = 0 then
                              dm0_204 (dm0_13 n) x4 (sI s 0 (jN (x4 + 1))) 0 s
                            else
                              dm0_204 (dm0_13 n) x4 (sI s 0 (jN (x4 + 1))) 1 s
                          else none
                        else none
                      else
                        if ((sI s 0 (jN x4)) &&& 15) = 8 then
                          if aB (x4 + 1) (sT s 0).2 then
                            bv (dm8 (sI s 0 (jN (x4 + 1))) s) fun r97 s96 =>
                            if aB (x4 + 1) (sT s96 0).2 then
                              bu (dm231 (sI s96 0 (jN (x4 + 1))) s96) fun s101 =>
                              dm0_457 (dm0_13 n) x4 s101
                            else none
                          else none
                        else
                          if ((sI s 0 (jN x4)) &&& 15) = 9 then
                            if aB (x4 + 1) (sT s 0).2 then
                              if aB (x4 + 2) (sT s 0).2 then
                                bv (dm9 (sI s 0 (jN (x4 + 1))) (sI s 0 (jN (x4 + 2))) s) fun r108 s107 =>
                                if aB (x4 + 1) (sT s107 0).2 then
                                  if aB (x4 + 2) (sT s107 0).2 then
                                    bv (dm232 (sI s107 0 (jN (x4 + 1))) (sI s107 0 (jN (x4 + 2))) s107) fun r114 s113 =>
                                    dm0_457 (dm0_13 n) x4 s113
                                  else none
                                else none
                              else none
                            else none
                          else
                            if ((sI s 0 (jN x4)) &&& 15) = 10 then
                              if aB (x4 + 1) (sT s 0).2 then
                                bv (dm10 (sI s 0 (jN (x4 + 1))) s) fun r120 s119 =>
                                if aB (x4 + 1) (sT s119 0).2 then
                                  bv (dm243 (sI s119 0 (jN (x4 + 1))) s119) fun r125 s124 =>
                                  dm0_457 (dm0_13 n) x4 s124
                                else none
                              else none
                            else
                              if ((sI s 0 (jN x4)) &&& 15) = 11 then
                                if aB (x4 + 1) (sT s 0).2 then
                                  if aB (x4 + 2) (sT s 0).2 then
                                    if aB (x4 + 3) (sT s 0).2 then
                                      bv (dm11 (sI s 0 (jN (x4 + 1))) (sI s 0 (jN (x4 + 2))) (sI s 0 (jN (x4 + 3))) s) fun r133 s132 =>
                                      if aB (x4 + 1) (sT s132 0).2 then
                                        if aB (x4 + 2) (sT s132 0).2 then
                                          if aB (x4 + 3) (sT s132 0).2 then
                                            bv (dm244 (sI s132 0 (jN (x4 + 1))) (sI s132 0 (jN (x4 + 2))) (sI s132 0 (jN (x4 + 3))) s132) fun r140 s139 =>
                                            dm0_457 (dm0_13 n) x4 s139
                                          else none
                                        else none
                                      else none
                                    else none
                                  else none
                                else none
                              else
                                if ((sI s 0 (jN x4)) &&& 15) = 12 then
                                  if aB (x4 + 1) (sT s 0).2 then
                                    if aB (x4 + 2) (sT s 0).2 then
                                      if aB (x4 + 3) (sT s 0).2 then
                                        bv (dm12 (sI s 0 (jN (x4 + 1))) (sI s 0 (jN (x4 + 2))) (sI s 0 (jN (x4 + 3))) s) fun r148 s147 =>
                                        if aB (x4 + 1) (sT s147 0).2 then
                                          if aB (x4 + 2) (sT s147 0).2 then
                                            if aB (x4 + 3) (sT s147 0).2 then
                                              bv (dm246 (sI s147 0 (jN (x4 + 1))) (sI s147 0 (jN (x4 + 2))) (sI s147 0 (jN (x4 + 3))) s147) fun r155 s154 =>
                                              dm0_457 (dm0_13 n) x4 s154
                                            else none
                                          else none
                                        else none
                                      else none
                                    else none
                                  else none
                                else
                                  if ((sI s 0 (jN x4)) &&& 15) = 13 then
                                    if aB (x4 + 1) (sT s 0).2 then
                                      if aB (x4 + 2) (sT s 0).2 then
                                        bv (dm13 (sI s 0 (jN (x4 + 1))) (sI s 0 (jN (x4 + 2))) s) fun r162 s161 =>
                                        if aB (x4 + 1) (sT s161 0).2 then
                                          if aB (x4 + 2) (sT s161 0).2 then
                                            bv (dm248 (sI s161 0 (jN (x4 + 1))) (sI s161 0 (jN (x4 + 2))) s161) fun r168 s167 =>
                                            dm0_457 (dm0_13 n) x4 s167
                                          else none
                                        else none
                                      else none
                                    else none
                                  else
                                    if ((sI s 0 (jN x4)) &&& 15) = 14 then
                                      if aB (x4 + 1) (sT s 0).2 then
                                        bv (dm14 (sI s 0 (jN (x4 + 1))) s) fun r174 s173 =>
                                        if aB (x4 + 1) (sT s173 0).2 then
                                          bv (dm249 (sI s173 0 (jN (x4 + 1))) s173) fun r179 s178 =>
                                          dm0_457 (dm0_13 n) x4 s178
                                        else none
                                      else none
                                    else
                                      if ((sI s 0 (jN x4)) &&& 15) = 15 then
                                        if aB (x4 + 1) (sT s 0).2 then
                                          if aB (x4 + 2) (sT s 0).2 then
                                            bv (dm15 (sI s 0 (jN (x4 + 1))) (sI s 0 (jN (x4 + 2))) s) fun r186 s185 =>
                                            if aB (x4 + 1) (sT s185 0).2 then
                                              if aB (x4 + 2) (sT s185 0).2 then
                                                bv (dm250 (sI s185 0 (jN (x4 + 1))) (sI s185 0 (jN (x4 + 2))) s185) fun r192 s191 =>
                                                dm0_457 (dm0_13 n) x4 s191
                                              else none
                                            else none
                                          else none
                                        else none
                                      else
                                        dm0_457 (dm0_13 n) x4 s
      else none
set_option maxRecDepth 100000 in
theorem dt0_13 {sio : Bool} {tt : Nat} {cc : Nat → Nat → Int32} {d : Nat} (hd : 1214 ≤ d) : ∀ (n : Nat) {x4 : Int32} {g5 : Option Value} {g6 : Option Value} {s : aS} (_ : Ly tt cc s) {o : Int32 × aS} (_ : dm0_13  n x4 s = some o), Q 0 sio tt cc d 0 13 [some (.ref 0), some (.ref 78), some (.ref 121), some (.ref 148), some (.int x4), g5, g6] [] s (.inl (some (.int o.1)), o.2) := by
  obtain ⟨d, rfl⟩ : ∃ e, d = e + 1 := ⟨d - 1, by omega⟩
  intro n
  induction n with
  | zero => intro x4 g5 g6 s hl o h; rw [dm0_13] at h; cases h
  | succ n ih =>
    intro x4 g5 g6 s hl o h
    rw [dm0_13] at h
    refine Q.run zm0 2 (i' := 15) (ls' := [some (.ref 0), some (.ref 78), some (.ref 121), some (.ref 148), some (.int x4), g5, g6]) (st' := [.ref 0, .int x4]) rfl ?_
    refine Q.map (A.al (gI_of zm0 (e := (26, 1, .arraylength, [])) rfl) (hl.lt (a := 0) (by decide)) hl.t0 (by decide)) ?_
    refine Q.run zm0 2 (i' := 18) (ls' := [some (.ref 0), some (.ref 78), some (.ref 121), some (.ref 148), some (.int x4), g5, g6]) (st' := [.int ((Int32.ofNat (sT s 0).2) - 6), .int x4]) rfl ?_
    by_cases hc1 : ((Int32.ofNat (sT s 0).2) - 6) < x4
    · rw [if_pos hc1] at h
      refine Q.map (A.bT (gI_of zm0 (e := (30, 3, .if_icmp .gt 727, [459])) rfl) (decide_eq_true hc1)) ?_
      refine Q.run zm0 1 (i' := 460) (ls' := [some (.ref 0), some (.ref 78), some (.ref 121), some (.ref 148), some (.int x4), g5, g6]) (st' := [.int 1]) rfl ?_
      cases h
      exact Q.ret (A.ri zm0 (show zM0.2.2.2.2.2[460]? = some (758, 1, .ireturn, []) from rfl) rfl rfl) hl
    · rw [if_neg hc1] at h
      refine Q.map (A.bF (gI_of zm0 (e := (30, 3, .if_icmp .gt 727, [459])) rfl) (fun q => hc1 (of_decide_eq_true q))) ?_
      refine Q.run zm0 2 (i' := 21) (ls' := [some (.ref 0), some (.ref 78), some (.ref 121), some (.ref 148), some (.int x4), g5, g6]) (st' := [.int x4, .ref 0]) rfl ?_
      obtain ⟨hc2, h⟩ := ite_so h
      refine Q.map (A.ia (gI_of zm0 (e := (36, 1, .iaload, [])) rfl) (hl.lt (a := 0) (by decide)) hl.t0 hc2) ?_
      refine Q.run zm0 2 (i' := 24) (ls' := [some (.ref 0), some (.ref 78), some (.ref 121), some (.ref 148), some (.int x4), g5, g6]) (st' := [.int ((sI s 0 (jN x4)) &&& 15)]) rfl ?_
      by_cases hc3 : ((sI s 0 (jN x4)) &&& 15) = 0
      · rw [if_pos hc3] at h
        refine Q.map (A.ts (gI_of zm0 (e := (40, 80, .tableswitch 711 0 15 #[80, 108, 119, 163, 188, 213, 253, 326, 406, 431, 471, 499, 551, 603, 643, 671], [457, 25, 43, 48, 73, 89, 105, 133, 189, 245, 261, 289, 307, 345, 383, 411, 429])) rfl) (t := 25) (by rw [hc3] <;> decide)) ?_
        refine Q.run zm0 5 (i' := 30) (ls' := [some (.ref 0), some (.ref 78), some (.ref 121), some (.ref 148), some (.int x4), g5, g6]) (st' := [.int (x4 + 1), .ref 0, .ref 78]) rfl ?_
        obtain ⟨hc4, h⟩ := ite_so h
        refine Q.map (A.ia (gI_of zm0 (e := (126, 1, .iaload, [])) rfl) (hl.lt (a := 0) (by decide)) hl.t0 hc4) ?_
        refine Q.run zm0 1 (i' := 32) (ls' := [some (.ref 0), some (.ref 78), some (.ref 121), some (.ref 148), some (.int x4), g5, g6]) (st' := [.ref 148, .int (sI s 0 (jN (x4 + 1))), .ref 78]) rfl ?_
        obtain ⟨r8, s7, hc6, h⟩ := bv_so h
        have hq5 : Q 0 sio tt cc d 1 0 [some (.ref 78), some (.int (sI s 0 (jN (x4 + 1)))), some (.ref 148), none] [] s (.inl (some (.int r8)), s7) := (dt1 (by omega) hl  hc6).w
        refine Q.callI (gC_st zm0 (show zM0.2.2.2.2.2[32]? = some (128, 3, .invokestatic 72, [0, 1, 3]) from rfl) zm1 (show aC 3 [.ref 148, .int (sI s 0 (jN (x4 + 1))), .ref 78] 4 = some ([some (.ref 78), some (.int (sI s 0 (jN (x4 + 1)))), some (.ref 148), none], []) from rfl)) hq5 ?_
        refine Q.run zm0 6 (i' := 39) (ls' := [some (.ref 0), some (.ref 78), some (.ref 121), some (.ref 148), some (.int x4), some (.int r8), g6]) (st' := [.int (x4 + 1), .ref 0, .ref 121]) rfl ?_
        obtain ⟨hc9, h⟩ := ite_so h
        refine Q.map (A.ia (gI_of zm0 (e := (139, 1, .iaload, [])) rfl) (hq5.1.lt (a := 0) (by decide)) hq5.1.t0 hc9) ?_
        obtain ⟨r13, s12, hc11, h⟩ := bv_so h
        have hq10 : Q 0 sio tt cc d 172 0 [some (.ref 121), some (.int (sI s7 0 (jN (x4 + 1)))), none, none, none, none] [] s7 (.inl (some (.int r13)), s12) := (dt172 (by omega) hq5.1  hc11).w
        refine Q.callI (gC_vi zm0 (show zM0.2.2.2.2.2[40]? = some (140, 3, .invokevirtual 77, [0, 172, 1, 9]) from rfl) zm172 (hq5.1.lt (a := 121) (by decide)) (hq5.1.T (a := 121) (p := (9, 45)) 43 rfl rfl) rfl (show aCr 1 121 [.int (sI s7 0 (jN (x4 + 1))), .ref 121] 6 = some ([some (.ref 121), some (.int (sI s7 0 (jN (x4 + 1)))), none, none, none, none], []) from rfl)) hq10 ?_
        refine Q.run zm0 2 (i' := 457) (ls' := [some (.ref 0), some (.ref 78), some (.ref 121), some (.ref 148), some (.int x4), some (.int r8), some (.int r13)]) (st' := []) rfl ?_
        exact dt0_457 hd ih hq10.1  h
      · rw [if_neg hc3] at h
        by_cases hc14 : ((sI s 0 (jN x4)) &&& 15) = 1
        · rw [if_pos hc14] at h
          refine Q.map (A.ts (gI_of zm0 (e := (40, 80, .tableswitch 711 0 15 #[80, 108, 119, 163, 188, 213, 253, 326, 406, 431, 471, 499, 551, 603, 643, 671], [457, 25, 43, 48, 73, 89, 105, 133, 189, 245, 261, 289, 307, 345, 383, 411, 429])) rfl) (t := 43) (by rw [hc14] <;> decide)) ?_
          refine Q.run zm0 1 (i' := 44) (ls' := [some (.ref 0), some (.ref 78), some (.ref 121), some (.ref 148), some (.int x4), g5, g6]) (st' := [.ref 78]) rfl ?_
          obtain ⟨s17, hc16, h⟩ := bu_so h
          have hq15 : Q 0 sio tt cc d 25 0 [some (.ref 78)] [] s (.inl none, s17) := (dt25 (by omega) hl  hc16).w
          refine Q.callV (gC_vi zm0 (show zM0.2.2.2.2.2[44]? = some (149, 3, .invokevirtual 78, [0, 25, 0, 0]) from rfl) zm25 (hl.lt (a := 78) (by decide)) (hl.T (a := 78) (p := (0, 7)) 0 rfl rfl) rfl (show aCr 0 78 [.ref 78] 1 = some ([some (.ref 78)], []) from rfl)) hq15 ?_
          refine Q.run zm0 1 (i' := 46) (ls' := [some (.ref 0), some (.ref 78), some (.ref 121), some (.ref 148), some (.int x4), g5, g6]) (st' := [.ref 121]) rfl ?_
          obtain ⟨s20, hc19, h⟩ := bu_so h
          have hq18 : Q 0 sio tt cc d 173 0 [some (.ref 121)] [] s17 (.inl none, s20) := (dt173 (by omega) hq15.1  hc19).w
          refine Q.callV (gC_vi zm0 (show zM0.2.2.2.2.2[46]? = some (153, 3, .invokevirtual 81, [0, 173, 0, 9]) from rfl) zm173 (hq15.1.lt (a := 121) (by decide)) (hq15.1.T (a := 121) (p := (9, 45)) 43 rfl rfl) rfl (show aCr 0 121 [.ref 121] 1 = some ([some (.ref 121)], []) from rfl)) hq18 ?_
          refine Q.run zm0 1 (i' := 457) (ls' := [some (.ref 0), some (.ref 78), some (.ref 121), some (.ref 148), some (.int x4), g5, g6]) (st' := []) rfl ?_
          exact dt0_457 hd ih hq18.1  h
        · rw [if_neg hc14] at h
          by_cases hc21 : ((sI s 0 (jN x4)) &&& 15) = 2
          · rw [if_pos hc21] at h
            refine Q.map (A.ts (gI_of zm0 (e := (40, 80, .tableswitch 711 0 15 #[80, 108, 119, 163, 188, 213, 253, 326, 406, 431, 471, 499, 551, 603, 643, 671], [457, 25, 43, 48, 73, 89, 105, 133, 189, 245, 261, 289, 307, 345, 383, 411, 429])) rfl) (t := 48) (by rw [hc21] <;> decide)) ?_
            refine Q.run zm0 2 (i' := 50) (ls' := [some (.ref 0), some (.ref 78), some (.ref 121), some (.ref 148), some (.int x4), g5, g6]) (st' := [.ref 148, .ref 78]) rfl ?_
            obtain ⟨r25, s24, hc23, h⟩ := bv_so h
            have hq22 : Q 0 sio tt cc d 2 0 [some (.ref 78), some (.ref 148), none] [] s (.inl (some (.int r25)), s24) := (dt2 (by omega) hl  hc23).w
            refine Q.callI (gC_st zm0 (show zM0.2.2.2.2.2[50]? = some (161, 3, .invokestatic 82, [0, 2, 2]) from rfl) zm2 (show aC 2 [.ref 148, .ref 78] 3 = some ([some (.ref 78), some (.ref 148), none], []) from rfl)) hq22 ?_
            refine Q.run zm0 2 (i' := 53) (ls' := [some (.ref 0), some (.ref 78), some (.ref 121), some (.ref 148), some (.int x4), some (.int r25), g6]) (st' := [.ref 121]) rfl ?_
            obtain ⟨r29, s28, hc27, h⟩ := bv_so h
            have hq26 : Q 0 sio tt cc d 174 0 [some (.ref 121)] [] s24 (.inl (some (.int r29)), s28) := (dt174 (by omega) hq22.1  hc27).w
            refine Q.callI (gC_vi zm0 (show zM0.2.2.2.2.2[53]? = some (167, 3, .invokevirtual 85, [0, 174, 0, 9]) from rfl) zm174 (hq22.1.lt (a := 121) (by decide)) (hq22.1.T (a := 121) (p := (9, 45)) 43 rfl rfl) rfl (show aCr 0 121 [.ref 121] 1 = some ([some (.ref 121)], []) from rfl)) hq26 ?_
            refine Q.run zm0 2 (i' := 56) (ls' := [some (.ref 0), some (.ref 78), some (.ref 121), some (.ref 148), some (.int x4), some (.int r25), some (.int r29)]) (st' := [.ref 121]) rfl ?_
            obtain ⟨r32, hc31, h⟩ := bu_so h
            have hq30 : Q 0 sio tt cc d 171 0 [some (.ref 121)] [] s28 (.inl (some (.int r32)), s28) := (dt171 (by omega) hq26.1  hc31).w
            refine Q.callI (gC_vi zm0 (show zM0.2.2.2.2.2[56]? = some (173, 3, .invokevirtual 86, [0, 171, 0, 9]) from rfl) zm171 (hq26.1.lt (a := 121) (by decide)) (hq26.1.T (a := 121) (p := (9, 45)) 43 rfl rfl) rfl (show aCr 0 121 [.ref 121] 1 = some ([some (.ref 121)], []) from rfl)) hq30 ?_
            refine Q.run zm0 1 (i' := 58) (ls' := [some (.ref 0), some (.ref 78), some (.ref 121), some (.ref 148), some (.int x4), some (.int r25), some (.int r29)]) (st' := [.int r25, .int r32]) rfl ?_
            by_cases hc33 : r32 = r25
            · rw [if_pos hc33] at h
              refine Q.map (A.bT (gI_of zm0 (e := (178, 3, .if_icmp .eq 5, [61])) rfl) (decide_eq_true hc33)) ?_
              refine Q.run zm0 1 (i' := 62) (ls' := [some (.ref 0), some (.ref 78), some (.ref 121), some (.ref 148), some (.int x4), some (.int r25), some (.int r29)]) (st' := [.int r25]) rfl ?_
              by_cases hc34 : r25 = 0
              · rw [if_pos hc34] at h
                refine Q.map (A.zF (gI_of zm0 (e := (185, 3, .ifCond .ne 15, [72])) rfl) (fun q => of_decide_eq_true q hc34)) ?_
                refine Q.run zm0 2 (i' := 65) (ls' := [some (.ref 0), some (.ref 78), some (.ref 121), some (.ref 148), some (.int x4), some (.int r25), some (.int r29)]) (st' := [.int 0, .ref 148]) rfl ?_
                obtain ⟨hc35, h⟩ := ite_so h
                refine Q.map (A.la (gI_of zm0 (e := (190, 1, .laload, [])) rfl) (hq26.1.lt (a := 148) (by decide)) (hq26.1.T (a := 148) (p := (104, 1)) 70 rfl rfl) hc35) ?_
                refine Q.run zm0 3 (i' := 69) (ls' := [some (.ref 0), some (.ref 78), some (.ref 121), some (.ref 148), some (.int x4), some (.int r25), some (.int r29)]) (st' := [.int (lg_cmp (sJ s28 148 (jN 0)) r29.toInt64)]) rfl ?_
                by_cases hc36 : (lg_cmp (sJ s28 148 (jN 0)) r29.toInt64) = 0
                · rw [if_pos hc36] at h
                  refine Q.map (A.zT (gI_of zm0 (e := (195, 3, .ifCond .eq 5, [72])) rfl) (decide_eq_true hc36)) ?_
                  exact dt0_72 hd ih hq26.1  h
                · rw [if_neg hc36] at h
                  refine Q.map (A.zF (gI_of zm0 (e := (195, 3, .ifCond .eq 5, [72])) rfl) (fun q => hc36 (of_decide_eq_true q))) ?_
                  refine Q.run zm0 1 (i' := 71) (ls' := [some (.ref 0), some (.ref 78), some (.ref 121), some (.ref 148), some (.int x4), some (.int r25), some (.int r29)]) (st' := [.int 0]) rfl ?_
                  cases h
                  exact Q.ret (A.ri zm0 (show zM0.2.2.2.2.2[71]? = some (199, 1, .ireturn, []) from rfl) rfl rfl) hq26.1
              · rw [if_neg hc34] at h
                refine Q.map (A.zT (gI_of zm0 (e := (185, 3, .ifCond .ne 15, [72])) rfl) (decide_eq_true hc34)) ?_
                exact dt0_72 hd ih hq26.1  h
            · rw [if_neg hc33] at h
              refine Q.map (A.bF (gI_of zm0 (e := (178, 3, .if_icmp .eq 5, [61])) rfl) (fun q => hc33 (of_decide_eq_true q))) ?_
              refine Q.run zm0 1 (i' := 60) (ls' := [some (.ref 0), some (.ref 78), some (.ref 121), some (.ref 148), some (.int x4), some (.int r25), some (.int r29)]) (st' := [.int 0]) rfl ?_
              cases h
              exact Q.ret (A.ri zm0 (show zM0.2.2.2.2.2[60]? = some (182, 1, .ireturn, []) from rfl) rfl rfl) hq26.1
          · rw [if_neg hc21] at h
            by_cases hc37 : ((sI s 0 (jN x4)) &&& 15) = 3
            · rw [if_pos hc37] at h
              refine Q.map (A.ts (gI_of zm0 (e := (40, 80, .tableswitch 711 0 15 #[80, 108, 119, 163, 188, 213, 253, 326, 406, 431, 471, 499, 551, 603, 643, 671], [457, 25, 43, 48, 73, 89, 105, 133, 189, 245, 261, 289, 307, 345, 383, 411, 429])) rfl) (t := 73) (by rw [hc37] <;> decide)) ?_
              refine Q.run zm0 5 (i' := 78) (ls' := [some (.ref 0), some (.ref 78), some (.ref 121), some (.ref 148), some (.int x4), g5, g6]) (st' := [.int (x4 + 1), .ref 0, .ref 78]) rfl ?_
              obtain ⟨hc38, h⟩ := ite_so h
              refine Q.map (A.ia (gI_of zm0 (e := (209, 1, .iaload, [])) rfl) (hl.lt (a := 0) (by decide)) hl.t0 hc38) ?_
              obtain ⟨r42, s41, hc40, h⟩ := bv_so h
              have hq39 : Q 0 sio tt cc d 3 0 [some (.ref 78), some (.int (sI s 0 (jN (x4 + 1)))), none] [] s (.inl (some (.int r42)), s41) := (dt3 (by omega) hl  hc40).w
              refine Q.callI (gC_st zm0 (show zM0.2.2.2.2.2[79]? = some (210, 3, .invokestatic 89, [0, 3, 2]) from rfl) zm3 (show aC 2 [.int (sI s 0 (jN (x4 + 1))), .ref 78] 3 = some ([some (.ref 78), some (.int (sI s 0 (jN (x4 + 1)))), none], []) from rfl)) hq39 ?_
              refine Q.run zm0 6 (i' := 86) (ls' := [some (.ref 0), some (.ref 78), some (.ref 121), some (.ref 148), some (.int x4), some (.int r42), g6]) (st' := [.int (x4 + 1), .ref 0, .ref 121]) rfl ?_
              obtain ⟨hc43, h⟩ := ite_so h
              refine Q.map (A.ia (gI_of zm0 (e := (221, 1, .iaload, [])) rfl) (hq39.1.lt (a := 0) (by decide)) hq39.1.t0 hc43) ?_
              obtain ⟨s46, hc45, h⟩ := bu_so h
              have hq44 : Q 0 sio tt cc d 180 0 [some (.ref 121), some (.int (sI s41 0 (jN (x4 + 1)))), none, none] [] s41 (.inl none, s46) := (dt180 (by omega) hq39.1  hc45).w
              refine Q.callV (gC_vi zm0 (show zM0.2.2.2.2.2[87]? = some (222, 3, .invokevirtual 92, [0, 180, 1, 9]) from rfl) zm180 (hq39.1.lt (a := 121) (by decide)) (hq39.1.T (a := 121) (p := (9, 45)) 43 rfl rfl) rfl (show aCr 1 121 [.int (sI s41 0 (jN (x4 + 1))), .ref 121] 4 = some ([some (.ref 121), some (.int (sI s41 0 (jN (x4 + 1)))), none, none], []) from rfl)) hq44 ?_
              refine Q.run zm0 1 (i' := 457) (ls' := [some (.ref 0), some (.ref 78), some (.ref 121), some (.ref 148), some (.int x4), some (.int r42), g6]) (st' := []) rfl ?_
              exact dt0_457 hd ih hq44.1  h
            · rw [if_neg hc37] at h
              by_cases hc47 : ((sI s 0 (jN x4)) &&& 15) = 4
              · rw [if_pos hc47] at h
                refine Q.map (A.ts (gI_of zm0 (e := (40, 80, .tableswitch 711 0 15 #[80, 108, 119, 163, 188, 213, 253, 326, 406, 431, 471, 499, 551, 603, 643, 671], [457, 25, 43, 48, 73, 89, 105, 133, 189, 245, 261, 289, 307, 345, 383, 411, 429])) rfl) (t := 89) (by rw [hc47] <;> decide)) ?_
                refine Q.run zm0 5 (i' := 94) (ls' := [some (.ref 0), some (.ref 78), some (.ref 121), some (.ref 148), some (.int x4), g5, g6]) (st' := [.int (x4 + 1), .ref 0, .ref 78]) rfl ?_
                obtain ⟨hc48, h⟩ := ite_so h
                refine Q.map (A.ia (gI_of zm0 (e := (234, 1, .iaload, [])) rfl) (hl.lt (a := 0) (by decide)) hl.t0 hc48) ?_
                obtain ⟨r52, s51, hc50, h⟩ := bv_so h
                have hq49 : Q 0 sio tt cc d 4 0 [some (.ref 78), some (.int (sI s 0 (jN (x4 + 1)))), none] [] s (.inl (some (.int r52)), s51) := (dt4 (by omega) hl  hc50).w
                refine Q.callI (gC_st zm0 (show zM0.2.2.2.2.2[95]? = some (235, 3, .invokestatic 93, [0, 4, 2]) from rfl) zm4 (show aC 2 [.int (sI s 0 (jN (x4 + 1))), .ref 78] 3 = some ([some (.ref 78), some (.int (sI s 0 (jN (x4 + 1)))), none], []) from rfl)) hq49 ?_
                refine Q.run zm0 6 (i' := 102) (ls' := [some (.ref 0), some (.ref 78), some (.ref 121), some (.ref 148), some (.int x4), some (.int r52), g6]) (st' := [.int (x4 + 1), .ref 0, .ref 121]) rfl ?_
                obtain ⟨hc53, h⟩ := ite_so h
                refine Q.map (A.ia (gI_of zm0 (e := (246, 1, .iaload, [])) rfl) (hq49.1.lt (a := 0) (by decide)) hq49.1.t0 hc53) ?_
                obtain ⟨s56, hc55, h⟩ := bu_so h
                have hq54 : Q 0 sio tt cc d 182 0 [some (.ref 121), some (.int (sI s51 0 (jN (x4 + 1)))), none, none] [] s51 (.inl none, s56) := (dt182 (by omega) hq49.1  hc55).w
                refine Q.callV (gC_vi zm0 (show zM0.2.2.2.2.2[103]? = some (247, 3, .invokevirtual 95, [0, 182, 1, 9]) from rfl) zm182 (hq49.1.lt (a := 121) (by decide)) (hq49.1.T (a := 121) (p := (9, 45)) 43 rfl rfl) rfl (show aCr 1 121 [.int (sI s51 0 (jN (x4 + 1))), .ref 121] 4 = some ([some (.ref 121), some (.int (sI s51 0 (jN (x4 + 1)))), none, none], []) from rfl)) hq54 ?_
                refine Q.run zm0 1 (i' := 457) (ls' := [some (.ref 0), some (.ref 78), some (.ref 121), some (.ref 148), some (.int x4), some (.int r52), g6]) (st' := []) rfl ?_
                exact dt0_457 hd ih hq54.1  h
              · rw [if_neg hc47] at h
                by_cases hc57 : ((sI s 0 (jN x4)) &&& 15) = 5
                · rw [if_pos hc57] at h
                  refine Q.map (A.ts (gI_of zm0 (e := (40, 80, .tableswitch 711 0 15 #[80, 108, 119, 163, 188, 213, 253, 326, 406, 431, 471, 499, 551, 603, 643, 671], [457, 25, 43, 48, 73, 89, 105, 133, 189, 245, 261, 289, 307, 345, 383, 411, 429])) rfl) (t := 105) (by rw [hc57] <;> decide)) ?_
                  refine Q.run zm0 5 (i' := 110) (ls' := [some (.ref 0), some (.ref 78), some (.ref 121), some (.ref 148), some (.int x4), g5, g6]) (st' := [.int (x4 + 1), .ref 0, .ref 78]) rfl ?_
                  obtain ⟨hc58, h⟩ := ite_so h
                  refine Q.map (A.ia (gI_of zm0 (e := (259, 1, .iaload, [])) rfl) (hl.lt (a := 0) (by decide)) hl.t0 hc58) ?_
                  refine Q.run zm0 4 (i' := 115) (ls' := [some (.ref 0), some (.ref 78), some (.ref 121), some (.ref 148), some (.int x4), g5, g6]) (st' := [.int (x4 + 2), .ref 0, .int (sI s 0 (jN (x4 + 1))), .ref 78]) rfl ?_
                  obtain ⟨hc59, h⟩ := ite_so h
                  refine Q.map (A.ia (gI_of zm0 (e := (265, 1, .iaload, [])) rfl) (hl.lt (a := 0) (by decide)) hl.t0 hc59) ?_
                  refine Q.run zm0 1 (i' := 117) (ls' := [some (.ref 0), some (.ref 78), some (.ref 121), some (.ref 148), some (.int x4), g5, g6]) (st' := [.ref 148, .int (sI s 0 (jN (x4 + 2))), .int (sI s 0 (jN (x4 + 1))), .ref 78]) rfl ?_
                  obtain ⟨r63, s62, hc61, h⟩ := bv_so h
                  have hq60 : Q 0 sio tt cc d 5 0 [some (.ref 78), some (.int (sI s 0 (jN (x4 + 1)))), some (.int (sI s 0 (jN (x4 + 2)))), some (.ref 148), none] [] s (.inl (some (.int r63)), s62) := (dt5 (by omega) hl  hc61).w
                  refine Q.callI (gC_st zm0 (show zM0.2.2.2.2.2[117]? = some (267, 3, .invokestatic 96, [0, 5, 4]) from rfl) zm5 (show aC 4 [.ref 148, .int (sI s 0 (jN (x4 + 2))), .int (sI s 0 (jN (x4 + 1))), .ref 78] 5 = some ([some (.ref 78), some (.int (sI s 0 (jN (x4 + 1)))), some (.int (sI s 0 (jN (x4 + 2)))), some (.ref 148), none], []) from rfl)) hq60 ?_
                  refine Q.run zm0 6 (i' := 124) (ls' := [some (.ref 0), some (.ref 78), some (.ref 121), some (.ref 148), some (.int x4), some (.int r63), g6]) (st' := [.int (x4 + 1), .ref 0, .ref 121]) rfl ?_
                  obtain ⟨hc64, h⟩ := ite_so h
                  refine Q.map (A.ia (gI_of zm0 (e := (278, 1, .iaload, [])) rfl) (hq60.1.lt (a := 0) (by decide)) hq60.1.t0 hc64) ?_
                  refine Q.run zm0 4 (i' := 129) (ls' := [some (.ref 0), some (.ref 78), some (.ref 121), some (.ref 148), some (.int x4), some (.int r63), g6]) (st' := [.int (x4 + 2), .ref 0, .int (sI s62 0 (jN (x4 + 1))), .ref 121]) rfl ?_
                  obtain ⟨hc65, h⟩ := ite_so h
                  refine Q.map (A.ia (gI_of zm0 (e := (284, 1, .iaload, [])) rfl) (hq60.1.lt (a := 0) (by decide)) hq60.1.t0 hc65) ?_
                  obtain ⟨r69, s68, hc67, h⟩ := bv_so h
                  have hq66 : Q 0 sio tt cc d 184 0 [some (.ref 121), some (.int (sI s62 0 (jN (x4 + 1)))), some (.int (sI s62 0 (jN (x4 + 2)))), none] [] s62 (.inl (some (.int r69)), s68) := (dt184 (by omega) hq60.1  hc67).w
                  refine Q.callI (gC_vi zm0 (show zM0.2.2.2.2.2[130]? = some (285, 3, .invokevirtual 99, [0, 184, 2, 9]) from rfl) zm184 (hq60.1.lt (a := 121) (by decide)) (hq60.1.T (a := 121) (p := (9, 45)) 43 rfl rfl) rfl (show aCr 2 121 [.int (sI s62 0 (jN (x4 + 2))), .int (sI s62 0 (jN (x4 + 1))), .ref 121] 4 = some ([some (.ref 121), some (.int (sI s62 0 (jN (x4 + 1)))), some (.int (sI s62 0 (jN (x4 + 2)))), none], []) from rfl)) hq66 ?_
                  refine Q.run zm0 2 (i' := 457) (ls' := [some (.ref 0), some (.ref 78), some (.ref 121), some (.ref 148), some (.int x4), some (.int r63), some (.int r69)]) (st' := []) rfl ?_
                  exact dt0_457 hd ih hq66.1  h
                · rw [if_neg hc57] at h
                  by_cases hc70 : ((sI s 0 (jN x4)) &&& 15) = 6
                  · rw [if_pos hc70] at h
                    refine Q.map (A.ts (gI_of zm0 (e := (40, 80, .tableswitch 711 0 15 #[80, 108, 119, 163, 188, 213, 253, 326, 406, 431, 471, 499, 551, 603, 643, 671], [457, 25, 43, 48, 73, 89, 105, 133, 189, 245, 261, 289, 307, 345, 383, 411, 429])) rfl) (t := 133) (by rw [hc70] <;> decide)) ?_
                    refine Q.run zm0 5 (i' := 138) (ls' := [some (.ref 0), some (.ref 78), some (.ref 121), some (.ref 148), some (.int x4), g5, g6]) (st' := [.int (x4 + 1), .ref 0, .ref 78]) rfl ?_
                    obtain ⟨hc71, h⟩ := ite_so h
                    refine Q.map (A.ia (gI_of zm0 (e := (299, 1, .iaload, [])) rfl) (hl.lt (a := 0) (by decide)) hl.t0 hc71) ?_
                    refine Q.run zm0 4 (i' := 143) (ls' := [some (.ref 0), some (.ref 78), some (.ref 121), some (.ref 148), some (.int x4), g5, g6]) (st' := [.int (x4 + 2), .ref 0, .int (sI s 0 (jN (x4 + 1))), .ref 78]) rfl ?_
                    obtain ⟨hc72, h⟩ := ite_so h
                    refine Q.map (A.ia (gI_of zm0 (e := (305, 1, .iaload, [])) rfl) (hl.lt (a := 0) (by decide)) hl.t0 hc72) ?_
                    refine Q.run zm0 4 (i' := 148) (ls' := [some (.ref 0), some (.ref 78), some (.ref 121), some (.ref 148), some (.int x4), g5, g6]) (st' := [.int (x4 + 3), .ref 0, .int (sI s 0 (jN (x4 + 2))), .int (sI s 0 (jN (x4 + 1))), .ref 78]) rfl ?_
                    obtain ⟨hc73, h⟩ := ite_so h
                    refine Q.map (A.ia (gI_of zm0 (e := (311, 1, .iaload, [])) rfl) (hl.lt (a := 0) (by decide)) hl.t0 hc73) ?_
                    refine Q.run zm0 4 (i' := 153) (ls' := [some (.ref 0), some (.ref 78), some (.ref 121), some (.ref 148), some (.int x4), g5, g6]) (st' := [.int (x4 + 4), .ref 0, .int (sI s 0 (jN (x4 + 3))), .int (sI s 0 (jN (x4 + 2))), .int (sI s 0 (jN (x4 + 1))), .ref 78]) rfl ?_
                    obtain ⟨hc74, h⟩ := ite_so h
                    refine Q.map (A.ia (gI_of zm0 (e := (317, 1, .iaload, [])) rfl) (hl.lt (a := 0) (by decide)) hl.t0 hc74) ?_
                    refine Q.run zm0 4 (i' := 158) (ls' := [some (.ref 0), some (.ref 78), some (.ref 121), some (.ref 148), some (.int x4), g5, g6]) (st' := [.int (x4 + 5), .ref 0, .int (sI s 0 (jN (x4 + 4))), .int (sI s 0 (jN (x4 + 3))), .int (sI s 0 (jN (x4 + 2))), .int (sI s 0 (jN (x4 + 1))), .ref 78]) rfl ?_
                    obtain ⟨hc75, h⟩ := ite_so h
                    refine Q.map (A.ia (gI_of zm0 (e := (323, 1, .iaload, [])) rfl) (hl.lt (a := 0) (by decide)) hl.t0 hc75) ?_
                    obtain ⟨r79, s78, hc77, h⟩ := bv_so h
                    have hq76 : Q 0 sio tt cc d 6 0 [some (.ref 78), some (.int (sI s 0 (jN (x4 + 1)))), some (.int (sI s 0 (jN (x4 + 2)))), some (.int (sI s 0 (jN (x4 + 3)))), some (.int (sI s 0 (jN (x4 + 4)))), some (.int (sI s 0 (jN (x4 + 5)))), none] [] s (.inl (some (.int r79)), s78) := (dt6 (by omega) hl  hc77).w
                    refine Q.callI (gC_st zm0 (show zM0.2.2.2.2.2[159]? = some (324, 3, .invokestatic 100, [0, 6, 6]) from rfl) zm6 (show aC 6 [.int (sI s 0 (jN (x4 + 5))), .int (sI s 0 (jN (x4 + 4))), .int (sI s 0 (jN (x4 + 3))), .int (sI s 0 (jN (x4 + 2))), .int (sI s 0 (jN (x4 + 1))), .ref 78] 7 = some ([some (.ref 78), some (.int (sI s 0 (jN (x4 + 1)))), some (.int (sI s 0 (jN (x4 + 2)))), some (.int (sI s 0 (jN (x4 + 3)))), some (.int (sI s 0 (jN (x4 + 4)))), some (.int (sI s 0 (jN (x4 + 5)))), none], []) from rfl)) hq76 ?_
                    refine Q.run zm0 6 (i' := 166) (ls' := [some (.ref 0), some (.ref 78), some (.ref 121), some (.ref 148), some (.int x4), some (.int r79), g6]) (st' := [.int (x4 + 1), .ref 0, .ref 121]) rfl ?_
                    obtain ⟨hc80, h⟩ := ite_so h
                    refine Q.map (A.ia (gI_of zm0 (e := (335, 1, .iaload, [])) rfl) (hq76.1.lt (a := 0) (by decide)) hq76.1.t0 hc80) ?_
                    refine Q.run zm0 4 (i' := 171) (ls' := [some (.ref 0), some (.ref 78), some (.ref 121), some (.ref 148), some (.int x4), some (.int r79), g6]) (st' := [.int (x4 + 2), .ref 0, .int (sI s78 0 (jN (x4 + 1))), .ref 121]) rfl ?_
                    obtain ⟨hc81, h⟩ := ite_so h
                    refine Q.map (A.ia (gI_of zm0 (e := (341, 1, .iaload, [])) rfl) (hq76.1.lt (a := 0) (by decide)) hq76.1.t0 hc81) ?_
                    refine Q.run zm0 4 (i' := 176) (ls' := [some (.ref 0), some (.ref 78), some (.ref 121), some (.ref 148), some (.int x4), some (.int r79), g6]) (st' := [.int (x4 + 3), .ref 0, .int (sI s78 0 (jN (x4 + 2))), .int (sI s78 0 (jN (x4 + 1))), .ref 121]) rfl ?_
                    obtain ⟨hc82, h⟩ := ite_so h
                    refine Q.map (A.ia (gI_of zm0 (e := (347, 1, .iaload, [])) rfl) (hq76.1.lt (a := 0) (by decide)) hq76.1.t0 hc82) ?_
                    refine Q.run zm0 4 (i' := 181) (ls' := [some (.ref 0), some (.ref 78), some (.ref 121), some (.ref 148), some (.int x4), some (.int r79), g6]) (st' := [.int (x4 + 4), .ref 0, .int (sI s78 0 (jN (x4 + 3))), .int (sI s78 0 (jN (x4 + 2))), .int (sI s78 0 (jN (x4 + 1))), .ref 121]) rfl ?_
                    obtain ⟨hc83, h⟩ := ite_so h
                    refine Q.map (A.ia (gI_of zm0 (e := (353, 1, .iaload, [])) rfl) (hq76.1.lt (a := 0) (by decide)) hq76.1.t0 hc83) ?_
                    refine Q.run zm0 4 (i' := 186) (ls' := [some (.ref 0), some (.ref 78), some (.ref 121), some (.ref 148), some (.int x4), some (.int r79), g6]) (st' := [.int (x4 + 5), .ref 0, .int (sI s78 0 (jN (x4 + 4))), .int (sI s78 0 (jN (x4 + 3))), .int (sI s78 0 (jN (x4 + 2))), .int (sI s78 0 (jN (x4 + 1))), .ref 121]) rfl ?_
                    obtain ⟨hc84, h⟩ := ite_so h
                    refine Q.map (A.ia (gI_of zm0 (e := (359, 1, .iaload, [])) rfl) (hq76.1.lt (a := 0) (by decide)) hq76.1.t0 hc84) ?_
                    obtain ⟨s87, hc86, h⟩ := bu_so h
                    have hq85 : Q 0 sio tt cc d 224 0 [some (.ref 121), some (.int (sI s78 0 (jN (x4 + 1)))), some (.int (sI s78 0 (jN (x4 + 2)))), some (.int (sI s78 0 (jN (x4 + 3)))), some (.int (sI s78 0 (jN (x4 + 4)))), some (.int (sI s78 0 (jN (x4 + 5)))), none, none, none] [] s78 (.inl none, s87) := (dt224 (by omega) hq76.1  hc86).w
                    refine Q.callV (gC_vi zm0 (show zM0.2.2.2.2.2[187]? = some (360, 3, .invokevirtual 103, [0, 224, 5, 9]) from rfl) zm224 (hq76.1.lt (a := 121) (by decide)) (hq76.1.T (a := 121) (p := (9, 45)) 43 rfl rfl) rfl (show aCr 5 121 [.int (sI s78 0 (jN (x4 + 5))), .int (sI s78 0 (jN (x4 + 4))), .int (sI s78 0 (jN (x4 + 3))), .int (sI s78 0 (jN (x4 + 2))), .int (sI s78 0 (jN (x4 + 1))), .ref 121] 9 = some ([some (.ref 121), some (.int (sI s78 0 (jN (x4 + 1)))), some (.int (sI s78 0 (jN (x4 + 2)))), some (.int (sI s78 0 (jN (x4 + 3)))), some (.int (sI s78 0 (jN (x4 + 4)))), some (.int (sI s78 0 (jN (x4 + 5)))), none, none, none], []) from rfl)) hq85 ?_
                    refine Q.run zm0 1 (i' := 457) (ls' := [some (.ref 0), some (.ref 78), some (.ref 121), some (.ref 148), some (.int x4), some (.int r79), g6]) (st' := []) rfl ?_
                    exact dt0_457 hd ih hq85.1  h
                  · rw [if_neg hc70] at h
                    by_cases hc88 : ((sI s 0 (jN x4)) &&& 15) = 7
                    · rw [if_pos hc88] at h
                      refine Q.map (A.ts (gI_of zm0 (e := (40, 80, .tableswitch 711 0 15 #[80, 108, 119, 163, 188, 213, 253, 326, 406, 431, 471, 499, 551, 603, 643, 671], [457, 25, 43, 48, 73, 89, 105, 133, 189, 245, 261, 289, 307, 345, 383, 411, 429])) rfl) (t := 189) (by rw [hc88] <;> decide)) ?_
                      refine Q.run zm0 5 (i' := 194) (ls' := [some (.ref 0), some (.ref 78), some (.ref 121), some (.ref 148), some (.int x4), g5, g6]) (st' := [.int (x4 + 1), .ref 0, .ref 78]) rfl ?_
                      obtain ⟨hc89, h⟩ := ite_so h
                      refine Q.map (A.ia (gI_of zm0 (e := (372, 1, .iaload, [])) rfl) (hl.lt (a := 0) (by decide)) hl.t0 hc89) ?_
                      refine Q.run zm0 4 (i' := 199) (ls' := [some (.ref 0), some (.ref 78), some (.ref 121), some (.ref 148), some (.int x4), g5, g6]) (st' := [.int (x4 + 2), .ref 0, .int (sI s 0 (jN (x4 + 1))), .ref 78]) rfl ?_
                      obtain ⟨hc90, h⟩ := ite_so h
                      refine Q.map (A.ia (gI_of zm0 (e := (378, 1, .iaload, [])) rfl) (hl.lt (a := 0) (by decide)) hl.t0 hc90) ?_
                      by_cases hc91 : (sI s 0 (jN (x4 + 2))) = 0
                      · rw [if_pos hc91] at h
                        refine Q.map (A.zT (gI_of zm0 (e := (379, 3, .ifCond .eq 7, [203])) rfl) (decide_eq_true hc91)) ?_
                        refine Q.run zm0 1 (i' := 204) (ls' := [some (.ref 0), some (.ref 78), some (.ref 121), some (.ref 148), some (.int x4), g5, g6]) (st' := [.int 0, .int (sI s 0 (jN (x4 + 1))), .ref 78]) rfl ?_
                        exact dt0_204 hd ih hl  h
                      · rw [if_neg hc91] at h
                        refine Q.map (A.zF (gI_of zm0 (e := (379, 3, .ifCond .eq 7, [203])) rfl) (fun q => hc91 (of_decide_eq_true q))) ?_
                        refine Q.run zm0 2 (i' := 204) (ls' := [some (.ref 0), some (.ref 78), some (.ref 121), some (.ref 148), some (.int x4), g5, g6]) (st' := [.int 1, .int (sI s 0 (jN (x4 + 1))), .ref 78]) rfl ?_
                        exact dt0_204 hd ih hl  h
                    · rw [if_neg hc88] at h
                      by_cases hc92 : ((sI s 0 (jN x4)) &&& 15) = 8
                      · rw [if_pos hc92] at h
                        refine Q.map (A.ts (gI_of zm0 (e := (40, 80, .tableswitch 711 0 15 #[80, 108, 119, 163, 188, 213, 253, 326, 406, 431, 471, 499, 551, 603, 643, 671], [457, 25, 43, 48, 73, 89, 105, 133, 189, 245, 261, 289, 307, 345, 383, 411, 429])) rfl) (t := 245) (by rw [hc92] <;> decide)) ?_
                        refine Q.run zm0 5 (i' := 250) (ls' := [some (.ref 0), some (.ref 78), some (.ref 121), some (.ref 148), some (.int x4), g5, g6]) (st' := [.int (x4 + 1), .ref 0, .ref 78]) rfl ?_
                        obtain ⟨hc93, h⟩ := ite_so h
                        refine Q.map (A.ia (gI_of zm0 (e := (452, 1, .iaload, [])) rfl) (hl.lt (a := 0) (by decide)) hl.t0 hc93) ?_
                        obtain ⟨r97, s96, hc95, h⟩ := bv_so h
                        have hq94 : Q 0 sio tt cc d 8 0 [some (.ref 78), some (.int (sI s 0 (jN (x4 + 1)))), none] [] s (.inl (some (.int r97)), s96) := (dt8 (by omega) hl  hc95).w
                        refine Q.callI (gC_st zm0 (show zM0.2.2.2.2.2[251]? = some (453, 3, .invokestatic 108, [0, 8, 2]) from rfl) zm8 (show aC 2 [.int (sI s 0 (jN (x4 + 1))), .ref 78] 3 = some ([some (.ref 78), some (.int (sI s 0 (jN (x4 + 1)))), none], []) from rfl)) hq94 ?_
                        refine Q.run zm0 6 (i' := 258) (ls' := [some (.ref 0), some (.ref 78), some (.ref 121), some (.ref 148), some (.int x4), some (.int r97), g6]) (st' := [.int (x4 + 1), .ref 0, .ref 121]) rfl ?_
                        obtain ⟨hc98, h⟩ := ite_so h
                        refine Q.map (A.ia (gI_of zm0 (e := (464, 1, .iaload, [])) rfl) (hq94.1.lt (a := 0) (by decide)) hq94.1.t0 hc98) ?_
                        obtain ⟨s101, hc100, h⟩ := bu_so h
                        have hq99 : Q 0 sio tt cc d 231 0 [some (.ref 121), some (.int (sI s96 0 (jN (x4 + 1))))] [] s96 (.inl none, s101) := (dt231 (by omega) hq94.1  hc100).w
                        refine Q.callV (gC_vi zm0 (show zM0.2.2.2.2.2[259]? = some (465, 3, .invokevirtual 110, [0, 231, 1, 9]) from rfl) zm231 (hq94.1.lt (a := 121) (by decide)) (hq94.1.T (a := 121) (p := (9, 45)) 43 rfl rfl) rfl (show aCr 1 121 [.int (sI s96 0 (jN (x4 + 1))), .ref 121] 2 = some ([some (.ref 121), some (.int (sI s96 0 (jN (x4 + 1))))], []) from rfl)) hq99 ?_
                        refine Q.run zm0 1 (i' := 457) (ls' := [some (.ref 0), some (.ref 78), some (.ref 121), some (.ref 148), some (.int x4), some (.int r97), g6]) (st' := []) rfl ?_
                        exact dt0_457 hd ih hq99.1  h
                      · rw [if_neg hc92] at h
                        by_cases hc102 : ((sI s 0 (jN x4)) &&& 15) = 9
                        · rw [if_pos hc102] at h
                          refine Q.map (A.ts (gI_of zm0 (e := (40, 80, .tableswitch 711 0 15 #[80, 108, 119, 163, 188, 213, 253, 326, 406, 431, 471, 499, 551, 603, 643, 671], [457, 25, 43, 48, 73, 89, 105, 133, 189, 245, 261, 289, 307, 345, 383, 411, 429])) rfl) (t := 261) (by rw [hc102] <;> decide)) ?_
                          refine Q.run zm0 5 (i' := 266) (ls' := [some (.ref 0), some (.ref 78), some (.ref 121), some (.ref 148), some (.int x4), g5, g6]) (st' := [.int (x4 + 1), .ref 0, .ref 78]) rfl ?_
                          obtain ⟨hc103, h⟩ := ite_so h
                          refine Q.map (A.ia (gI_of zm0 (e := (477, 1, .iaload, [])) rfl) (hl.lt (a := 0) (by decide)) hl.t0 hc103) ?_
                          refine Q.run zm0 4 (i' := 271) (ls' := [some (.ref 0), some (.ref 78), some (.ref 121), some (.ref 148), some (.int x4), g5, g6]) (st' := [.int (x4 + 2), .ref 0, .int (sI s 0 (jN (x4 + 1))), .ref 78]) rfl ?_
                          obtain ⟨hc104, h⟩ := ite_so h
                          refine Q.map (A.ia (gI_of zm0 (e := (483, 1, .iaload, [])) rfl) (hl.lt (a := 0) (by decide)) hl.t0 hc104) ?_
                          refine Q.run zm0 1 (i' := 273) (ls' := [some (.ref 0), some (.ref 78), some (.ref 121), some (.ref 148), some (.int x4), g5, g6]) (st' := [.ref 148, .int (sI s 0 (jN (x4 + 2))), .int (sI s 0 (jN (x4 + 1))), .ref 78]) rfl ?_
                          obtain ⟨r108, s107, hc106, h⟩ := bv_so h
                          have hq105 : Q 0 sio tt cc d 9 0 [some (.ref 78), some (.int (sI s 0 (jN (x4 + 1)))), some (.int (sI s 0 (jN (x4 + 2)))), some (.ref 148), none] [] s (.inl (some (.int r108)), s107) := (dt9 (by omega) hl  hc106).w
                          refine Q.callI (gC_st zm0 (show zM0.2.2.2.2.2[273]? = some (485, 3, .invokestatic 111, [0, 9, 4]) from rfl) zm9 (show aC 4 [.ref 148, .int (sI s 0 (jN (x4 + 2))), .int (sI s 0 (jN (x4 + 1))), .ref 78] 5 = some ([some (.ref 78), some (.int (sI s 0 (jN (x4 + 1)))), some (.int (sI s 0 (jN (x4 + 2)))), some (.ref 148), none], []) from rfl)) hq105 ?_
                          refine Q.run zm0 6 (i' := 280) (ls' := [some (.ref 0), some (.ref 78), some (.ref 121), some (.ref 148), some (.int x4), some (.int r108), g6]) (st' := [.int (x4 + 1), .ref 0, .ref 121]) rfl ?_
                          obtain ⟨hc109, h⟩ := ite_so h
                          refine Q.map (A.ia (gI_of zm0 (e := (496, 1, .iaload, [])) rfl) (hq105.1.lt (a := 0) (by decide)) hq105.1.t0 hc109) ?_
                          refine Q.run zm0 4 (i' := 285) (ls' := [some (.ref 0), some (.ref 78), some (.ref 121), some (.ref 148), some (.int x4), some (.int r108), g6]) (st' := [.int (x4 + 2), .ref 0, .int (sI s107 0 (jN (x4 + 1))), .ref 121]) rfl ?_
                          obtain ⟨hc110, h⟩ := ite_so h
                          refine Q.map (A.ia (gI_of zm0 (e := (502, 1, .iaload, [])) rfl) (hq105.1.lt (a := 0) (by decide)) hq105.1.t0 hc110) ?_
                          obtain ⟨r114, s113, hc112, h⟩ := bv_so h
                          have hq111 : Q 0 sio tt cc d 232 0 [some (.ref 121), some (.int (sI s107 0 (jN (x4 + 1)))), some (.int (sI s107 0 (jN (x4 + 2))))] [] s107 (.inl (some (.int r114)), s113) := (dt232 (by omega) hq105.1  hc112).w
                          refine Q.callI (gC_vi zm0 (show zM0.2.2.2.2.2[286]? = some (503, 3, .invokevirtual 113, [0, 232, 2, 9]) from rfl) zm232 (hq105.1.lt (a := 121) (by decide)) (hq105.1.T (a := 121) (p := (9, 45)) 43 rfl rfl) rfl (show aCr 2 121 [.int (sI s107 0 (jN (x4 + 2))), .int (sI s107 0 (jN (x4 + 1))), .ref 121] 3 = some ([some (.ref 121), some (.int (sI s107 0 (jN (x4 + 1)))), some (.int (sI s107 0 (jN (x4 + 2))))], []) from rfl)) hq111 ?_
                          refine Q.run zm0 2 (i' := 457) (ls' := [some (.ref 0), some (.ref 78), some (.ref 121), some (.ref 148), some (.int x4), some (.int r108), some (.int r114)]) (st' := []) rfl ?_
                          exact dt0_457 hd ih hq111.1  h
                        · rw [if_neg hc102] at h
                          by_cases hc115 : ((sI s 0 (jN x4)) &&& 15) = 10
                          · rw [if_pos hc115] at h
                            refine Q.map (A.ts (gI_of zm0 (e := (40, 80, .tableswitch 711 0 15 #[80, 108, 119, 163, 188, 213, 253, 326, 406, 431, 471, 499, 551, 603, 643, 671], [457, 25, 43, 48, 73, 89, 105, 133, 189, 245, 261, 289, 307, 345, 383, 411, 429])) rfl) (t := 289) (by rw [hc115] <;> decide)) ?_
                            refine Q.run zm0 5 (i' := 294) (ls' := [some (.ref 0), some (.ref 78), some (.ref 121), some (.ref 148), some (.int x4), g5, g6]) (st' := [.int (x4 + 1), .ref 0, .ref 78]) rfl ?_
                            obtain ⟨hc116, h⟩ := ite_so h
                            refine Q.map (A.ia (gI_of zm0 (e := (517, 1, .iaload, [])) rfl) (hl.lt (a := 0) (by decide)) hl.t0 hc116) ?_
                            refine Q.run zm0 1 (i' := 296) (ls' := [some (.ref 0), some (.ref 78), some (.ref 121), some (.ref 148), some (.int x4), g5, g6]) (st' := [.ref 148, .int (sI s 0 (jN (x4 + 1))), .ref 78]) rfl ?_
                            obtain ⟨r120, s119, hc118, h⟩ := bv_so h
                            have hq117 : Q 0 sio tt cc d 10 0 [some (.ref 78), some (.int (sI s 0 (jN (x4 + 1)))), some (.ref 148), none] [] s (.inl (some (.int r120)), s119) := (dt10 (by omega) hl  hc118).w
                            refine Q.callI (gC_st zm0 (show zM0.2.2.2.2.2[296]? = some (519, 3, .invokestatic 114, [0, 10, 3]) from rfl) zm10 (show aC 3 [.ref 148, .int (sI s 0 (jN (x4 + 1))), .ref 78] 4 = some ([some (.ref 78), some (.int (sI s 0 (jN (x4 + 1)))), some (.ref 148), none], []) from rfl)) hq117 ?_
                            refine Q.run zm0 6 (i' := 303) (ls' := [some (.ref 0), some (.ref 78), some (.ref 121), some (.ref 148), some (.int x4), some (.int r120), g6]) (st' := [.int (x4 + 1), .ref 0, .ref 121]) rfl ?_
                            obtain ⟨hc121, h⟩ := ite_so h
                            refine Q.map (A.ia (gI_of zm0 (e := (530, 1, .iaload, [])) rfl) (hq117.1.lt (a := 0) (by decide)) hq117.1.t0 hc121) ?_
                            obtain ⟨r125, s124, hc123, h⟩ := bv_so h
                            have hq122 : Q 0 sio tt cc d 243 0 [some (.ref 121), some (.int (sI s119 0 (jN (x4 + 1))))] [] s119 (.inl (some (.int r125)), s124) := (dt243 (by omega) hq117.1  hc123).w
                            refine Q.callI (gC_vi zm0 (show zM0.2.2.2.2.2[304]? = some (531, 3, .invokevirtual 116, [0, 243, 1, 9]) from rfl) zm243 (hq117.1.lt (a := 121) (by decide)) (hq117.1.T (a := 121) (p := (9, 45)) 43 rfl rfl) rfl (show aCr 1 121 [.int (sI s119 0 (jN (x4 + 1))), .ref 121] 2 = some ([some (.ref 121), some (.int (sI s119 0 (jN (x4 + 1))))], []) from rfl)) hq122 ?_
                            refine Q.run zm0 2 (i' := 457) (ls' := [some (.ref 0), some (.ref 78), some (.ref 121), some (.ref 148), some (.int x4), some (.int r120), some (.int r125)]) (st' := []) rfl ?_
                            exact dt0_457 hd ih hq122.1  h
                          · rw [if_neg hc115] at h
                            by_cases hc126 : ((sI s 0 (jN x4)) &&& 15) = 11
                            · rw [if_pos hc126] at h
                              refine Q.map (A.ts (gI_of zm0 (e := (40, 80, .tableswitch 711 0 15 #[80, 108, 119, 163, 188, 213, 253, 326, 406, 431, 471, 499, 551, 603, 643, 671], [457, 25, 43, 48, 73, 89, 105, 133, 189, 245, 261, 289, 307, 345, 383, 411, 429])) rfl) (t := 307) (by rw [hc126] <;> decide)) ?_
                              refine Q.run zm0 5 (i' := 312) (ls' := [some (.ref 0), some (.ref 78), some (.ref 121), some (.ref 148), some (.int x4), g5, g6]) (st' := [.int (x4 + 1), .ref 0, .ref 78]) rfl ?_
                              obtain ⟨hc127, h⟩ := ite_so h
                              refine Q.map (A.ia (gI_of zm0 (e := (545, 1, .iaload, [])) rfl) (hl.lt (a := 0) (by decide)) hl.t0 hc127) ?_
                              refine Q.run zm0 4 (i' := 317) (ls' := [some (.ref 0), some (.ref 78), some (.ref 121), some (.ref 148), some (.int x4), g5, g6]) (st' := [.int (x4 + 2), .ref 0, .int (sI s 0 (jN (x4 + 1))), .ref 78]) rfl ?_
                              obtain ⟨hc128, h⟩ := ite_so h
                              refine Q.map (A.ia (gI_of zm0 (e := (551, 1, .iaload, [])) rfl) (hl.lt (a := 0) (by decide)) hl.t0 hc128) ?_
                              refine Q.run zm0 4 (i' := 322) (ls' := [some (.ref 0), some (.ref 78), some (.ref 121), some (.ref 148), some (.int x4), g5, g6]) (st' := [.int (x4 + 3), .ref 0, .int (sI s 0 (jN (x4 + 2))), .int (sI s 0 (jN (x4 + 1))), .ref 78]) rfl ?_
                              obtain ⟨hc129, h⟩ := ite_so h
                              refine Q.map (A.ia (gI_of zm0 (e := (557, 1, .iaload, [])) rfl) (hl.lt (a := 0) (by decide)) hl.t0 hc129) ?_
                              refine Q.run zm0 1 (i' := 324) (ls' := [some (.ref 0), some (.ref 78), some (.ref 121), some (.ref 148), some (.int x4), g5, g6]) (st' := [.ref 148, .int (sI s 0 (jN (x4 + 3))), .int (sI s 0 (jN (x4 + 2))), .int (sI s 0 (jN (x4 + 1))), .ref 78]) rfl ?_
                              obtain ⟨r133, s132, hc131, h⟩ := bv_so h
                              have hq130 : Q 0 sio tt cc d 11 0 [some (.ref 78), some (.int (sI s 0 (jN (x4 + 1)))), some (.int (sI s 0 (jN (x4 + 2)))), some (.int (sI s 0 (jN (x4 + 3)))), some (.ref 148), none] [] s (.inl (some (.int r133)), s132) := (dt11 (by omega) hl  hc131).w
                              refine Q.callI (gC_st zm0 (show zM0.2.2.2.2.2[324]? = some (559, 3, .invokestatic 117, [0, 11, 5]) from rfl) zm11 (show aC 5 [.ref 148, .int (sI s 0 (jN (x4 + 3))), .int (sI s 0 (jN (x4 + 2))), .int (sI s 0 (jN (x4 + 1))), .ref 78] 6 = some ([some (.ref 78), some (.int (sI s 0 (jN (x4 + 1)))), some (.int (sI s 0 (jN (x4 + 2)))), some (.int (sI s 0 (jN (x4 + 3)))), some (.ref 148), none], []) from rfl)) hq130 ?_
                              refine Q.run zm0 6 (i' := 331) (ls' := [some (.ref 0), some (.ref 78), some (.ref 121), some (.ref 148), some (.int x4), some (.int r133), g6]) (st' := [.int (x4 + 1), .ref 0, .ref 121]) rfl ?_
                              obtain ⟨hc134, h⟩ := ite_so h
                              refine Q.map (A.ia (gI_of zm0 (e := (570, 1, .iaload, [])) rfl) (hq130.1.lt (a := 0) (by decide)) hq130.1.t0 hc134) ?_
                              refine Q.run zm0 4 (i' := 336) (ls' := [some (.ref 0), some (.ref 78), some (.ref 121), some (.ref 148), some (.int x4), some (.int r133), g6]) (st' := [.int (x4 + 2), .ref 0, .int (sI s132 0 (jN (x4 + 1))), .ref 121]) rfl ?_
                              obtain ⟨hc135, h⟩ := ite_so h
                              refine Q.map (A.ia (gI_of zm0 (e := (576, 1, .iaload, [])) rfl) (hq130.1.lt (a := 0) (by decide)) hq130.1.t0 hc135) ?_
                              refine Q.run zm0 4 (i' := 341) (ls' := [some (.ref 0), some (.ref 78), some (.ref 121), some (.ref 148), some (.int x4), some (.int r133), g6]) (st' := [.int (x4 + 3), .ref 0, .int (sI s132 0 (jN (x4 + 2))), .int (sI s132 0 (jN (x4 + 1))), .ref 121]) rfl ?_
                              obtain ⟨hc136, h⟩ := ite_so h
                              refine Q.map (A.ia (gI_of zm0 (e := (582, 1, .iaload, [])) rfl) (hq130.1.lt (a := 0) (by decide)) hq130.1.t0 hc136) ?_
                              obtain ⟨r140, s139, hc138, h⟩ := bv_so h
                              have hq137 : Q 0 sio tt cc d 244 0 [some (.ref 121), some (.int (sI s132 0 (jN (x4 + 1)))), some (.int (sI s132 0 (jN (x4 + 2)))), some (.int (sI s132 0 (jN (x4 + 3))))] [] s132 (.inl (some (.int r140)), s139) := (dt244 (by omega) hq130.1  hc138).w
                              refine Q.callI (gC_vi zm0 (show zM0.2.2.2.2.2[342]? = some (583, 3, .invokevirtual 120, [0, 244, 3, 9]) from rfl) zm244 (hq130.1.lt (a := 121) (by decide)) (hq130.1.T (a := 121) (p := (9, 45)) 43 rfl rfl) rfl (show aCr 3 121 [.int (sI s132 0 (jN (x4 + 3))), .int (sI s132 0 (jN (x4 + 2))), .int (sI s132 0 (jN (x4 + 1))), .ref 121] 4 = some ([some (.ref 121), some (.int (sI s132 0 (jN (x4 + 1)))), some (.int (sI s132 0 (jN (x4 + 2)))), some (.int (sI s132 0 (jN (x4 + 3))))], []) from rfl)) hq137 ?_
                              refine Q.run zm0 2 (i' := 457) (ls' := [some (.ref 0), some (.ref 78), some (.ref 121), some (.ref 148), some (.int x4), some (.int r133), some (.int r140)]) (st' := []) rfl ?_
                              exact dt0_457 hd ih hq137.1  h
                            · rw [if_neg hc126] at h
                              by_cases hc141 : ((sI s 0 (jN x4)) &&& 15) = 12
                              · rw [if_pos hc141] at h
                                refine Q.map (A.ts (gI_of zm0 (e := (40, 80, .tableswitch 711 0 15 #[80, 108, 119, 163, 188, 213, 253, 326, 406, 431, 471, 499, 551, 603, 643, 671], [457, 25, 43, 48, 73, 89, 105, 133, 189, 245, 261, 289, 307, 345, 383, 411, 429])) rfl) (t := 345) (by rw [hc141] <;> decide)) ?_
                                refine Q.run zm0 5 (i' := 350) (ls' := [some (.ref 0), some (.ref 78), some (.ref 121), some (.ref 148), some (.int x4), g5, g6]) (st' := [.int (x4 + 1), .ref 0, .ref 78]) rfl ?_
                                obtain ⟨hc142, h⟩ := ite_so h
                                refine Q.map (A.ia (gI_of zm0 (e := (597, 1, .iaload, [])) rfl) (hl.lt (a := 0) (by decide)) hl.t0 hc142) ?_
                                refine Q.run zm0 4 (i' := 355) (ls' := [some (.ref 0), some (.ref 78), some (.ref 121), some (.ref 148), some (.int x4), g5, g6]) (st' := [.int (x4 + 2), .ref 0, .int (sI s 0 (jN (x4 + 1))), .ref 78]) rfl ?_
                                obtain ⟨hc143, h⟩ := ite_so h
                                refine Q.map (A.ia (gI_of zm0 (e := (603, 1, .iaload, [])) rfl) (hl.lt (a := 0) (by decide)) hl.t0 hc143) ?_
                                refine Q.run zm0 4 (i' := 360) (ls' := [some (.ref 0), some (.ref 78), some (.ref 121), some (.ref 148), some (.int x4), g5, g6]) (st' := [.int (x4 + 3), .ref 0, .int (sI s 0 (jN (x4 + 2))), .int (sI s 0 (jN (x4 + 1))), .ref 78]) rfl ?_
                                obtain ⟨hc144, h⟩ := ite_so h
                                refine Q.map (A.ia (gI_of zm0 (e := (609, 1, .iaload, [])) rfl) (hl.lt (a := 0) (by decide)) hl.t0 hc144) ?_
                                refine Q.run zm0 1 (i' := 362) (ls' := [some (.ref 0), some (.ref 78), some (.ref 121), some (.ref 148), some (.int x4), g5, g6]) (st' := [.ref 148, .int (sI s 0 (jN (x4 + 3))), .int (sI s 0 (jN (x4 + 2))), .int (sI s 0 (jN (x4 + 1))), .ref 78]) rfl ?_
                                obtain ⟨r148, s147, hc146, h⟩ := bv_so h
                                have hq145 : Q 0 sio tt cc d 12 0 [some (.ref 78), some (.int (sI s 0 (jN (x4 + 1)))), some (.int (sI s 0 (jN (x4 + 2)))), some (.int (sI s 0 (jN (x4 + 3)))), some (.ref 148), none] [] s (.inl (some (.int r148)), s147) := (dt12 (by omega) hl  hc146).w
                                refine Q.callI (gC_st zm0 (show zM0.2.2.2.2.2[362]? = some (611, 3, .invokestatic 121, [0, 12, 5]) from rfl) zm12 (show aC 5 [.ref 148, .int (sI s 0 (jN (x4 + 3))), .int (sI s 0 (jN (x4 + 2))), .int (sI s 0 (jN (x4 + 1))), .ref 78] 6 = some ([some (.ref 78), some (.int (sI s 0 (jN (x4 + 1)))), some (.int (sI s 0 (jN (x4 + 2)))), some (.int (sI s 0 (jN (x4 + 3)))), some (.ref 148), none], []) from rfl)) hq145 ?_
                                refine Q.run zm0 6 (i' := 369) (ls' := [some (.ref 0), some (.ref 78), some (.ref 121), some (.ref 148), some (.int x4), some (.int r148), g6]) (st' := [.int (x4 + 1), .ref 0, .ref 121]) rfl ?_
                                obtain ⟨hc149, h⟩ := ite_so h
                                refine Q.map (A.ia (gI_of zm0 (e := (622, 1, .iaload, [])) rfl) (hq145.1.lt (a := 0) (by decide)) hq145.1.t0 hc149) ?_
                                refine Q.run zm0 4 (i' := 374) (ls' := [some (.ref 0), some (.ref 78), some (.ref 121), some (.ref 148), some (.int x4), some (.int r148), g6]) (st' := [.int (x4 + 2), .ref 0, .int (sI s147 0 (jN (x4 + 1))), .ref 121]) rfl ?_
                                obtain ⟨hc150, h⟩ := ite_so h
                                refine Q.map (A.ia (gI_of zm0 (e := (628, 1, .iaload, [])) rfl) (hq145.1.lt (a := 0) (by decide)) hq145.1.t0 hc150) ?_
                                refine Q.run zm0 4 (i' := 379) (ls' := [some (.ref 0), some (.ref 78), some (.ref 121), some (.ref 148), some (.int x4), some (.int r148), g6]) (st' := [.int (x4 + 3), .ref 0, .int (sI s147 0 (jN (x4 + 2))), .int (sI s147 0 (jN (x4 + 1))), .ref 121]) rfl ?_
                                obtain ⟨hc151, h⟩ := ite_so h
                                refine Q.map (A.ia (gI_of zm0 (e := (634, 1, .iaload, [])) rfl) (hq145.1.lt (a := 0) (by decide)) hq145.1.t0 hc151) ?_
                                obtain ⟨r155, s154, hc153, h⟩ := bv_so h
                                have hq152 : Q 0 sio tt cc d 246 0 [some (.ref 121), some (.int (sI s147 0 (jN (x4 + 1)))), some (.int (sI s147 0 (jN (x4 + 2)))), some (.int (sI s147 0 (jN (x4 + 3))))] [] s147 (.inl (some (.int r155)), s154) := (dt246 (by omega) hq145.1  hc153).w
                                refine Q.callI (gC_vi zm0 (show zM0.2.2.2.2.2[380]? = some (635, 3, .invokevirtual 123, [0, 246, 3, 9]) from rfl) zm246 (hq145.1.lt (a := 121) (by decide)) (hq145.1.T (a := 121) (p := (9, 45)) 43 rfl rfl) rfl (show aCr 3 121 [.int (sI s147 0 (jN (x4 + 3))), .int (sI s147 0 (jN (x4 + 2))), .int (sI s147 0 (jN (x4 + 1))), .ref 121] 4 = some ([some (.ref 121), some (.int (sI s147 0 (jN (x4 + 1)))), some (.int (sI s147 0 (jN (x4 + 2)))), some (.int (sI s147 0 (jN (x4 + 3))))], []) from rfl)) hq152 ?_
                                refine Q.run zm0 2 (i' := 457) (ls' := [some (.ref 0), some (.ref 78), some (.ref 121), some (.ref 148), some (.int x4), some (.int r148), some (.int r155)]) (st' := []) rfl ?_
                                exact dt0_457 hd ih hq152.1  h
                              · rw [if_neg hc141] at h
                                by_cases hc156 : ((sI s 0 (jN x4)) &&& 15) = 13
                                · rw [if_pos hc156] at h
                                  refine Q.map (A.ts (gI_of zm0 (e := (40, 80, .tableswitch 711 0 15 #[80, 108, 119, 163, 188, 213, 253, 326, 406, 431, 471, 499, 551, 603, 643, 671], [457, 25, 43, 48, 73, 89, 105, 133, 189, 245, 261, 289, 307, 345, 383, 411, 429])) rfl) (t := 383) (by rw [hc156] <;> decide)) ?_
                                  refine Q.run zm0 5 (i' := 388) (ls' := [some (.ref 0), some (.ref 78), some (.ref 121), some (.ref 148), some (.int x4), g5, g6]) (st' := [.int (x4 + 1), .ref 0, .ref 78]) rfl ?_
                                  obtain ⟨hc157, h⟩ := ite_so h
                                  refine Q.map (A.ia (gI_of zm0 (e := (649, 1, .iaload, [])) rfl) (hl.lt (a := 0) (by decide)) hl.t0 hc157) ?_
                                  refine Q.run zm0 4 (i' := 393) (ls' := [some (.ref 0), some (.ref 78), some (.ref 121), some (.ref 148), some (.int x4), g5, g6]) (st' := [.int (x4 + 2), .ref 0, .int (sI s 0 (jN (x4 + 1))), .ref 78]) rfl ?_
                                  obtain ⟨hc158, h⟩ := ite_so h
                                  refine Q.map (A.ia (gI_of zm0 (e := (655, 1, .iaload, [])) rfl) (hl.lt (a := 0) (by decide)) hl.t0 hc158) ?_
                                  refine Q.run zm0 1 (i' := 395) (ls' := [some (.ref 0), some (.ref 78), some (.ref 121), some (.ref 148), some (.int x4), g5, g6]) (st' := [.ref 148, .int (sI s 0 (jN (x4 + 2))), .int (sI s 0 (jN (x4 + 1))), .ref 78]) rfl ?_
                                  obtain ⟨r162, s161, hc160, h⟩ := bv_so h
                                  have hq159 : Q 0 sio tt cc d 13 0 [some (.ref 78), some (.int (sI s 0 (jN (x4 + 1)))), some (.int (sI s 0 (jN (x4 + 2)))), some (.ref 148), none] [] s (.inl (some (.int r162)), s161) := (dt13 (by omega) hl  hc160).w
                                  refine Q.callI (gC_st zm0 (show zM0.2.2.2.2.2[395]? = some (657, 3, .invokestatic 124, [0, 13, 4]) from rfl) zm13 (show aC 4 [.ref 148, .int (sI s 0 (jN (x4 + 2))), .int (sI s 0 (jN (x4 + 1))), .ref 78] 5 = some ([some (.ref 78), some (.int (sI s 0 (jN (x4 + 1)))), some (.int (sI s 0 (jN (x4 + 2)))), some (.ref 148), none], []) from rfl)) hq159 ?_
                                  refine Q.run zm0 6 (i' := 402) (ls' := [some (.ref 0), some (.ref 78), some (.ref 121), some (.ref 148), some (.int x4), some (.int r162), g6]) (st' := [.int (x4 + 1), .ref 0, .ref 121]) rfl ?_
                                  obtain ⟨hc163, h⟩ := ite_so h
                                  refine Q.map (A.ia (gI_of zm0 (e := (668, 1, .iaload, [])) rfl) (hq159.1.lt (a := 0) (by decide)) hq159.1.t0 hc163) ?_
                                  refine Q.run zm0 4 (i' := 407) (ls' := [some (.ref 0), some (.ref 78), some (.ref 121), some (.ref 148), some (.int x4), some (.int r162), g6]) (st' := [.int (x4 + 2), .ref 0, .int (sI s161 0 (jN (x4 + 1))), .ref 121]) rfl ?_
                                  obtain ⟨hc164, h⟩ := ite_so h
                                  refine Q.map (A.ia (gI_of zm0 (e := (674, 1, .iaload, [])) rfl) (hq159.1.lt (a := 0) (by decide)) hq159.1.t0 hc164) ?_
                                  obtain ⟨r168, s167, hc166, h⟩ := bv_so h
                                  have hq165 : Q 0 sio tt cc d 248 0 [some (.ref 121), some (.int (sI s161 0 (jN (x4 + 1)))), some (.int (sI s161 0 (jN (x4 + 2)))), none, none, none, none, none] [] s161 (.inl (some (.int r168)), s167) := (dt248 (by omega) hq159.1  hc166).w
                                  refine Q.callI (gC_vi zm0 (show zM0.2.2.2.2.2[408]? = some (675, 3, .invokevirtual 126, [0, 248, 2, 9]) from rfl) zm248 (hq159.1.lt (a := 121) (by decide)) (hq159.1.T (a := 121) (p := (9, 45)) 43 rfl rfl) rfl (show aCr 2 121 [.int (sI s161 0 (jN (x4 + 2))), .int (sI s161 0 (jN (x4 + 1))), .ref 121] 8 = some ([some (.ref 121), some (.int (sI s161 0 (jN (x4 + 1)))), some (.int (sI s161 0 (jN (x4 + 2)))), none, none, none, none, none], []) from rfl)) hq165 ?_
                                  refine Q.run zm0 2 (i' := 457) (ls' := [some (.ref 0), some (.ref 78), some (.ref 121), some (.ref 148), some (.int x4), some (.int r162), some (.int r168)]) (st' := []) rfl ?_
                                  exact dt0_457 hd ih hq165.1  h
                                · rw [if_neg hc156] at h
                                  by_cases hc169 : ((sI s 0 (jN x4)) &&& 15) = 14
                                  · rw [if_pos hc169] at h
                                    refine Q.map (A.ts (gI_of zm0 (e := (40, 80, .tableswitch 711 0 15 #[80, 108, 119, 163, 188, 213, 253, 326, 406, 431, 471, 499, 551, 603, 643, 671], [457, 25, 43, 48, 73, 89, 105, 133, 189, 245, 261, 289, 307, 345, 383, 411, 429])) rfl) (t := 411) (by rw [hc169] <;> decide)) ?_
                                    refine Q.run zm0 5 (i' := 416) (ls' := [some (.ref 0), some (.ref 78), some (.ref 121), some (.ref 148), some (.int x4), g5, g6]) (st' := [.int (x4 + 1), .ref 0, .ref 78]) rfl ?_
                                    obtain ⟨hc170, h⟩ := ite_so h
                                    refine Q.map (A.ia (gI_of zm0 (e := (689, 1, .iaload, [])) rfl) (hl.lt (a := 0) (by decide)) hl.t0 hc170) ?_
                                    refine Q.run zm0 1 (i' := 418) (ls' := [some (.ref 0), some (.ref 78), some (.ref 121), some (.ref 148), some (.int x4), g5, g6]) (st' := [.ref 148, .int (sI s 0 (jN (x4 + 1))), .ref 78]) rfl ?_
                                    obtain ⟨r174, s173, hc172, h⟩ := bv_so h
                                    have hq171 : Q 0 sio tt cc d 14 0 [some (.ref 78), some (.int (sI s 0 (jN (x4 + 1)))), some (.ref 148), none] [] s (.inl (some (.int r174)), s173) := (dt14 (by omega) hl  hc172).w
                                    refine Q.callI (gC_st zm0 (show zM0.2.2.2.2.2[418]? = some (691, 3, .invokestatic 127, [0, 14, 3]) from rfl) zm14 (show aC 3 [.ref 148, .int (sI s 0 (jN (x4 + 1))), .ref 78] 4 = some ([some (.ref 78), some (.int (sI s 0 (jN (x4 + 1)))), some (.ref 148), none], []) from rfl)) hq171 ?_
                                    refine Q.run zm0 6 (i' := 425) (ls' := [some (.ref 0), some (.ref 78), some (.ref 121), some (.ref 148), some (.int x4), some (.int r174), g6]) (st' := [.int (x4 + 1), .ref 0, .ref 121]) rfl ?_
                                    obtain ⟨hc175, h⟩ := ite_so h
                                    refine Q.map (A.ia (gI_of zm0 (e := (702, 1, .iaload, [])) rfl) (hq171.1.lt (a := 0) (by decide)) hq171.1.t0 hc175) ?_
                                    obtain ⟨r179, s178, hc177, h⟩ := bv_so h
                                    have hq176 : Q 0 sio tt cc d 249 0 [some (.ref 121), some (.int (sI s173 0 (jN (x4 + 1)))), none, none] [] s173 (.inl (some (.int r179)), s178) := (dt249 (by omega) hq171.1  hc177).w
                                    refine Q.callI (gC_vi zm0 (show zM0.2.2.2.2.2[426]? = some (703, 3, .invokevirtual 129, [0, 249, 1, 9]) from rfl) zm249 (hq171.1.lt (a := 121) (by decide)) (hq171.1.T (a := 121) (p := (9, 45)) 43 rfl rfl) rfl (show aCr 1 121 [.int (sI s173 0 (jN (x4 + 1))), .ref 121] 4 = some ([some (.ref 121), some (.int (sI s173 0 (jN (x4 + 1)))), none, none], []) from rfl)) hq176 ?_
                                    refine Q.run zm0 2 (i' := 457) (ls' := [some (.ref 0), some (.ref 78), some (.ref 121), some (.ref 148), some (.int x4), some (.int r174), some (.int r179)]) (st' := []) rfl ?_
                                    exact dt0_457 hd ih hq176.1  h
                                  · rw [if_neg hc169] at h
                                    by_cases hc180 : ((sI s 0 (jN x4)) &&& 15) = 15
                                    · rw [if_pos hc180] at h
                                      refine Q.map (A.ts (gI_of zm0 (e := (40, 80, .tableswitch 711 0 15 #[80, 108, 119, 163, 188, 213, 253, 326, 406, 431, 471, 499, 551, 603, 643, 671], [457, 25, 43, 48, 73, 89, 105, 133, 189, 245, 261, 289, 307, 345, 383, 411, 429])) rfl) (t := 429) (by rw [hc180] <;> decide)) ?_
                                      refine Q.run zm0 5 (i' := 434) (ls' := [some (.ref 0), some (.ref 78), some (.ref 121), some (.ref 148), some (.int x4), g5, g6]) (st' := [.int (x4 + 1), .ref 0, .ref 78]) rfl ?_
                                      obtain ⟨hc181, h⟩ := ite_so h
                                      refine Q.map (A.ia (gI_of zm0 (e := (717, 1, .iaload, [])) rfl) (hl.lt (a := 0) (by decide)) hl.t0 hc181) ?_
                                      refine Q.run zm0 4 (i' := 439) (ls' := [some (.ref 0), some (.ref 78), some (.ref 121), some (.ref 148), some (.int x4), g5, g6]) (st' := [.int (x4 + 2), .ref 0, .int (sI s 0 (jN (x4 + 1))), .ref 78]) rfl ?_
                                      obtain ⟨hc182, h⟩ := ite_so h
                                      refine Q.map (A.ia (gI_of zm0 (e := (723, 1, .iaload, [])) rfl) (hl.lt (a := 0) (by decide)) hl.t0 hc182) ?_
                                      refine Q.run zm0 1 (i' := 441) (ls' := [some (.ref 0), some (.ref 78), some (.ref 121), some (.ref 148), some (.int x4), g5, g6]) (st' := [.ref 148, .int (sI s 0 (jN (x4 + 2))), .int (sI s 0 (jN (x4 + 1))), .ref 78]) rfl ?_
                                      obtain ⟨r186, s185, hc184, h⟩ := bv_so h
                                      have hq183 : Q 0 sio tt cc d 15 0 [some (.ref 78), some (.int (sI s 0 (jN (x4 + 1)))), some (.int (sI s 0 (jN (x4 + 2)))), some (.ref 148), none] [] s (.inl (some (.int r186)), s185) := (dt15 (by omega) hl  hc184).w
                                      refine Q.callI (gC_st zm0 (show zM0.2.2.2.2.2[441]? = some (725, 3, .invokestatic 130, [0, 15, 4]) from rfl) zm15 (show aC 4 [.ref 148, .int (sI s 0 (jN (x4 + 2))), .int (sI s 0 (jN (x4 + 1))), .ref 78] 5 = some ([some (.ref 78), some (.int (sI s 0 (jN (x4 + 1)))), some (.int (sI s 0 (jN (x4 + 2)))), some (.ref 148), none], []) from rfl)) hq183 ?_
                                      refine Q.run zm0 6 (i' := 448) (ls' := [some (.ref 0), some (.ref 78), some (.ref 121), some (.ref 148), some (.int x4), some (.int r186), g6]) (st' := [.int (x4 + 1), .ref 0, .ref 121]) rfl ?_
                                      obtain ⟨hc187, h⟩ := ite_so h
                                      refine Q.map (A.ia (gI_of zm0 (e := (736, 1, .iaload, [])) rfl) (hq183.1.lt (a := 0) (by decide)) hq183.1.t0 hc187) ?_
                                      refine Q.run zm0 4 (i' := 453) (ls' := [some (.ref 0), some (.ref 78), some (.ref 121), some (.ref 148), some (.int x4), some (.int r186), g6]) (st' := [.int (x4 + 2), .ref 0, .int (sI s185 0 (jN (x4 + 1))), .ref 121]) rfl ?_
                                      obtain ⟨hc188, h⟩ := ite_so h
                                      refine Q.map (A.ia (gI_of zm0 (e := (742, 1, .iaload, [])) rfl) (hq183.1.lt (a := 0) (by decide)) hq183.1.t0 hc188) ?_
                                      obtain ⟨r192, s191, hc190, h⟩ := bv_so h
                                      have hq189 : Q 0 sio tt cc d 250 0 [some (.ref 121), some (.int (sI s185 0 (jN (x4 + 1)))), some (.int (sI s185 0 (jN (x4 + 2))))] [] s185 (.inl (some (.int r192)), s191) := (dt250 (by omega) hq183.1  hc190).w
                                      refine Q.callI (gC_vi zm0 (show zM0.2.2.2.2.2[454]? = some (743, 3, .invokevirtual 132, [0, 250, 2, 9]) from rfl) zm250 (hq183.1.lt (a := 121) (by decide)) (hq183.1.T (a := 121) (p := (9, 45)) 43 rfl rfl) rfl (show aCr 2 121 [.int (sI s185 0 (jN (x4 + 2))), .int (sI s185 0 (jN (x4 + 1))), .ref 121] 3 = some ([some (.ref 121), some (.int (sI s185 0 (jN (x4 + 1)))), some (.int (sI s185 0 (jN (x4 + 2))))], []) from rfl)) hq189 ?_
                                      refine Q.run zm0 2 (i' := 457) (ls' := [some (.ref 0), some (.ref 78), some (.ref 121), some (.ref 148), some (.int x4), some (.int r186), some (.int r192)]) (st' := []) rfl ?_
                                      exact dt0_457 hd ih hq189.1  h
                                    · rw [if_neg hc180] at h
                                      refine Q.map (A.ts (gI_of zm0 (e := (40, 80, .tableswitch 711 0 15 #[80, 108, 119, 163, 188, 213, 253, 326, 406, 431, 471, 499, 551, 603, 643, 671], [457, 25, 43, 48, 73, 89, 105, 133, 189, 245, 261, 289, 307, 345, 383, 411, 429])) rfl) (t := 457) (by have := (show ((sI s 0 (jN x4)) &&& 15).toInt ≠ 0 ∧ ((sI s 0 (jN x4)) &&& 15).toInt ≠ 1 ∧ ((sI s 0 (jN x4)) &&& 15).toInt ≠ 2 ∧ ((sI s 0 (jN x4)) &&& 15).toInt ≠ 3 ∧ ((sI s 0 (jN x4)) &&& 15).toInt ≠ 4 ∧ ((sI s 0 (jN x4)) &&& 15).toInt ≠ 5 ∧ ((sI s 0 (jN x4)) &&& 15).toInt ≠ 6 ∧ ((sI s 0 (jN x4)) &&& 15).toInt ≠ 7 ∧ ((sI s 0 (jN x4)) &&& 15).toInt ≠ 8 ∧ ((sI s 0 (jN x4)) &&& 15).toInt ≠ 9 ∧ ((sI s 0 (jN x4)) &&& 15).toInt ≠ 10 ∧ ((sI s 0 (jN x4)) &&& 15).toInt ≠ 11 ∧ ((sI s 0 (jN x4)) &&& 15).toInt ≠ 12 ∧ ((sI s 0 (jN x4)) &&& 15).toInt ≠ 13 ∧ ((sI s 0 (jN x4)) &&& 15).toInt ≠ 14 ∧ ((sI s 0 (jN x4)) &&& 15).toInt ≠ 15 from ⟨i32_ne (n := 0) hc3 (by decide), i32_ne (n := 1) hc14 (by decide), i32_ne (n := 2) hc21 (by decide), i32_ne (n := 3) hc37 (by decide), i32_ne (n := 4) hc47 (by decide), i32_ne (n := 5) hc57 (by decide), i32_ne (n := 6) hc70 (by decide), i32_ne (n := 7) hc88 (by decide), i32_ne (n := 8) hc92 (by decide), i32_ne (n := 9) hc102 (by decide), i32_ne (n := 10) hc115 (by decide), i32_ne (n := 11) hc126 (by decide), i32_ne (n := 12) hc141 (by decide), i32_ne (n := 13) hc156 (by decide), i32_ne (n := 14) hc169 (by decide), i32_ne (n := 15) hc180 (by decide)⟩); rw [if_pos]; omega)) ?_
                                      exact dt0_457 hd ih hl  h
def dm0 (x4 : Int32) (s : aS) : Option (Int32 × aS) :=
  dm0_13 5000 x4 s
set_option maxRecDepth 100000 in
theorem dt0 {sio : Bool} {tt : Nat} {cc : Nat → Nat → Int32} {d : Nat} (hd : 1214 ≤ d) {x4 : Int32} {s : aS} (hl : Ly tt cc s) {o : Int32 × aS} (h : dm0  x4 s = some o) : Q 0 sio tt cc d 0 13 [some (.ref 0), some (.ref 78), some (.ref 121), some (.ref 148), some (.int x4), none, none] [] s (.inl (some (.int o.1)), o.2) := by
  unfold dm0 at h
  obtain ⟨d, rfl⟩ : ∃ e, d = e + 1 := ⟨d - 1, by omega⟩
  exact dt0_13 hd _ hl  h
