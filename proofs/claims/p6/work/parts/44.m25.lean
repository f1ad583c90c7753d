section
/-! 249 FormulaTreesModel.count(I)I -/
set_option maxRecDepth 100000 in
theorem zm249 : zP[249]? = some zM249 := rfl
def dm249_56 (k43 : Int32 → Int32 → aS → Option (Int32 × aS)) (x3 : Int32) (y0 : Int32) (s : aS) : Option (Int32 × aS) :=
  k43 y0 (x3 + 1) s
set_option maxRecDepth 100000 in
theorem dt249_56 {sio : Bool} {tt : Nat} {cc : Nat → Nat → Int32} {d : Nat} (hd : 0 ≤ d) {k43 : Int32 → Int32 → aS → Option (Int32 × aS)} (hk43 : ∀ {x2 : Int32} {x3 : Int32} {x1 : Int32} {s : aS}, Ly tt cc s → ∀ {o : Int32 × aS}, k43 x2 x3 s = some o → Q 2 sio tt cc d 249 43 [some (.ref 121), some (.int x1), some (.int x2), some (.int x3)] [] s (.inl (some (.int o.1)), o.2)) {x3 : Int32} {y0 : Int32} {x1 : Int32} {x2 : Int32} {s : aS} (hl : Ly tt cc s) {o : Int32 × aS} (h : dm249_56 k43 x3 y0 s = some o) : Q 2 sio tt cc d 249 56 [some (.ref 121), some (.int x1), some (.int x2), some (.int x3)] [.int y0] s (.inl (some (.int o.1)), o.2) := by
  unfold dm249_56 at h
  refine Q.run zm249 3 (i' := 43) (ls' := [some (.ref 121), some (.int x1), some (.int y0), some (.int (x3 + 1))]) (st' := []) rfl ?_
  exact hk43 hl  h
def dm249_43 : Nat → Int32 → Int32 → aS → Option (Int32 × aS)
  | 0, _, _, _ => none
  | n + 1, x2, x3, s =>
    if 8 ≤ x3 then
      some (x2, s)
    else
      if aB x3 8 then
        if (sI s 125 (jN x3)) = 0 then
          dm249_56 (dm249_43 n) x3 x2 s
        else
          dm249_56 (dm249_43 n) x3 (x2 + 1) s
      else none
set_option maxRecDepth 100000 in
theorem dt249_43 {sio : Bool} {tt : Nat} {cc : Nat → Nat → Int32} {d : Nat} (hd : 0 ≤ d) : ∀ (n : Nat) {x2 : Int32} {x3 : Int32} {x1 : Int32} {s : aS} (_ : Ly tt cc s) {o : Int32 × aS} (_ : dm249_43  n x2 x3 s = some o), Q 2 sio tt cc d 249 43 [some (.ref 121), some (.int x1), some (.int x2), some (.int x3)] [] s (.inl (some (.int o.1)), o.2) := by
  intro n
  induction n with
  | zero => intro x2 x3 x1 s hl o h; rw [dm249_43] at h; cases h
  | succ n ih =>
    intro x2 x3 x1 s hl o h
    rw [dm249_43] at h
    refine Q.run zm249 2 (i' := 45) (ls' := [some (.ref 121), some (.int x1), some (.int x2), some (.int x3)]) (st' := [.int 8, .int x3]) rfl ?_
    by_cases hc1 : 8 ≤ x3
    · rw [if_pos hc1] at h
      refine Q.map (A.bT (gI_of zm249 (e := (73, 3, .if_icmp .ge 26, [59])) rfl) (decide_eq_true hc1)) ?_
      refine Q.run zm249 1 (i' := 60) (ls' := [some (.ref 121), some (.int x1), some (.int x2), some (.int x3)]) (st' := [.int x2]) rfl ?_
      cases h
      exact Q.ret (A.ri zm249 (show zM249.2.2.2.2.2[60]? = some (100, 1, .ireturn, []) from rfl) rfl rfl) hl
    · rw [if_neg hc1] at h
      refine Q.map (A.bF (gI_of zm249 (e := (73, 3, .if_icmp .ge 26, [59])) rfl) (fun q => hc1 (of_decide_eq_true q))) ?_
      refine Q.run zm249 1 (i' := 47) (ls' := [some (.ref 121), some (.int x1), some (.int x2), some (.int x3)]) (st' := [.ref 121]) rfl ?_
      refine Q.map (A.gf (gI_of zm249 (e := (77, 3, .getfield 19, [9, 6])) rfl) (hl.lt (a := 121) (by decide)) (hl.T (a := 121) (p := (9, 45)) 43 rfl rfl) (by decide) (hl.R 26 rfl)) ?_
      refine Q.run zm249 1 (i' := 49) (ls' := [some (.ref 121), some (.int x1), some (.int x2), some (.int x3)]) (st' := [.int x3, .ref 125]) rfl ?_
      obtain ⟨hc2, h⟩ := ite_so h
      refine Q.map (A.ba (gI_of zm249 (e := (81, 1, .baload, [])) rfl) (hl.lt (a := 125) (by decide)) (hl.T (a := 125) (p := (103, 8)) 47 rfl rfl) (by decide) hc2) ?_
      by_cases hc3 : (sI s 125 (jN x3)) = 0
      · rw [if_pos hc3] at h
        refine Q.map (A.zT (gI_of zm249 (e := (82, 3, .ifCond .eq 9, [55])) rfl) (decide_eq_true hc3)) ?_
        refine Q.run zm249 1 (i' := 56) (ls' := [some (.ref 121), some (.int x1), some (.int x2), some (.int x3)]) (st' := [.int x2]) rfl ?_
        exact dt249_56 hd ih hl  h
      · rw [if_neg hc3] at h
        refine Q.map (A.zF (gI_of zm249 (e := (82, 3, .ifCond .eq 9, [55])) rfl) (fun q => hc3 (of_decide_eq_true q))) ?_
        refine Q.run zm249 4 (i' := 56) (ls' := [some (.ref 121), some (.int x1), some (.int x2), some (.int x3)]) (st' := [.int (x2 + 1)]) rfl ?_
        exact dt249_56 hd ih hl  h
def dm249_9 (x1 : Int32) (y1 : Int32) (s : aS) : Option (Int32 × aS) :=
  nx (wI s 121 0 y1) fun s1 =>
  if (sI s1 121 0) ≤ 0 then
    if x1 = 0 then
      some (sI s1 121 3, s1)
    else
      if x1 ≤ 1 then
        dm249_43 5000 0 0 s1
      else
        if aB (x1 - 2) 8 then
          if (sI s1 125 (jN (x1 - 2))) = 0 then
            some ((-1), s1)
          else
            if aB (x1 - 2) 8 then
              some (sI s1 126 (jN (x1 - 2)), s1)
            else none
        else none
  else
    some (0, s1)
set_option maxRecDepth 100000 in
theorem dt249_9 {sio : Bool} {tt : Nat} {cc : Nat → Nat → Int32} {d : Nat} (hd : 0 ≤ d) {x1 : Int32} {y1 : Int32} {s : aS} (hl : Ly tt cc s) {o : Int32 × aS} (h : dm249_9  x1 y1 s = some o) : Q 2 sio tt cc d 249 9 [some (.ref 121), some (.int x1), none, none] [.int y1, .ref 121] s (.inl (some (.int o.1)), o.2) := by
  unfold dm249_9 at h
  obtain ⟨s1, hs2, h⟩ := nx_so h
  refine Q.pf hs2 rfl (gI_of zm249 (e := (16, 3, .putfield 89, [9, 0, 0])) rfl) (hl.lt (a := 121) (by decide)) (by decide) (hl.T (a := 121) (p := (9, 45)) 43 rfl rfl) (by decide) rfl rfl ?_
  have hl3 : Ly tt cc s1 := by rw [hs2]; exact hl.wId (by decide)
  refine Q.run zm249 1 (i' := 11) (ls' := [some (.ref 121), some (.int x1), none, none]) (st' := [.ref 121]) rfl ?_
  refine Q.map (A.gf (gI_of zm249 (e := (20, 3, .getfield 89, [9, 0])) rfl) (hl3.lt (a := 121) (by decide)) (hl3.T (a := 121) (p := (9, 45)) 43 rfl rfl) (by decide) rfl) ?_
  by_cases hc4 : (sI s1 121 0) ≤ 0
  · rw [if_pos hc4] at h
    refine Q.map (A.zT (gI_of zm249 (e := (23, 3, .ifCond .le 5, [15])) rfl) (decide_eq_true hc4)) ?_
    refine Q.run zm249 1 (i' := 16) (ls' := [some (.ref 121), some (.int x1), none, none]) (st' := [.int x1]) rfl ?_
    by_cases hc5 : x1 = 0
    · rw [if_pos hc5] at h
      refine Q.map (A.zF (gI_of zm249 (e := (29, 3, .ifCond .ne 8, [20])) rfl) (fun q => of_decide_eq_true q hc5)) ?_
      refine Q.run zm249 1 (i' := 18) (ls' := [some (.ref 121), some (.int x1), none, none]) (st' := [.ref 121]) rfl ?_
      refine Q.map (A.gf (gI_of zm249 (e := (33, 3, .getfield 106, [9, 3])) rfl) (hl3.lt (a := 121) (by decide)) (hl3.T (a := 121) (p := (9, 45)) 43 rfl rfl) (by decide) rfl) ?_
      cases h
      exact Q.ret (A.ri zm249 (show zM249.2.2.2.2.2[19]? = some (36, 1, .ireturn, []) from rfl) rfl rfl) hl3
    · rw [if_neg hc5] at h
      refine Q.map (A.zT (gI_of zm249 (e := (29, 3, .ifCond .ne 8, [20])) rfl) (decide_eq_true hc5)) ?_
      refine Q.run zm249 2 (i' := 22) (ls' := [some (.ref 121), some (.int x1), none, none]) (st' := [.int 1, .int x1]) rfl ?_
      by_cases hc6 : x1 ≤ 1
      · rw [if_pos hc6] at h
        refine Q.map (A.bT (gI_of zm249 (e := (39, 3, .if_icmp .le 27, [39])) rfl) (decide_eq_true hc6)) ?_
        refine Q.run zm249 4 (i' := 43) (ls' := [some (.ref 121), some (.int x1), some (.int 0), some (.int 0)]) (st' := []) rfl ?_
        exact dt249_43 hd _ hl3  h
      · rw [if_neg hc6] at h
        refine Q.map (A.bF (gI_of zm249 (e := (39, 3, .if_icmp .le 27, [39])) rfl) (fun q => hc6 (of_decide_eq_true q))) ?_
        refine Q.run zm249 1 (i' := 24) (ls' := [some (.ref 121), some (.int x1), none, none]) (st' := [.ref 121]) rfl ?_
        refine Q.map (A.gf (gI_of zm249 (e := (43, 3, .getfield 19, [9, 6])) rfl) (hl3.lt (a := 121) (by decide)) (hl3.T (a := 121) (p := (9, 45)) 43 rfl rfl) (by decide) (hl3.R 26 rfl)) ?_
        refine Q.run zm249 3 (i' := 28) (ls' := [some (.ref 121), some (.int x1), none, none]) (st' := [.int (x1 - 2), .ref 125]) rfl ?_
        obtain ⟨hc7, h⟩ := ite_so h
        refine Q.map (A.ba (gI_of zm249 (e := (49, 1, .baload, [])) rfl) (hl3.lt (a := 125) (by decide)) (hl3.T (a := 125) (p := (103, 8)) 47 rfl rfl) (by decide) hc7) ?_
        by_cases hc8 : (sI s1 125 (jN (x1 - 2))) = 0
        · rw [if_pos hc8] at h
          refine Q.map (A.zT (gI_of zm249 (e := (50, 3, .ifCond .eq 14, [37])) rfl) (decide_eq_true hc8)) ?_
          refine Q.run zm249 1 (i' := 38) (ls' := [some (.ref 121), some (.int x1), none, none]) (st' := [.int (-1)]) rfl ?_
          cases h
          exact Q.ret (A.ri zm249 (show zM249.2.2.2.2.2[38]? = some (65, 1, .ireturn, []) from rfl) rfl rfl) hl3
        · rw [if_neg hc8] at h
          refine Q.map (A.zF (gI_of zm249 (e := (50, 3, .ifCond .eq 14, [37])) rfl) (fun q => hc8 (of_decide_eq_true q))) ?_
          refine Q.run zm249 1 (i' := 31) (ls' := [some (.ref 121), some (.int x1), none, none]) (st' := [.ref 121]) rfl ?_
          refine Q.map (A.gf (gI_of zm249 (e := (54, 3, .getfield 23, [9, 7])) rfl) (hl3.lt (a := 121) (by decide)) (hl3.T (a := 121) (p := (9, 45)) 43 rfl rfl) (by decide) (hl3.R 27 rfl)) ?_
          refine Q.run zm249 3 (i' := 35) (ls' := [some (.ref 121), some (.int x1), none, none]) (st' := [.int (x1 - 2), .ref 126]) rfl ?_
          obtain ⟨hc9, h⟩ := ite_so h
          refine Q.map (A.ia (gI_of zm249 (e := (60, 1, .iaload, [])) rfl) (hl3.lt (a := 126) (by decide)) (hl3.T (a := 126) (p := (100, 8)) 48 rfl rfl) hc9) ?_
          refine Q.run zm249 1 (i' := 38) (ls' := [some (.ref 121), some (.int x1), none, none]) (st' := [.int (sI s1 126 (jN (x1 - 2)))]) rfl ?_
          cases h
          exact Q.ret (A.ri zm249 (show zM249.2.2.2.2.2[38]? = some (65, 1, .ireturn, []) from rfl) rfl rfl) hl3
  · rw [if_neg hc4] at h
    refine Q.map (A.zF (gI_of zm249 (e := (23, 3, .ifCond .le 5, [15])) rfl) (fun q => hc4 (of_decide_eq_true q))) ?_
    refine Q.run zm249 1 (i' := 14) (ls' := [some (.ref 121), some (.int x1), none, none]) (st' := [.int 0]) rfl ?_
    cases h
    exact Q.ret (A.ri zm249 (show zM249.2.2.2.2.2[14]? = some (27, 1, .ireturn, []) from rfl) rfl rfl) hl3
def dm249_6 (x1 : Int32) (s : aS) : Option (Int32 × aS) :=
  dm249_9 x1 1 s
set_option maxRecDepth 100000 in
theorem dt249_6 {sio : Bool} {tt : Nat} {cc : Nat → Nat → Int32} {d : Nat} (hd : 0 ≤ d) {x1 : Int32} {s : aS} (hl : Ly tt cc s) {o : Int32 × aS} (h : dm249_6  x1 s = some o) : Q 2 sio tt cc d 249 6 [some (.ref 121), some (.int x1), none, none] [.ref 121] s (.inl (some (.int o.1)), o.2) := by
  unfold dm249_6 at h
  refine Q.run zm249 2 (i' := 9) (ls' := [some (.ref 121), some (.int x1), none, none]) (st' := [.int 1, .ref 121]) rfl ?_
  exact dt249_9 hd hl  h
def dm249 (x1 : Int32) (s : aS) : Option (Int32 × aS) :=
  if x1 < 0 then
    dm249_6 x1 s
  else
    if x1 ≤ 9 then
      dm249_9 x1 0 s
    else
      dm249_6 x1 s
set_option maxRecDepth 100000 in
theorem dt249 {sio : Bool} {tt : Nat} {cc : Nat → Nat → Int32} {d : Nat} (hd : 0 ≤ d) {x1 : Int32} {s : aS} (hl : Ly tt cc s) {o : Int32 × aS} (h : dm249  x1 s = some o) : Q 2 sio tt cc d 249 0 [some (.ref 121), some (.int x1), none, none] [] s (.inl (some (.int o.1)), o.2) := by
  unfold dm249 at h
  refine Q.run zm249 2 (i' := 2) (ls' := [some (.ref 121), some (.int x1), none, none]) (st' := [.int x1, .ref 121]) rfl ?_
  by_cases hc1 : x1 < 0
  · rw [if_pos hc1] at h
    refine Q.map (A.zT (gI_of zm249 (e := (2, 3, .ifCond .lt 9, [6])) rfl) (decide_eq_true hc1)) ?_
    exact dt249_6 hd hl  h
  · rw [if_neg hc1] at h
    refine Q.map (A.zF (gI_of zm249 (e := (2, 3, .ifCond .lt 9, [6])) rfl) (fun q => hc1 (of_decide_eq_true q))) ?_
    refine Q.run zm249 2 (i' := 5) (ls' := [some (.ref 121), some (.int x1), none, none]) (st' := [.int 9, .int x1, .ref 121]) rfl ?_
    by_cases hc2 : x1 ≤ 9
    · rw [if_pos hc2] at h
      refine Q.map (A.bT (gI_of zm249 (e := (8, 3, .if_icmp .le 7, [8])) rfl) (decide_eq_true hc2)) ?_
      refine Q.run zm249 1 (i' := 9) (ls' := [some (.ref 121), some (.int x1), none, none]) (st' := [.int 0, .ref 121]) rfl ?_
      exact dt249_9 hd hl  h
    · rw [if_neg hc2] at h
      refine Q.map (A.bF (gI_of zm249 (e := (8, 3, .if_icmp .le 7, [8])) rfl) (fun q => hc2 (of_decide_eq_true q))) ?_
      exact dt249_6 hd hl  h
/-! 169 FormulaTrees.name(II)I -/
set_option maxRecDepth 100000 in
theorem zm169 : zP[169]? = some zM169 := rfl
def dm169 (x1 : Int32) (x2 : Int32) (s : aS) : Option (xZ × aS) :=
  bu (dm40 x1 s) fun r3 =>
  if r3 = 0 then
    some (.inr 2, nw s 82 0)
  else
    bu (dm151 x1 x2 s) fun r7 =>
    some (.inl (some (.int r7)), s)
set_option maxRecDepth 100000 in
theorem dt169 {sio : Bool} {tt : Nat} {cc : Nat → Nat → Int32} {d : Nat} (hd : 9 ≤ d) {x1 : Int32} {x2 : Int32} {s : aS} (hl : Ly tt cc s) {o : xZ × aS} (h : dm169  x1 x2 s = some o) : Q 1 sio tt cc d 169 0 [some (.ref 78), some (.int x1), some (.int x2)] [] s o := by
  unfold dm169 at h
  obtain ⟨d, rfl⟩ : ∃ e, d = e + 1 := ⟨d - 1, by omega⟩
  refine Q.run zm169 1 (i' := 1) (ls' := [some (.ref 78), some (.int x1), some (.int x2)]) (st' := [.ref 78]) rfl ?_
  refine Q.map (A.gf (gI_of zm169 (e := (1, 3, .getfield 21, [0, 1])) rfl) (hl.lt (a := 78) (by decide)) (hl.T (a := 78) (p := (0, 7)) 0 rfl rfl) (by decide) (hl.R 1 rfl)) ?_
  refine Q.run zm169 1 (i' := 3) (ls' := [some (.ref 78), some (.int x1), some (.int x2)]) (st' := [.int x1, .ref 81]) rfl ?_
  obtain ⟨r3, hc2, h⟩ := bu_so h
  have hq1 : Q 1 sio tt cc d 40 0 [some (.ref 81), some (.int x1)] [] s (.inl (some (.int r3)), s) := dt40 (by omega) hl  hc2
  refine Q.callI (gC_vi zm169 (show zM169.2.2.2.2.2[3]? = some (5, 3, .invokevirtual 96, [0, 40, 1, 2]) from rfl) zm40 (hl.lt (a := 81) (by decide)) (hl.T (a := 81) (p := (2, 3)) 3 rfl rfl) rfl (show aCr 1 81 [.int x1, .ref 81] 2 = some ([some (.ref 81), some (.int x1)], []) from rfl)) hq1 ?_
  by_cases hc4 : r3 = 0
  · rw [if_pos hc4] at h
    refine Q.map (A.zF (gI_of zm169 (e := (8, 3, .ifCond .ne 13, [10])) rfl) (fun q => of_decide_eq_true q hc4)) ?_
    cases h
    exact Q.t zm169 (show zM169.2.2.2.2.2[5]? = some (11, 3, .new 100, [202]) from rfl) rfl rfl hl.gL (by omega) hl
  · rw [if_neg hc4] at h
    refine Q.map (A.zT (gI_of zm169 (e := (8, 3, .ifCond .ne 13, [10])) rfl) (decide_eq_true hc4)) ?_
    refine Q.run zm169 1 (i' := 11) (ls' := [some (.ref 78), some (.int x1), some (.int x2)]) (st' := [.ref 78]) rfl ?_
    refine Q.map (A.gf (gI_of zm169 (e := (22, 3, .getfield 21, [0, 1])) rfl) (hl.lt (a := 78) (by decide)) (hl.T (a := 78) (p := (0, 7)) 0 rfl rfl) (by decide) (hl.R 1 rfl)) ?_
    refine Q.run zm169 2 (i' := 14) (ls' := [some (.ref 78), some (.int x1), some (.int x2)]) (st' := [.int x2, .int x1, .ref 81]) rfl ?_
    obtain ⟨r7, hc6, h⟩ := bu_so h
    have hq5 : Q 1 sio tt cc d 151 0 [some (.ref 81), some (.int x1), some (.int x2)] [] s (.inl (some (.int r7)), s) := dt151 (by omega) hl  hc6
    refine Q.callI (gC_vi zm169 (show zM169.2.2.2.2.2[14]? = some (27, 3, .invokevirtual 189, [0, 151, 2, 2]) from rfl) zm151 (hl.lt (a := 81) (by decide)) (hl.T (a := 81) (p := (2, 3)) 3 rfl rfl) rfl (show aCr 2 81 [.int x2, .int x1, .ref 81] 3 = some ([some (.ref 81), some (.int x1), some (.int x2)], []) from rfl)) hq5 ?_
    cases h
    exact Q.ret (A.ri zm169 (show zM169.2.2.2.2.2[15]? = some (30, 1, .ireturn, []) from rfl) rfl rfl) hl
/-! 15 FormulaTreesLaw.name(LFormulaTrees;II[J)I -/
set_option maxRecDepth 100000 in
theorem zm15 : zP[15]? = some zM15 := rfl
def dm15 (x1 : Int32) (x2 : Int32) (s : aS) : Option (Int32 × aS) :=
  bv (dm169 x1 x2 s) fun z4 s3 =>
  zN z4 (fun v5 =>
    vI v5 fun r7 =>
    if aB 0 1 then
      nx (wJ s3 148 (jN 0) r7.toInt64) fun s10 =>
      some (0, s10)
    else none
  ) fun e6 =>
    if e6 = 2 then
      some (1, s3)
    else
      none
set_option maxRecDepth 100000 in
theorem dt15 {sio : Bool} {tt : Nat} {cc : Nat → Nat → Int32} {d : Nat} (hd : 10 ≤ d) {x1 : Int32} {x2 : Int32} {s : aS} (hl : Ly tt cc s) {o : Int32 × aS} (h : dm15  x1 x2 s = some o) : Q 1 sio tt cc d 15 0 [some (.ref 78), some (.int x1), some (.int x2), some (.ref 148), none] [] s (.inl (some (.int o.1)), o.2) := by
  unfold dm15 at h
  obtain ⟨d, rfl⟩ : ∃ e, d = e + 1 := ⟨d - 1, by omega⟩
  refine Q.run zm15 5 (i' := 5) (ls' := [some (.ref 78), some (.int x1), some (.int x2), some (.ref 148), none]) (st' := [.int x2, .int x1, .ref 78, .int 0, .ref 148]) rfl ?_
  obtain ⟨z4, s3, hc2, h⟩ := bv_so h
  have hq1 : Q 1 sio tt cc d 169 0 [some (.ref 78), some (.int x1), some (.int x2)] [] s (z4, s3) := dt169 (by omega) hl  hc2
  rcases zN_so h with ⟨v5, hz13, h8⟩ | ⟨e6, hz13, h8⟩
  · clear h
    subst hz13
    have h := h8
    obtain ⟨r7, hv8, h9⟩ := vI_so h
    clear h
    subst hv8
    have h := h9
    refine Q.callI (gC_vi zm15 (show zM15.2.2.2.2.2[5]? = some (5, 3, .invokevirtual 65, [0, 169, 2, 0]) from rfl) zm169 (hl.lt (a := 78) (by decide)) (hl.T (a := 78) (p := (0, 7)) 0 rfl rfl) rfl (show aCr 2 78 [.int x2, .int x1, .ref 78, .int 0, .ref 148] 3 = some ([some (.ref 78), some (.int x1), some (.int x2)], [.int 0, .ref 148]) from rfl)) hq1 ?_
    refine Q.run zm15 1 (i' := 7) (ls' := [some (.ref 78), some (.int x1), some (.int x2), some (.ref 148), none]) (st' := [.long r7.toInt64, .int 0, .ref 148]) rfl ?_
    obtain ⟨hc9, h⟩ := ite_so h
    obtain ⟨s10, hs11, h⟩ := nx_so h
    refine Q.lS hs11 rfl (gI_of zm15 (e := (9, 1, .lastore, [])) rfl) (hq1.1.lt (a := 148) (by decide)) (by decide) (hq1.1.T (a := 148) (p := (104, 1)) 70 rfl rfl) hc9 ?_
    have hl12 : Ly tt cc s10 := by rw [hs11]; exact hq1.1.wJd
    refine Q.run zm15 2 (i' := 13) (ls' := [some (.ref 78), some (.int x1), some (.int x2), some (.ref 148), none]) (st' := [.int 0]) rfl ?_
    cases h
    exact Q.ret (A.ri zm15 (show zM15.2.2.2.2.2[13]? = some (18, 1, .ireturn, []) from rfl) rfl rfl) hl12
  · clear h
    subst hz13
    have h := h8
    by_cases hc14 : e6 = 2
    · rw [if_pos hc14] at h
      subst hc14
      refine Q.hc (gC_vi zm15 (show zM15.2.2.2.2.2[5]? = some (5, 3, .invokevirtual 65, [0, 169, 2, 0]) from rfl) zm169 (hl.lt (a := 78) (by decide)) (hl.T (a := 78) (p := (0, 7)) 0 rfl rfl) rfl (show aCr 2 78 [.int x2, .int x1, .ref 78, .int 0, .ref 148] 3 = some ([some (.ref 78), some (.int x1), some (.int x2)], [.int 0, .ref 148]) from rfl)) hq1 (t := 9) rfl ?_
      refine Q.run zm15 2 (i' := 11) (ls' := [some (.ref 78), some (.int x1), some (.int x2), some (.ref 148), some (.ref (sL s3 - 1))]) (st' := [.int 1]) rfl ?_
      cases h
      exact Q.ret (A.ri zm15 (show zM15.2.2.2.2.2[11]? = some (16, 1, .ireturn, []) from rfl) rfl rfl) hq1.1
    · rw [if_neg hc14] at h
      cases h
/-! 250 FormulaTreesModel.name(II)I -/
set_option maxRecDepth 100000 in
theorem zm250 : zP[250]? = some zM250 := rfl
def dm250_22 (s : aS) : Option (Int32 × aS) :=
  some ((-1), s)
set_option maxRecDepth 100000 in
theorem dt250_22 {sio : Bool} {tt : Nat} {cc : Nat → Nat → Int32} {d : Nat} (hd : 1 ≤ d) {x1 : Int32} {x2 : Int32} {s : aS} (hl : Ly tt cc s) {o : Int32 × aS} (h : dm250_22  s = some o) : Q 2 sio tt cc d 250 22 [some (.ref 121), some (.int x1), some (.int x2)] [] s (.inl (some (.int o.1)), o.2) := by
  unfold dm250_22 at h
  obtain ⟨d, rfl⟩ : ∃ e, d = e + 1 := ⟨d - 1, by omega⟩
  refine Q.run zm250 2 (i' := 32) (ls' := [some (.ref 121), some (.int x1), some (.int x2)]) (st' := [.int (-1)]) rfl ?_
  cases h
  exact Q.ret (A.ri zm250 (show zM250.2.2.2.2.2[32]? = some (57, 1, .ireturn, []) from rfl) rfl rfl) hl
def dm250_8 (x1 : Int32) (x2 : Int32) (y1 : Int32) (s : aS) : Option (Int32 × aS) :=
  nx (wI s 121 0 y1) fun s1 =>
  if (sI s1 121 0) ≤ 0 then
    if x2 < 0 then
      dm250_22 s1
    else
      if aB x1 8 then
        if x2 < (sI s1 123 (jN x1)) then
          if aB ((32 * x1) + x2) 256 then
            some (sI s1 124 (jN ((32 * x1) + x2)), s1)
          else none
        else
          dm250_22 s1
      else none
  else
    some (0, s1)
set_option maxRecDepth 100000 in
theorem dt250_8 {sio : Bool} {tt : Nat} {cc : Nat → Nat → Int32} {d : Nat} (hd : 1 ≤ d) {x1 : Int32} {x2 : Int32} {y1 : Int32} {s : aS} (hl : Ly tt cc s) {o : Int32 × aS} (h : dm250_8  x1 x2 y1 s = some o) : Q 2 sio tt cc d 250 8 [some (.ref 121), some (.int x1), some (.int x2)] [.int y1, .ref 121] s (.inl (some (.int o.1)), o.2) := by
  unfold dm250_8 at h
  obtain ⟨d, rfl⟩ : ∃ e, d = e + 1 := ⟨d - 1, by omega⟩
  obtain ⟨s1, hs2, h⟩ := nx_so h
  refine Q.pf hs2 rfl (gI_of zm250 (e := (14, 3, .putfield 89, [9, 0, 0])) rfl) (hl.lt (a := 121) (by decide)) (by decide) (hl.T (a := 121) (p := (9, 45)) 43 rfl rfl) (by decide) rfl rfl ?_
  have hl3 : Ly tt cc s1 := by rw [hs2]; exact hl.wId (by decide)
  refine Q.run zm250 1 (i' := 10) (ls' := [some (.ref 121), some (.int x1), some (.int x2)]) (st' := [.ref 121]) rfl ?_
  refine Q.map (A.gf (gI_of zm250 (e := (18, 3, .getfield 89, [9, 0])) rfl) (hl3.lt (a := 121) (by decide)) (hl3.T (a := 121) (p := (9, 45)) 43 rfl rfl) (by decide) rfl) ?_
  by_cases hc4 : (sI s1 121 0) ≤ 0
  · rw [if_pos hc4] at h
    refine Q.map (A.zT (gI_of zm250 (e := (21, 3, .ifCond .le 7, [14])) rfl) (decide_eq_true hc4)) ?_
    refine Q.run zm250 1 (i' := 15) (ls' := [some (.ref 121), some (.int x1), some (.int x2)]) (st' := [.int x2]) rfl ?_
    by_cases hc5 : x2 < 0
    · rw [if_pos hc5] at h
      refine Q.map (A.zT (gI_of zm250 (e := (29, 3, .ifCond .lt 13, [22])) rfl) (decide_eq_true hc5)) ?_
      exact dt250_22 hd hl3  h
    · rw [if_neg hc5] at h
      refine Q.map (A.zF (gI_of zm250 (e := (29, 3, .ifCond .lt 13, [22])) rfl) (fun q => hc5 (of_decide_eq_true q))) ?_
      refine Q.run zm250 2 (i' := 18) (ls' := [some (.ref 121), some (.int x1), some (.int x2)]) (st' := [.ref 121, .int x2]) rfl ?_
      refine Q.map (A.gf (gI_of zm250 (e := (34, 3, .getfield 13, [9, 4])) rfl) (hl3.lt (a := 121) (by decide)) (hl3.T (a := 121) (p := (9, 45)) 43 rfl rfl) (by decide) (hl3.R 24 rfl)) ?_
      refine Q.run zm250 1 (i' := 20) (ls' := [some (.ref 121), some (.int x1), some (.int x2)]) (st' := [.int x1, .ref 123, .int x2]) rfl ?_
      obtain ⟨hc6, h⟩ := ite_so h
      refine Q.map (A.ia (gI_of zm250 (e := (38, 1, .iaload, [])) rfl) (hl3.lt (a := 123) (by decide)) (hl3.T (a := 123) (p := (100, 8)) 45 rfl rfl) hc6) ?_
      by_cases hc7 : x2 < (sI s1 123 (jN x1))
      · rw [if_pos hc7] at h
        refine Q.map (A.bT (gI_of zm250 (e := (39, 3, .if_icmp .lt 7, [24])) rfl) (decide_eq_true hc7)) ?_
        refine Q.run zm250 1 (i' := 25) (ls' := [some (.ref 121), some (.int x1), some (.int x2)]) (st' := [.ref 121]) rfl ?_
        refine Q.map (A.gf (gI_of zm250 (e := (47, 3, .getfield 16, [9, 5])) rfl) (hl3.lt (a := 121) (by decide)) (hl3.T (a := 121) (p := (9, 45)) 43 rfl rfl) (by decide) (hl3.R 25 rfl)) ?_
        refine Q.run zm250 5 (i' := 31) (ls' := [some (.ref 121), some (.int x1), some (.int x2)]) (st' := [.int ((32 * x1) + x2), .ref 124]) rfl ?_
        obtain ⟨hc8, h⟩ := ite_so h
        refine Q.map (A.ia (gI_of zm250 (e := (56, 1, .iaload, [])) rfl) (hl3.lt (a := 124) (by decide)) (hl3.T (a := 124) (p := (100, 256)) 46 rfl rfl) hc8) ?_
        cases h
        exact Q.ret (A.ri zm250 (show zM250.2.2.2.2.2[32]? = some (57, 1, .ireturn, []) from rfl) rfl rfl) hl3
      · rw [if_neg hc7] at h
        refine Q.map (A.bF (gI_of zm250 (e := (39, 3, .if_icmp .lt 7, [24])) rfl) (fun q => hc7 (of_decide_eq_true q))) ?_
        exact dt250_22 hd hl3  h
  · rw [if_neg hc4] at h
    refine Q.map (A.zF (gI_of zm250 (e := (21, 3, .ifCond .le 7, [14])) rfl) (fun q => hc4 (of_decide_eq_true q))) ?_
    refine Q.run zm250 2 (i' := 32) (ls' := [some (.ref 121), some (.int x1), some (.int x2)]) (st' := [.int 0]) rfl ?_
    cases h
    exact Q.ret (A.ri zm250 (show zM250.2.2.2.2.2[32]? = some (57, 1, .ireturn, []) from rfl) rfl rfl) hl3
def dm250 (x1 : Int32) (x2 : Int32) (s : aS) : Option (Int32 × aS) :=
  bu (dm181 x1 s) fun r3 =>
  if r3 = 0 then
    dm250_8 x1 x2 0 s
  else
    dm250_8 x1 x2 1 s
set_option maxRecDepth 100000 in
theorem dt250 {sio : Bool} {tt : Nat} {cc : Nat → Nat → Int32} {d : Nat} (hd : 1 ≤ d) {x1 : Int32} {x2 : Int32} {s : aS} (hl : Ly tt cc s) {o : Int32 × aS} (h : dm250  x1 x2 s = some o) : Q 2 sio tt cc d 250 0 [some (.ref 121), some (.int x1), some (.int x2)] [] s (.inl (some (.int o.1)), o.2) := by
  unfold dm250 at h
  obtain ⟨d, rfl⟩ : ∃ e, d = e + 1 := ⟨d - 1, by omega⟩
  refine Q.run zm250 3 (i' := 3) (ls' := [some (.ref 121), some (.int x1), some (.int x2)]) (st' := [.int x1, .ref 121, .ref 121]) rfl ?_
  obtain ⟨r3, hc2, h⟩ := bu_so h
  have hq1 : Q 2 sio tt cc d 181 0 [some (.ref 121), some (.int x1)] [] s (.inl (some (.int r3)), s) := dt181 (by omega) hl  hc2
  refine Q.callI (gC_vi zm250 (show zM250.2.2.2.2.2[3]? = some (3, 3, .invokevirtual 128, [0, 181, 1, 9]) from rfl) zm181 (hl.lt (a := 121) (by decide)) (hl.T (a := 121) (p := (9, 45)) 43 rfl rfl) rfl (show aCr 1 121 [.int x1, .ref 121, .ref 121] 2 = some ([some (.ref 121), some (.int x1)], [.ref 121]) from rfl)) hq1 ?_
  by_cases hc4 : r3 = 0
  · rw [if_pos hc4] at h
    refine Q.map (A.zT (gI_of zm250 (e := (6, 3, .ifCond .eq 7, [7])) rfl) (decide_eq_true hc4)) ?_
    refine Q.run zm250 1 (i' := 8) (ls' := [some (.ref 121), some (.int x1), some (.int x2)]) (st' := [.int 0, .ref 121]) rfl ?_
    exact dt250_8 hd hl  h
  · rw [if_neg hc4] at h
    refine Q.map (A.zF (gI_of zm250 (e := (6, 3, .ifCond .eq 7, [7])) rfl) (fun q => hc4 (of_decide_eq_true q))) ?_
    refine Q.run zm250 2 (i' := 8) (ls' := [some (.ref 121), some (.int x1), some (.int x2)]) (st' := [.int 1, .ref 121]) rfl ?_
    exact dt250_8 hd hl  h
/-! 0 FormulaTreesLaw.law([I)Z -/
set_option maxRecDepth 100000 in
theorem zm0 : zP[0]? = some zM0 := rfl
def dm0_446 (k13 : Int32 → aS → Option (Int32 × aS)) (x4 : Int32) (s : aS) : Option (Int32 × aS) :=
  k13 (x4 + 6) s
set_option maxRecDepth 100000 in
theorem dt0_446 {sio : Bool} {tt : Nat} {cc : Nat → Nat → Int32} {d : Nat} (hd : 1214 ≤ d) {k13 : Int32 → aS → Option (Int32 × aS)} (hk13 : ∀ {x4 : Int32} {g5 : Option Value} {g6 : Option Value} {s : aS}, Ly tt cc s → ∀ {o : Int32 × aS}, k13 x4 s = some o → Q 0 sio tt cc d 0 13 [some (.ref 0), some (.ref 78), some (.ref 121), some (.ref 148), some (.int x4), g5, g6] [] s (.inl (some (.int o.1)), o.2)) {x4 : Int32} {g5 : Option Value} {g6 : Option Value} {s : aS} (hl : Ly tt cc s) {o : Int32 × aS} (h : dm0_446 k13 x4 s = some o) : Q 0 sio tt cc d 0 446 [some (.ref 0), some (.ref 78), some (.ref 121), some (.ref 148), some (.int x4), g5, g6] [] s (.inl (some (.int o.1)), o.2) := by
  unfold dm0_446 at h
  obtain ⟨d, rfl⟩ : ∃ e, d = e + 1 := ⟨d - 1, by omega⟩
  refine Q.run zm0 2 (i' := 13) (ls' := [some (.ref 0), some (.ref 78), some (.ref 121), some (.ref 148), some (.int (x4 + 6)), g5, g6]) (st' := []) rfl ?_
  exact hk13 hl  h
def dm0_221 (k13 : Int32 → aS → Option (Int32 × aS)) (x4 : Int32) (y1 : Int32) (y2 : Int32) (s : aS) : Option (Int32 × aS) :=
  if aB (x4 + 3) (sT s 0).2 then
    if aB (x4 + 4) (sT s 0).2 then
      bv (dm228 y1 y2 (sI s 0 (jN (x4 + 3))) (sI s 0 (jN (x4 + 4))) s) fun r6 s5 =>
      dm0_446 k13 x4 s5
    else none
  else none
set_option maxRecDepth 100000 in
theorem dt0_221 {sio : Bool} {tt : Nat} {cc : Nat → Nat → Int32} {d : Nat} (hd : 1214 ≤ d) {k13 : Int32 → aS → Option (Int32 × aS)} (hk13 : ∀ {x4 : Int32} {g5 : Option Value} {g6 : Option Value} {s : aS}, Ly tt cc s → ∀ {o : Int32 × aS}, k13 x4 s = some o → Q 0 sio tt cc d 0 13 [some (.ref 0), some (.ref 78), some (.ref 121), some (.ref 148), some (.int x4), g5, g6] [] s (.inl (some (.int o.1)), o.2)) {x4 : Int32} {y1 : Int32} {y2 : Int32} {x5 : Int32} {g6 : Option Value} {s : aS} (hl : Ly tt cc s) {o : Int32 × aS} (h : dm0_221 k13 x4 y1 y2 s = some o) : Q 0 sio tt cc d 0 221 [some (.ref 0), some (.ref 78), some (.ref 121), some (.ref 148), some (.int x4), some (.int x5), g6] [.int y2, .int y1, .ref 121] s (.inl (some (.int o.1)), o.2) := by
  unfold dm0_221 at h
  obtain ⟨d, rfl⟩ : ∃ e, d = e + 1 := ⟨d - 1, by omega⟩
  refine Q.run zm0 4 (i' := 225) (ls' := [some (.ref 0), some (.ref 78), some (.ref 121), some (.ref 148), some (.int x4), some (.int x5), g6]) (st' := [.int (x4 + 3), .ref 0, .int y2, .int y1, .ref 121]) rfl ?_
  obtain ⟨hc1, h⟩ := ite_so h
  refine Q.map (A.ia (gI_of zm0 (e := (414, 1, .iaload, [])) rfl) (hl.lt (a := 0) (by decide)) hl.t0 hc1) ?_
  refine Q.run zm0 4 (i' := 230) (ls' := [some (.ref 0), some (.ref 78), some (.ref 121), some (.ref 148), some (.int x4), some (.int x5), g6]) (st' := [.int (x4 + 4), .ref 0, .int (sI s 0 (jN (x4 + 3))), .int y2, .int y1, .ref 121]) rfl ?_
  obtain ⟨hc2, h⟩ := ite_so h
  refine Q.map (A.ia (gI_of zm0 (e := (420, 1, .iaload, [])) rfl) (hl.lt (a := 0) (by decide)) hl.t0 hc2) ?_
  obtain ⟨r6, s5, hc4, h⟩ := bv_so h
  have hq3 : Q 0 sio tt cc d 228 0 [some (.ref 121), some (.int y1), some (.int y2), some (.int (sI s 0 (jN (x4 + 3)))), some (.int (sI s 0 (jN (x4 + 4)))), none, none, none, none, none, none, none, none] [] s (.inl (some (.int r6)), s5) := (dt228 (by omega) hl  hc4).w
  refine Q.callI (gC_vi zm0 (show zM0.2.2.2.2.2[231]? = some (421, 3, .invokevirtual 107, [0, 228, 4, 9]) from rfl) zm228 (hl.lt (a := 121) (by decide)) (hl.T (a := 121) (p := (9, 45)) 43 rfl rfl) rfl (show aCr 4 121 [.int (sI s 0 (jN (x4 + 4))), .int (sI s 0 (jN (x4 + 3))), .int y2, .int y1, .ref 121] 13 = some ([some (.ref 121), some (.int y1), some (.int y2), some (.int (sI s 0 (jN (x4 + 3)))), some (.int (sI s 0 (jN (x4 + 4)))), none, none, none, none, none, none, none, none], []) from rfl)) hq3 ?_
  refine Q.run zm0 2 (i' := 446) (ls' := [some (.ref 0), some (.ref 78), some (.ref 121), some (.ref 148), some (.int x4), some (.int x5), some (.int r6)]) (st' := []) rfl ?_
  exact dt0_446 hd hk13 hq3.1  h
def dm0_193 (k13 : Int32 → aS → Option (Int32 × aS)) (x4 : Int32) (y1 : Int32) (y2 : Int32) (s : aS) : Option (Int32 × aS) :=
  if aB (x4 + 3) (sT s 0).2 then
    if aB (x4 + 4) (sT s 0).2 then
      bv (dm7 y1 y2 (sI s 0 (jN (x4 + 3))) (sI s 0 (jN (x4 + 4))) s) fun r6 s5 =>
      if aB (x4 + 1) (sT s5 0).2 then
        if aB (x4 + 2) (sT s5 0).2 then
          if (sI s5 0 (jN (x4 + 2))) = 0 then
            dm0_221 k13 x4 (sI s5 0 (jN (x4 + 1))) 0 s5
          else
            dm0_221 k13 x4 (sI s5 0 (jN (x4 + 1))) 1 s5
        else none
      else none
    else none
  else none
set_option maxRecDepth 100000 in
theorem dt0_193 {sio : Bool} {tt : Nat} {cc : Nat → Nat → Int32} {d : Nat} (hd : 1214 ≤ d) {k13 : Int32 → aS → Option (Int32 × aS)} (hk13 : ∀ {x4 : Int32} {g5 : Option Value} {g6 : Option Value} {s : aS}, Ly tt cc s → ∀ {o : Int32 × aS}, k13 x4 s = some o → Q 0 sio tt cc d 0 13 [some (.ref 0), some (.ref 78), some (.ref 121), some (.ref 148), some (.int x4), g5, g6] [] s (.inl (some (.int o.1)), o.2)) {x4 : Int32} {y1 : Int32} {y2 : Int32} {g5 : Option Value} {g6 : Option Value} {s : aS} (hl : Ly tt cc s) {o : Int32 × aS} (h : dm0_193 k13 x4 y1 y2 s = some o) : Q 0 sio tt cc d 0 193 [some (.ref 0), some (.ref 78), some (.ref 121), some (.ref 148), some (.int x4), g5, g6] [.int y2, .int y1, .ref 78] s (.inl (some (.int o.1)), o.2) := by
  unfold dm0_193 at h
  obtain ⟨d, rfl⟩ : ∃ e, d = e + 1 := ⟨d - 1, by omega⟩
  refine Q.run zm0 4 (i' := 197) (ls' := [some (.ref 0), some (.ref 78), some (.ref 121), some (.ref 148), some (.int x4), g5, g6]) (st' := [.int (x4 + 3), .ref 0, .int y2, .int y1, .ref 78]) rfl ?_
  obtain ⟨hc1, h⟩ := ite_so h
  refine Q.map (A.ia (gI_of zm0 (e := (375, 1, .iaload, [])) rfl) (hl.lt (a := 0) (by decide)) hl.t0 hc1) ?_
  refine Q.run zm0 4 (i' := 202) (ls' := [some (.ref 0), some (.ref 78), some (.ref 121), some (.ref 148), some (.int x4), g5, g6]) (st' := [.int (x4 + 4), .ref 0, .int (sI s 0 (jN (x4 + 3))), .int y2, .int y1, .ref 78]) rfl ?_
  obtain ⟨hc2, h⟩ := ite_so h
  refine Q.map (A.ia (gI_of zm0 (e := (381, 1, .iaload, [])) rfl) (hl.lt (a := 0) (by decide)) hl.t0 hc2) ?_
  refine Q.run zm0 1 (i' := 204) (ls' := [some (.ref 0), some (.ref 78), some (.ref 121), some (.ref 148), some (.int x4), g5, g6]) (st' := [.ref 148, .int (sI s 0 (jN (x4 + 4))), .int (sI s 0 (jN (x4 + 3))), .int y2, .int y1, .ref 78]) rfl ?_
  obtain ⟨r6, s5, hc4, h⟩ := bv_so h
  have hq3 : Q 0 sio tt cc d 7 0 [some (.ref 78), some (.int y1), some (.int y2), some (.int (sI s 0 (jN (x4 + 3)))), some (.int (sI s 0 (jN (x4 + 4)))), some (.ref 148), none] [] s (.inl (some (.int r6)), s5) := (dt7 (by omega) hl  hc4).w
  refine Q.callI (gC_st zm0 (show zM0.2.2.2.2.2[204]? = some (383, 3, .invokestatic 104, [0, 7, 6]) from rfl) zm7 (show aC 6 [.ref 148, .int (sI s 0 (jN (x4 + 4))), .int (sI s 0 (jN (x4 + 3))), .int y2, .int y1, .ref 78] 7 = some ([some (.ref 78), some (.int y1), some (.int y2), some (.int (sI s 0 (jN (x4 + 3)))), some (.int (sI s 0 (jN (x4 + 4)))), some (.ref 148), none], []) from rfl)) hq3 ?_
  refine Q.run zm0 6 (i' := 211) (ls' := [some (.ref 0), some (.ref 78), some (.ref 121), some (.ref 148), some (.int x4), some (.int r6), g6]) (st' := [.int (x4 + 1), .ref 0, .ref 121]) rfl ?_
  obtain ⟨hc7, h⟩ := ite_so h
  refine Q.map (A.ia (gI_of zm0 (e := (394, 1, .iaload, [])) rfl) (hq3.1.lt (a := 0) (by decide)) hq3.1.t0 hc7) ?_
  refine Q.run zm0 4 (i' := 216) (ls' := [some (.ref 0), some (.ref 78), some (.ref 121), some (.ref 148), some (.int x4), some (.int r6), g6]) (st' := [.int (x4 + 2), .ref 0, .int (sI s5 0 (jN (x4 + 1))), .ref 121]) rfl ?_
  obtain ⟨hc8, h⟩ := ite_so h
  refine Q.map (A.ia (gI_of zm0 (e := (400, 1, .iaload, [])) rfl) (hq3.1.lt (a := 0) (by decide)) hq3.1.t0 hc8) ?_
  by_cases hc9 : (sI s5 0 (jN (x4 + 2))) = 0
  · rw [if_pos hc9] at h
    refine Q.map (A.zT (gI_of zm0 (e := (401, 3, .ifCond .eq 7, [220])) rfl) (decide_eq_true hc9)) ?_
    refine Q.run zm0 1 (i' := 221) (ls' := [some (.ref 0), some (.ref 78), some (.ref 121), some (.ref 148), some (.int x4), some (.int r6), g6]) (st' := [.int 0, .int (sI s5 0 (jN (x4 + 1))), .ref 121]) rfl ?_
    exact dt0_221 hd hk13 hq3.1  h
  · rw [if_neg hc9] at h
    refine Q.map (A.zF (gI_of zm0 (e := (401, 3, .ifCond .eq 7, [220])) rfl) (fun q => hc9 (of_decide_eq_true q))) ?_
    refine Q.run zm0 2 (i' := 221) (ls' := [some (.ref 0), some (.ref 78), some (.ref 121), some (.ref 148), some (.int x4), some (.int r6), g6]) (st' := [.int 1, .int (sI s5 0 (jN (x4 + 1))), .ref 121]) rfl ?_
    exact dt0_221 hd hk13 hq3.1  h
def dm0_13 : Nat → Int32 → aS → Option (Int32 × aS)
  | 0, _, _ => none
  | n + 1, x4, s =>
    if ((Int32.ofNat (sT s 0).2) - 6) < x4 then
      some (1, s)
    else
      if aB x4 (sT s 0).2 then
        if ((sI s 0 (jN x4)) &&& 15) = 0 then
          if aB (x4 + 1) (sT s 0).2 then
            bv (dm1 (sI s 0 (jN (x4 + 1))) s) fun r8 s7 =>
            if aB (x4 + 1) (sT s7 0).2 then
              bv (dm172 (sI s7 0 (jN (x4 + 1))) s7) fun r13 s12 =>
              dm0_446 (dm0_13 n) x4 s12
            else none
          else none
        else
          if ((sI s 0 (jN x4)) &&& 15) = 1 then
            bu (dm25 s) fun s17 =>
            bu (dm173 s17) fun s20 =>
            dm0_446 (dm0_13 n) x4 s20
          else
            if ((sI s 0 (jN x4)) &&& 15) = 2 then
              bv (dm2 s) fun r25 s24 =>
              bv (dm174 s24) fun r29 s28 =>
              dm0_446 (dm0_13 n) x4 s28
            else
              if ((sI s 0 (jN x4)) &&& 15) = 3 then
                if aB (x4 + 1) (sT s 0).2 then
                  bv (dm3 (sI s 0 (jN (x4 + 1))) s) fun r35 s34 =>
                  if aB (x4 + 1) (sT s34 0).2 then
                    bu (dm180 (sI s34 0 (jN (x4 + 1))) s34) fun s39 =>
                    dm0_446 (dm0_13 n) x4 s39
                  else none
                else none
              else
                if ((sI s 0 (jN x4)) &&& 15) = 4 then
                  if aB (x4 + 1) (sT s 0).2 then
                    bv (dm4 (sI s 0 (jN (x4 + 1))) s) fun r45 s44 =>
                    if aB (x4 + 1) (sT s44 0).2 then
                      bu (dm182 (sI s44 0 (jN (x4 + 1))) s44) fun s49 =>
                      bu (dm171 s49) fun r52 =>
                      if r52 = r45 then
                        dm0_446 (dm0_13 n) x4 s49
                      else
                        some (0, s49)
                    else none
                  else none
                else
                  if ((sI s 0 (jN x4)) &&& 15) = 5 then
                    if aB (x4 + 1) (sT s 0).2 then
                      if aB (x4 + 2) (sT s 0).2 then
                        bv (dm5 (sI s 0 (jN (x4 + 1))) (sI s 0 (jN (x4 + 2))) s) fun r60 s59 =>
                        if aB (x4 + 1) (sT s59 0).2 then
                          if aB (x4 + 2) (sT s59 0).2 then
                            bv (dm184 (sI s59 0 (jN (x4 + 1))) (sI s59 0 (jN (x4 + 2))) s59) fun r66 s65 =>
                            dm0_446 (dm0_13 n) x4 s65
                          else none
                        else none
                      else none
                    else none
                  else
                    if ((sI s 0 (jN x4)) &&& 15) = 6 then
                      if aB (x4 + 1) (sT s 0).2 then
                        if aB (x4 + 2) (sT s 0).2 then
                          if aB (x4 + 3) (sT s 0).2 then
                            if aB (x4 + 4) (sT s 0).2 then
                              if aB (x4 + 5) (sT s 0).2 then
                                bv (dm6 (sI s 0 (jN (x4 + 1))) (sI s 0 (jN (x4 + 2))) (sI s 0 (jN (x4 + 3))) (sI s 0 (jN (x4 + 4))) (sI s 0 (jN (x4 + 5))) s) fun r76 s75 =>
                                if aB (x4 + 1) (sT s75 0).2 then
                                  if aB (x4 + 2) (sT s75 0).2 then
                                    if aB (x4 + 3) (sT s75 0).2 then
                                      if aB (x4 + 4) (sT s75 0).2 then
                                        if aB (x4 + 5) (sT s75 0).2 then
                                          bu (dm224 (sI s75 0 (jN (x4 + 1))) (sI s75 0 (jN (x4 + 2))) (sI s75 0 (jN (x4 + 3))) (sI s75 0 (jN (x4 + 4))) (sI s75 0 (jN (x4 + 5))) s75) fun s84 =>
                                          dm0_446 (dm0_13 n) x4 s84
                                        else none
                                      else none
                                    else none
                                  else none
                                else none
                              else none
                            else none
                          else none
                        else none
                      else none
                    else
                      if ((sI s 0 (jN x4)) &&& 15) = 7 then
                        if aB (x4 + 1) (sT s 0).2 then
                          if aB (x4 + 2) (sT s 0).2 then
                            if (sI s 0 (jN (x4 + 2))) = 0 then
                              dm0_193 (dm0_13 n) x4 (sI s 0 (jN (x4 + 1))) 0 s
                            else
                              dm0_193 (dm0_13 n) x4 (sI s 0 (jN (x4 + 1))) 1 s
                          else none
                        else none
                      else
                        if ((sI s 0 (jN x4)) &&& 15) = 8 then
                          if aB (x4 + 1) (sT s 0).2 then
                            bv (dm8 (sI s 0 (jN (x4 + 1))) s) fun r94 s93 =>
                            if aB (x4 + 1) (sT s93 0).2 then
                              bu (dm231 (sI s93 0 (jN (x4 + 1))) s93) fun s98 =>
                              dm0_446 (dm0_13 n) x4 s98
                            else none
                          else none
                        else
                          if ((sI s 0 (jN x4)) &&& 15) = 9 then
                            if aB (x4 + 1) (sT s 0).2 then
                              if aB (x4 + 2) (sT s 0).2 then
                                bv (dm9 (sI s 0 (jN (x4 + 1))) (sI s 0 (jN (x4 + 2))) s) fun r105 s104 =>
                                if aB (x4 + 1) (sT s104 0).2 then
                                  if aB (x4 + 2) (sT s104 0).2 then
                                    bv (dm232 (sI s104 0 (jN (x4 + 1))) (sI s104 0 (jN (x4 + 2))) s104) fun r111 s110 =>
                                    dm0_446 (dm0_13 n) x4 s110
                                  else none
                                else none
                              else none
                            else none
                          else
                            if ((sI s 0 (jN x4)) &&& 15) = 10 then
                              if aB (x4 + 1) (sT s 0).2 then
                                bv (dm10 (sI s 0 (jN (x4 + 1))) s) fun r117 s116 =>
                                if aB (x4 + 1) (sT s116 0).2 then
                                  bv (dm243 (sI s116 0 (jN (x4 + 1))) s116) fun r122 s121 =>
                                  dm0_446 (dm0_13 n) x4 s121
                                else none
                              else none
                            else
                              if ((sI s 0 (jN x4)) &&& 15) = 11 then
                                if aB (x4 + 1) (sT s 0).2 then
                                  if aB (x4 + 2) (sT s 0).2 then
                                    if aB (x4 + 3) (sT s 0).2 then
                                      bv (dm11 (sI s 0 (jN (x4 + 1))) (sI s 0 (jN (x4 + 2))) (sI s 0 (jN (x4 + 3))) s) fun r130 s129 =>
                                      if aB (x4 + 1) (sT s129 0).2 then
                                        if aB (x4 + 2) (sT s129 0).2 then
                                          if aB (x4 + 3) (sT s129 0).2 then
                                            bv (dm244 (sI s129 0 (jN (x4 + 1))) (sI s129 0 (jN (x4 + 2))) (sI s129 0 (jN (x4 + 3))) s129) fun r137 s136 =>
                                            dm0_446 (dm0_13 n) x4 s136
                                          else none
                                        else none
                                      else none
                                    else none
                                  else none
                                else none
                              else
                                if ((sI s 0 (jN x4)) &&& 15) = 12 then
                                  if aB (x4 + 1) (sT s 0).2 then
                                    if aB (x4 + 2) (sT s 0).2 then
                                      if aB (x4 + 3) (sT s 0).2 then
                                        bv (dm12 (sI s 0 (jN (x4 + 1))) (sI s 0 (jN (x4 + 2))) (sI s 0 (jN (x4 + 3))) s) fun r145 s144 =>
                                        if aB (x4 + 1) (sT s144 0).2 then
                                          if aB (x4 + 2) (sT s144 0).2 then
                                            if aB (x4 + 3) (sT s144 0).2 then
                                              bv (dm246 (sI s144 0 (jN (x4 + 1))) (sI s144 0 (jN (x4 + 2))) (sI s144 0 (jN (x4 + 3))) s144) fun r152 s151 =>
                                              dm0_446 (dm0_13 n) x4 s151
                                            else none
                                          else none
                                        else none
                                      else none
                                    else none
                                  else none
                                else
                                  if ((sI s 0 (jN x4)) &&& 15) = 13 then
                                    if aB (x4 + 1) (sT s 0).2 then
                                      if aB (x4 + 2) (sT s 0).2 then
                                        bv (dm13 (sI s 0 (jN (x4 + 1))) (sI s 0 (jN (x4 + 2))) s) fun r159 s158 =>
                                        if aB (x4 + 1) (sT s158 0).2 then
                                          if aB (x4 + 2) (sT s158 0).2 then
                                            bv (dm248 (sI s158 0 (jN (x4 + 1))) (sI s158 0 (jN (x4 + 2))) s158) fun r165 s164 =>
                                            dm0_446 (dm0_13 n) x4 s164
                                          else none
                                        else none
                                      else none
                                    else none
                                  else
                                    if ((sI s 0 (jN x4)) &&& 15) = 14 then
                                      if aB (x4 + 1) (sT s 0).2 then
                                        bv (dm14 (sI s 0 (jN (x4 + 1))) s) fun r171 s170 =>
                                        if aB (x4 + 1) (sT s170 0).2 then
                                          bv (dm249 (sI s170 0 (jN (x4 + 1))) s170) fun r176 s175 =>
                                          dm0_446 (dm0_13 n) x4 s175
                                        else none
                                      else none
                                    else
                                      if ((sI s 0 (jN x4)) &&& 15) = 15 then
                                        if aB (x4 + 1) (sT s 0).2 then
                                          if aB (x4 + 2) (sT s 0).2 then
                                            bv (dm15 (sI s 0 (jN (x4 + 1))) (sI s 0 (jN (x4 + 2))) s) fun r183 s182 =>
                                            if aB (x4 + 1) (sT s182 0).2 then
                                              if aB (x4 + 2) (sT s182 0).2 then
                                                bv (dm250 (sI s182 0 (jN (x4 + 1))) (sI s182 0 (jN (x4 + 2))) s182) fun r189 s188 =>
                                                dm0_446 (dm0_13 n) x4 s188
                                              else none
                                            else none
                                          else none
                                        else none
                                      else
                                        dm0_446 (dm0_13 n) x4 s
      else none
set_option maxRecDepth 100000 in
theorem dt0_13 {sio : Bool} {tt : Nat} {cc : Nat → Nat → Int32} {d : Nat} (hd : 1214 ≤ d) : ∀ (n : Nat) {x4 : Int32} {g5 : Option Value} {g6 : Option Value} {s : aS} (_ : Ly tt cc s) {o : Int32 × aS} (_ : dm0_13  n x4 s = some o), Q 0 sio tt cc d 0 13 [some (.ref 0), some (.ref 78), some (.ref 121), some (.ref 148), some (.int x4), g5, g6] [] s (.inl (some (.int o.1)), o.2) := by
  obtain ⟨d, rfl⟩ : ∃ e, d = e + 1 := ⟨d - 1, by omega⟩
  intro n
  induction n with
  | zero => intro x4 g5 g6 s hl o h; rw [dm0_13] at h; cases h
  | succ n ih =>
    intro x4 g5 g6 s hl o h
    rw [dm0_13] at h
    refine Q.run zm0 2 (i' := 15) (ls' := [some (.ref 0), some (.ref 78), some (.ref 121), some (.ref 148), some (.int x4), g5, g6]) (st' := [.ref 0, .int x4]) rfl ?_
    refine Q.map (A.al (gI_of zm0 (e := (26, 1, .arraylength, [])) rfl) (hl.lt (a := 0) (by decide)) hl.t0 (by decide)) ?_
    refine Q.run zm0 2 (i' := 18) (ls' := [some (.ref 0), some (.ref 78), some (.ref 121), some (.ref 148), some (.int x4), g5, g6]) (st' := [.int ((Int32.ofNat (sT s 0).2) - 6), .int x4]) rfl ?_
    by_cases hc1 : ((Int32.ofNat (sT s 0).2) - 6) < x4
    · rw [if_pos hc1] at h
      refine Q.map (A.bT (gI_of zm0 (e := (30, 3, .if_icmp .gt 710, [448])) rfl) (decide_eq_true hc1)) ?_
      refine Q.run zm0 1 (i' := 449) (ls' := [some (.ref 0), some (.ref 78), some (.ref 121), some (.ref 148), some (.int x4), g5, g6]) (st' := [.int 1]) rfl ?_
      cases h
      exact Q.ret (A.ri zm0 (show zM0.2.2.2.2.2[449]? = some (741, 1, .ireturn, []) from rfl) rfl rfl) hl
    · rw [if_neg hc1] at h
      refine Q.map (A.bF (gI_of zm0 (e := (30, 3, .if_icmp .gt 710, [448])) rfl) (fun q => hc1 (of_decide_eq_true q))) ?_
      refine Q.run zm0 2 (i' := 21) (ls' := [some (.ref 0), some (.ref 78), some (.ref 121), some (.ref 148), some (.int x4), g5, g6]) (st' := [.int x4, .ref 0]) rfl ?_
      obtain ⟨hc2, h⟩ := ite_so h
      refine Q.map (A.ia (gI_of zm0 (e := (36, 1, .iaload, [])) rfl) (hl.lt (a := 0) (by decide)) hl.t0 hc2) ?_
      refine Q.run zm0 2 (i' := 24) (ls' := [some (.ref 0), some (.ref 78), some (.ref 121), some (.ref 148), some (.int x4), g5, g6]) (st' := [.int ((sI s 0 (jN x4)) &&& 15)]) rfl ?_
      by_cases hc3 : ((sI s 0 (jN x4)) &&& 15) = 0
      · rw [if_pos hc3] at h
        refine Q.map (A.ts (gI_of zm0 (e := (40, 80, .tableswitch 694 0 15 #[80, 108, 119, 135, 160, 196, 236, 309, 389, 414, 454, 482, 534, 586, 626, 654], [446, 25, 43, 48, 56, 72, 94, 122, 178, 234, 250, 278, 296, 334, 372, 400, 418])) rfl) (t := 25) (by rw [hc3] <;> decide)) ?_
        refine Q.run zm0 5 (i' := 30) (ls' := [some (.ref 0), some (.ref 78), some (.ref 121), some (.ref 148), some (.int x4), g5, g6]) (st' := [.int (x4 + 1), .ref 0, .ref 78]) rfl ?_
        obtain ⟨hc4, h⟩ := ite_so h
        refine Q.map (A.ia (gI_of zm0 (e := (126, 1, .iaload, [])) rfl) (hl.lt (a := 0) (by decide)) hl.t0 hc4) ?_
        refine Q.run zm0 1 (i' := 32) (ls' := [some (.ref 0), some (.ref 78), some (.ref 121), some (.ref 148), some (.int x4), g5, g6]) (st' := [.ref 148, .int (sI s 0 (jN (x4 + 1))), .ref 78]) rfl ?_
        obtain ⟨r8, s7, hc6, h⟩ := bv_so h
        have hq5 : Q 0 sio tt cc d 1 0 [some (.ref 78), some (.int (sI s 0 (jN (x4 + 1)))), some (.ref 148), none] [] s (.inl (some (.int r8)), s7) := (dt1 (by omega) hl  hc6).w
        refine Q.callI (gC_st zm0 (show zM0.2.2.2.2.2[32]? = some (128, 3, .invokestatic 72, [0, 1, 3]) from rfl) zm1 (show aC 3 [.ref 148, .int (sI s 0 (jN (x4 + 1))), .ref 78] 4 = some ([some (.ref 78), some (.int (sI s 0 (jN (x4 + 1)))), some (.ref 148), none], []) from rfl)) hq5 ?_
        refine Q.run zm0 6 (i' := 39) (ls' := [some (.ref 0), some (.ref 78), some (.ref 121), some (.ref 148), some (.int x4), some (.int r8), g6]) (st' := [.int (x4 + 1), .ref 0, .ref 121]) rfl ?_
        obtain ⟨hc9, h⟩ := ite_so h
        refine Q.map (A.ia (gI_of zm0 (e := (139, 1, .iaload, [])) rfl) (hq5.1.lt (a := 0) (by decide)) hq5.1.t0 hc9) ?_
        obtain ⟨r13, s12, hc11, h⟩ := bv_so h
        have hq10 : Q 0 sio tt cc d 172 0 [some (.ref 121), some (.int (sI s7 0 (jN (x4 + 1)))), none, none, none, none] [] s7 (.inl (some (.int r13)), s12) := (dt172 (by omega) hq5.1  hc11).w
        refine Q.callI (gC_vi zm0 (show zM0.2.2.2.2.2[40]? = some (140, 3, .invokevirtual 77, [0, 172, 1, 9]) from rfl) zm172 (hq5.1.lt (a := 121) (by decide)) (hq5.1.T (a := 121) (p := (9, 45)) 43 rfl rfl) rfl (show aCr 1 121 [.int (sI s7 0 (jN (x4 + 1))), .ref 121] 6 = some ([some (.ref 121), some (.int (sI s7 0 (jN (x4 + 1)))), none, none, none, none], []) from rfl)) hq10 ?_
        refine Q.run zm0 2 (i' := 446) (ls' := [some (.ref 0), some (.ref 78), some (.ref 121), some (.ref 148), some (.int x4), some (.int r8), some (.int r13)]) (st' := []) rfl ?_
        exact dt0_446 hd ih hq10.1  h
      · rw [if_neg hc3] at h
        by_cases hc14 : ((sI s 0 (jN x4)) &&& 15) = 1
        · rw [if_pos hc14] at h
          refine Q.map (A.ts (gI_of zm0 (e := (40, 80, .tableswitch 694 0 15 #[80, 108, 119, 135, 160, 196, 236, 309, 389, 414, 454, 482, 534, 586, 626, 654], [446, 25, 43, 48, 56, 72, 94, 122, 178, 234, 250, 278, 296, 334, 372, 400, 418])) rfl) (t := 43) (by rw [hc14] <;> decide)) ?_
          refine Q.run zm0 1 (i' := 44) (ls' := [some (.ref 0), some (.ref 78), some (.ref 121), some (.ref 148), some (.int x4), g5, g6]) (st' := [.ref 78]) rfl ?_
          obtain ⟨s17, hc16, h⟩ := bu_so h
          have hq15 : Q 0 sio tt cc d 25 0 [some (.ref 78)] [] s (.inl none, s17) := (dt25 (by omega) hl  hc16).w
          refine Q.callV (gC_vi zm0 (show zM0.2.2.2.2.2[44]? = some (149, 3, .invokevirtual 78, [0, 25, 0, 0]) from rfl) zm25 (hl.lt (a := 78) (by decide)) (hl.T (a := 78) (p := (0, 7)) 0 rfl rfl) rfl (show aCr 0 78 [.ref 78] 1 = some ([some (.ref 78)], []) from rfl)) hq15 ?_
          refine Q.run zm0 1 (i' := 46) (ls' := [some (.ref 0), some (.ref 78), some (.ref 121), some (.ref 148), some (.int x4), g5, g6]) (st' := [.ref 121]) rfl ?_
          obtain ⟨s20, hc19, h⟩ := bu_so h
          have hq18 : Q 0 sio tt cc d 173 0 [some (.ref 121)] [] s17 (.inl none, s20) := (dt173 (by omega) hq15.1  hc19).w
          refine Q.callV (gC_vi zm0 (show zM0.2.2.2.2.2[46]? = some (153, 3, .invokevirtual 81, [0, 173, 0, 9]) from rfl) zm173 (hq15.1.lt (a := 121) (by decide)) (hq15.1.T (a := 121) (p := (9, 45)) 43 rfl rfl) rfl (show aCr 0 121 [.ref 121] 1 = some ([some (.ref 121)], []) from rfl)) hq18 ?_
          refine Q.run zm0 1 (i' := 446) (ls' := [some (.ref 0), some (.ref 78), some (.ref 121), some (.ref 148), some (.int x4), g5, g6]) (st' := []) rfl ?_
          exact dt0_446 hd ih hq18.1  h
        · rw [if_neg hc14] at h
          by_cases hc21 : ((sI s 0 (jN x4)) &&& 15) = 2
          · rw [if_pos hc21] at h
            refine Q.map (A.ts (gI_of zm0 (e := (40, 80, .tableswitch 694 0 15 #[80, 108, 119, 135, 160, 196, 236, 309, 389, 414, 454, 482, 534, 586, 626, 654], [446, 25, 43, 48, 56, 72, 94, 122, 178, 234, 250, 278, 296, 334, 372, 400, 418])) rfl) (t := 48) (by rw [hc21] <;> decide)) ?_
            refine Q.run zm0 2 (i' := 50) (ls' := [some (.ref 0), some (.ref 78), some (.ref 121), some (.ref 148), some (.int x4), g5, g6]) (st' := [.ref 148, .ref 78]) rfl ?_
            obtain ⟨r25, s24, hc23, h⟩ := bv_so h
            have hq22 : Q 0 sio tt cc d 2 0 [some (.ref 78), some (.ref 148), none] [] s (.inl (some (.int r25)), s24) := (dt2 (by omega) hl  hc23).w
            refine Q.callI (gC_st zm0 (show zM0.2.2.2.2.2[50]? = some (161, 3, .invokestatic 82, [0, 2, 2]) from rfl) zm2 (show aC 2 [.ref 148, .ref 78] 3 = some ([some (.ref 78), some (.ref 148), none], []) from rfl)) hq22 ?_
            refine Q.run zm0 2 (i' := 53) (ls' := [some (.ref 0), some (.ref 78), some (.ref 121), some (.ref 148), some (.int x4), some (.int r25), g6]) (st' := [.ref 121]) rfl ?_
            obtain ⟨r29, s28, hc27, h⟩ := bv_so h
            have hq26 : Q 0 sio tt cc d 174 0 [some (.ref 121)] [] s24 (.inl (some (.int r29)), s28) := (dt174 (by omega) hq22.1  hc27).w
            refine Q.callI (gC_vi zm0 (show zM0.2.2.2.2.2[53]? = some (167, 3, .invokevirtual 85, [0, 174, 0, 9]) from rfl) zm174 (hq22.1.lt (a := 121) (by decide)) (hq22.1.T (a := 121) (p := (9, 45)) 43 rfl rfl) rfl (show aCr 0 121 [.ref 121] 1 = some ([some (.ref 121)], []) from rfl)) hq26 ?_
            refine Q.run zm0 2 (i' := 446) (ls' := [some (.ref 0), some (.ref 78), some (.ref 121), some (.ref 148), some (.int x4), some (.int r25), some (.int r29)]) (st' := []) rfl ?_
            exact dt0_446 hd ih hq26.1  h
          · rw [if_neg hc21] at h
            by_cases hc30 : ((sI s 0 (jN x4)) &&& 15) = 3
            · rw [if_pos hc30] at h
              refine Q.map (A.ts (gI_of zm0 (e := (40, 80, .tableswitch 694 0 15 #[80, 108, 119, 135, 160, 196, 236, 309, 389, 414, 454, 482, 534, 586, 626, 654], [446, 25, 43, 48, 56, 72, 94, 122, 178, 234, 250, 278, 296, 334, 372, 400, 418])) rfl) (t := 56) (by rw [hc30] <;> decide)) ?_
              refine Q.run zm0 5 (i' := 61) (ls' := [some (.ref 0), some (.ref 78), some (.ref 121), some (.ref 148), some (.int x4), g5, g6]) (st' := [.int (x4 + 1), .ref 0, .ref 78]) rfl ?_
              obtain ⟨hc31, h⟩ := ite_so h
              refine Q.map (A.ia (gI_of zm0 (e := (181, 1, .iaload, [])) rfl) (hl.lt (a := 0) (by decide)) hl.t0 hc31) ?_
              obtain ⟨r35, s34, hc33, h⟩ := bv_so h
              have hq32 : Q 0 sio tt cc d 3 0 [some (.ref 78), some (.int (sI s 0 (jN (x4 + 1)))), none] [] s (.inl (some (.int r35)), s34) := (dt3 (by omega) hl  hc33).w
              refine Q.callI (gC_st zm0 (show zM0.2.2.2.2.2[62]? = some (182, 3, .invokestatic 86, [0, 3, 2]) from rfl) zm3 (show aC 2 [.int (sI s 0 (jN (x4 + 1))), .ref 78] 3 = some ([some (.ref 78), some (.int (sI s 0 (jN (x4 + 1)))), none], []) from rfl)) hq32 ?_
              refine Q.run zm0 6 (i' := 69) (ls' := [some (.ref 0), some (.ref 78), some (.ref 121), some (.ref 148), some (.int x4), some (.int r35), g6]) (st' := [.int (x4 + 1), .ref 0, .ref 121]) rfl ?_
              obtain ⟨hc36, h⟩ := ite_so h
              refine Q.map (A.ia (gI_of zm0 (e := (193, 1, .iaload, [])) rfl) (hq32.1.lt (a := 0) (by decide)) hq32.1.t0 hc36) ?_
              obtain ⟨s39, hc38, h⟩ := bu_so h
              have hq37 : Q 0 sio tt cc d 180 0 [some (.ref 121), some (.int (sI s34 0 (jN (x4 + 1)))), none, none] [] s34 (.inl none, s39) := (dt180 (by omega) hq32.1  hc38).w
              refine Q.callV (gC_vi zm0 (show zM0.2.2.2.2.2[70]? = some (194, 3, .invokevirtual 89, [0, 180, 1, 9]) from rfl) zm180 (hq32.1.lt (a := 121) (by decide)) (hq32.1.T (a := 121) (p := (9, 45)) 43 rfl rfl) rfl (show aCr 1 121 [.int (sI s34 0 (jN (x4 + 1))), .ref 121] 4 = some ([some (.ref 121), some (.int (sI s34 0 (jN (x4 + 1)))), none, none], []) from rfl)) hq37 ?_
              refine Q.run zm0 1 (i' := 446) (ls' := [some (.ref 0), some (.ref 78), some (.ref 121), some (.ref 148), some (.int x4), some (.int r35), g6]) (st' := []) rfl ?_
              exact dt0_446 hd ih hq37.1  h
            · rw [if_neg hc30] at h
              by_cases hc40 : ((sI s 0 (jN x4)) &&& 15) = 4
              · rw [if_pos hc40] at h
                refine Q.map (A.ts (gI_of zm0 (e := (40, 80, .tableswitch 694 0 15 #[80, 108, 119, 135, 160, 196, 236, 309, 389, 414, 454, 482, 534, 586, 626, 654], [446, 25, 43, 48, 56, 72, 94, 122, 178, 234, 250, 278, 296, 334, 372, 400, 418])) rfl) (t := 72) (by rw [hc40] <;> decide)) ?_
                refine Q.run zm0 5 (i' := 77) (ls' := [some (.ref 0), some (.ref 78), some (.ref 121), some (.ref 148), some (.int x4), g5, g6]) (st' := [.int (x4 + 1), .ref 0, .ref 78]) rfl ?_
                obtain ⟨hc41, h⟩ := ite_so h
                refine Q.map (A.ia (gI_of zm0 (e := (206, 1, .iaload, [])) rfl) (hl.lt (a := 0) (by decide)) hl.t0 hc41) ?_
                obtain ⟨r45, s44, hc43, h⟩ := bv_so h
                have hq42 : Q 0 sio tt cc d 4 0 [some (.ref 78), some (.int (sI s 0 (jN (x4 + 1)))), none] [] s (.inl (some (.int r45)), s44) := (dt4 (by omega) hl  hc43).w
                refine Q.callI (gC_st zm0 (show zM0.2.2.2.2.2[78]? = some (207, 3, .invokestatic 90, [0, 4, 2]) from rfl) zm4 (show aC 2 [.int (sI s 0 (jN (x4 + 1))), .ref 78] 3 = some ([some (.ref 78), some (.int (sI s 0 (jN (x4 + 1)))), none], []) from rfl)) hq42 ?_
                refine Q.run zm0 6 (i' := 85) (ls' := [some (.ref 0), some (.ref 78), some (.ref 121), some (.ref 148), some (.int x4), some (.int r45), g6]) (st' := [.int (x4 + 1), .ref 0, .ref 121]) rfl ?_
                obtain ⟨hc46, h⟩ := ite_so h
                refine Q.map (A.ia (gI_of zm0 (e := (218, 1, .iaload, [])) rfl) (hq42.1.lt (a := 0) (by decide)) hq42.1.t0 hc46) ?_
                obtain ⟨s49, hc48, h⟩ := bu_so h
                have hq47 : Q 0 sio tt cc d 182 0 [some (.ref 121), some (.int (sI s44 0 (jN (x4 + 1)))), none, none] [] s44 (.inl none, s49) := (dt182 (by omega) hq42.1  hc48).w
                refine Q.callV (gC_vi zm0 (show zM0.2.2.2.2.2[86]? = some (219, 3, .invokevirtual 92, [0, 182, 1, 9]) from rfl) zm182 (hq42.1.lt (a := 121) (by decide)) (hq42.1.T (a := 121) (p := (9, 45)) 43 rfl rfl) rfl (show aCr 1 121 [.int (sI s44 0 (jN (x4 + 1))), .ref 121] 4 = some ([some (.ref 121), some (.int (sI s44 0 (jN (x4 + 1)))), none, none], []) from rfl)) hq47 ?_
                refine Q.run zm0 1 (i' := 88) (ls' := [some (.ref 0), some (.ref 78), some (.ref 121), some (.ref 148), some (.int x4), some (.int r45), g6]) (st' := [.ref 121]) rfl ?_
                obtain ⟨r52, hc51, h⟩ := bu_so h
                have hq50 : Q 0 sio tt cc d 171 0 [some (.ref 121)] [] s49 (.inl (some (.int r52)), s49) := (dt171 (by omega) hq47.1  hc51).w
                refine Q.callI (gC_vi zm0 (show zM0.2.2.2.2.2[88]? = some (223, 3, .invokevirtual 93, [0, 171, 0, 9]) from rfl) zm171 (hq47.1.lt (a := 121) (by decide)) (hq47.1.T (a := 121) (p := (9, 45)) 43 rfl rfl) rfl (show aCr 0 121 [.ref 121] 1 = some ([some (.ref 121)], []) from rfl)) hq50 ?_
                refine Q.run zm0 1 (i' := 90) (ls' := [some (.ref 0), some (.ref 78), some (.ref 121), some (.ref 148), some (.int x4), some (.int r45), g6]) (st' := [.int r45, .int r52]) rfl ?_
                by_cases hc53 : r52 = r45
                · rw [if_pos hc53] at h
                  refine Q.map (A.bT (gI_of zm0 (e := (228, 3, .if_icmp .eq 5, [93])) rfl) (decide_eq_true hc53)) ?_
                  refine Q.run zm0 1 (i' := 446) (ls' := [some (.ref 0), some (.ref 78), some (.ref 121), some (.ref 148), some (.int x4), some (.int r45), g6]) (st' := []) rfl ?_
                  exact dt0_446 hd ih hq47.1  h
                · rw [if_neg hc53] at h
                  refine Q.map (A.bF (gI_of zm0 (e := (228, 3, .if_icmp .eq 5, [93])) rfl) (fun q => hc53 (of_decide_eq_true q))) ?_
                  refine Q.run zm0 1 (i' := 92) (ls' := [some (.ref 0), some (.ref 78), some (.ref 121), some (.ref 148), some (.int x4), some (.int r45), g6]) (st' := [.int 0]) rfl ?_
                  cases h
                  exact Q.ret (A.ri zm0 (show zM0.2.2.2.2.2[92]? = some (232, 1, .ireturn, []) from rfl) rfl rfl) hq47.1
              · rw [if_neg hc40] at h
                by_cases hc54 : ((sI s 0 (jN x4)) &&& 15) = 5
                · rw [if_pos hc54] at h
                  refine Q.map (A.ts (gI_of zm0 (e := (40, 80, .tableswitch 694 0 15 #[80, 108, 119, 135, 160, 196, 236, 309, 389, 414, 454, 482, 534, 586, 626, 654], [446, 25, 43, 48, 56, 72, 94, 122, 178, 234, 250, 278, 296, 334, 372, 400, 418])) rfl) (t := 94) (by rw [hc54] <;> decide)) ?_
                  refine Q.run zm0 5 (i' := 99) (ls' := [some (.ref 0), some (.ref 78), some (.ref 121), some (.ref 148), some (.int x4), g5, g6]) (st' := [.int (x4 + 1), .ref 0, .ref 78]) rfl ?_
                  obtain ⟨hc55, h⟩ := ite_so h
                  refine Q.map (A.ia (gI_of zm0 (e := (242, 1, .iaload, [])) rfl) (hl.lt (a := 0) (by decide)) hl.t0 hc55) ?_
                  refine Q.run zm0 4 (i' := 104) (ls' := [some (.ref 0), some (.ref 78), some (.ref 121), some (.ref 148), some (.int x4), g5, g6]) (st' := [.int (x4 + 2), .ref 0, .int (sI s 0 (jN (x4 + 1))), .ref 78]) rfl ?_
                  obtain ⟨hc56, h⟩ := ite_so h
                  refine Q.map (A.ia (gI_of zm0 (e := (248, 1, .iaload, [])) rfl) (hl.lt (a := 0) (by decide)) hl.t0 hc56) ?_
                  refine Q.run zm0 1 (i' := 106) (ls' := [some (.ref 0), some (.ref 78), some (.ref 121), some (.ref 148), some (.int x4), g5, g6]) (st' := [.ref 148, .int (sI s 0 (jN (x4 + 2))), .int (sI s 0 (jN (x4 + 1))), .ref 78]) rfl ?_
                  obtain ⟨r60, s59, hc58, h⟩ := bv_so h
                  have hq57 : Q 0 sio tt cc d 5 0 [some (.ref 78), some (.int (sI s 0 (jN (x4 + 1)))), some (.int (sI s 0 (jN (x4 + 2)))), some (.ref 148), none] [] s (.inl (some (.int r60)), s59) := (dt5 (by omega) hl  hc58).w
                  refine Q.callI (gC_st zm0 (show zM0.2.2.2.2.2[106]? = some (250, 3, .invokestatic 96, [0, 5, 4]) from rfl) zm5 (show aC 4 [.ref 148, .int (sI s 0 (jN (x4 + 2))), .int (sI s 0 (jN (x4 + 1))), .ref 78] 5 = some ([some (.ref 78), some (.int (sI s 0 (jN (x4 + 1)))), some (.int (sI s 0 (jN (x4 + 2)))), some (.ref 148), none], []) from rfl)) hq57 ?_
                  refine Q.run zm0 6 (i' := 113) (ls' := [some (.ref 0), some (.ref 78), some (.ref 121), some (.ref 148), some (.int x4), some (.int r60), g6]) (st' := [.int (x4 + 1), .ref 0, .ref 121]) rfl ?_
                  obtain ⟨hc61, h⟩ := ite_so h
                  refine Q.map (A.ia (gI_of zm0 (e := (261, 1, .iaload, [])) rfl) (hq57.1.lt (a := 0) (by decide)) hq57.1.t0 hc61) ?_
                  refine Q.run zm0 4 (i' := 118) (ls' := [some (.ref 0), some (.ref 78), some (.ref 121), some (.ref 148), some (.int x4), some (.int r60), g6]) (st' := [.int (x4 + 2), .ref 0, .int (sI s59 0 (jN (x4 + 1))), .ref 121]) rfl ?_
                  obtain ⟨hc62, h⟩ := ite_so h
                  refine Q.map (A.ia (gI_of zm0 (e := (267, 1, .iaload, [])) rfl) (hq57.1.lt (a := 0) (by decide)) hq57.1.t0 hc62) ?_
                  obtain ⟨r66, s65, hc64, h⟩ := bv_so h
                  have hq63 : Q 0 sio tt cc d 184 0 [some (.ref 121), some (.int (sI s59 0 (jN (x4 + 1)))), some (.int (sI s59 0 (jN (x4 + 2)))), none] [] s59 (.inl (some (.int r66)), s65) := (dt184 (by omega) hq57.1  hc64).w
                  refine Q.callI (gC_vi zm0 (show zM0.2.2.2.2.2[119]? = some (268, 3, .invokevirtual 99, [0, 184, 2, 9]) from rfl) zm184 (hq57.1.lt (a := 121) (by decide)) (hq57.1.T (a := 121) (p := (9, 45)) 43 rfl rfl) rfl (show aCr 2 121 [.int (sI s59 0 (jN (x4 + 2))), .int (sI s59 0 (jN (x4 + 1))), .ref 121] 4 = some ([some (.ref 121), some (.int (sI s59 0 (jN (x4 + 1)))), some (.int (sI s59 0 (jN (x4 + 2)))), none], []) from rfl)) hq63 ?_
                  refine Q.run zm0 2 (i' := 446) (ls' := [some (.ref 0), some (.ref 78), some (.ref 121), some (.ref 148), some (.int x4), some (.int r60), some (.int r66)]) (st' := []) rfl ?_
                  exact dt0_446 hd ih hq63.1  h
                · rw [if_neg hc54] at h
                  by_cases hc67 : ((sI s 0 (jN x4)) &&& 15) = 6
                  · rw [if_pos hc67] at h
                    refine Q.map (A.ts (gI_of zm0 (e := (40, 80, .tableswitch 694 0 15 #[80, 108, 119, 135, 160, 196, 236, 309, 389, 414, 454, 482, 534, 586, 626, 654], [446, 25, 43, 48, 56, 72, 94, 122, 178, 234, 250, 278, 296, 334, 372, 400, 418])) rfl) (t := 122) (by rw [hc67] <;> decide)) ?_
                    refine Q.run zm0 5 (i' := 127) (ls' := [some (.ref 0), some (.ref 78), some (.ref 121), some (.ref 148), some (.int x4), g5, g6]) (st' := [.int (x4 + 1), .ref 0, .ref 78]) rfl ?_
                    obtain ⟨hc68, h⟩ := ite_so h
                    refine Q.map (A.ia (gI_of zm0 (e := (282, 1, .iaload, [])) rfl) (hl.lt (a := 0) (by decide)) hl.t0 hc68) ?_
                    refine Q.run zm0 4 (i' := 132) (ls' := [some (.ref 0), some (.ref 78), some (.ref 121), some (.ref 148), some (.int x4), g5, g6]) (st' := [.int (x4 + 2), .ref 0, .int (sI s 0 (jN (x4 + 1))), .ref 78]) rfl ?_
                    obtain ⟨hc69, h⟩ := ite_so h
                    refine Q.map (A.ia (gI_of zm0 (e := (288, 1, .iaload, [])) rfl) (hl.lt (a := 0) (by decide)) hl.t0 hc69) ?_
                    refine Q.run zm0 4 (i' := 137) (ls' := [some (.ref 0), some (.ref 78), some (.ref 121), some (.ref 148), some (.int x4), g5, g6]) (st' := [.int (x4 + 3), .ref 0, .int (sI s 0 (jN (x4 + 2))), .int (sI s 0 (jN (x4 + 1))), .ref 78]) rfl ?_
                    obtain ⟨hc70, h⟩ := ite_so h
                    refine Q.map (A.ia (gI_of zm0 (e := (294, 1, .iaload, [])) rfl) (hl.lt (a := 0) (by decide)) hl.t0 hc70) ?_
                    refine Q.run zm0 4 (i' := 142) (ls' := [some (.ref 0), some (.ref 78), some (.ref 121), some (.ref 148), some (.int x4), g5, g6]) (st' := [.int (x4 + 4), .ref 0, .int (sI s 0 (jN (x4 + 3))), .int (sI s 0 (jN (x4 + 2))), .int (sI s 0 (jN (x4 + 1))), .ref 78]) rfl ?_
                    obtain ⟨hc71, h⟩ := ite_so h
                    refine Q.map (A.ia (gI_of zm0 (e := (300, 1, .iaload, [])) rfl) (hl.lt (a := 0) (by decide)) hl.t0 hc71) ?_
                    refine Q.run zm0 4 (i' := 147) (ls' := [some (.ref 0), some (.ref 78), some (.ref 121), some (.ref 148), some (.int x4), g5, g6]) (st' := [.int (x4 + 5), .ref 0, .int (sI s 0 (jN (x4 + 4))), .int (sI s 0 (jN (x4 + 3))), .int (sI s 0 (jN (x4 + 2))), .int (sI s 0 (jN (x4 + 1))), .ref 78]) rfl ?_
                    obtain ⟨hc72, h⟩ := ite_so h
                    refine Q.map (A.ia (gI_of zm0 (e := (306, 1, .iaload, [])) rfl) (hl.lt (a := 0) (by decide)) hl.t0 hc72) ?_
                    obtain ⟨r76, s75, hc74, h⟩ := bv_so h
                    have hq73 : Q 0 sio tt cc d 6 0 [some (.ref 78), some (.int (sI s 0 (jN (x4 + 1)))), some (.int (sI s 0 (jN (x4 + 2)))), some (.int (sI s 0 (jN (x4 + 3)))), some (.int (sI s 0 (jN (x4 + 4)))), some (.int (sI s 0 (jN (x4 + 5)))), none] [] s (.inl (some (.int r76)), s75) := (dt6 (by omega) hl  hc74).w
                    refine Q.callI (gC_st zm0 (show zM0.2.2.2.2.2[148]? = some (307, 3, .invokestatic 100, [0, 6, 6]) from rfl) zm6 (show aC 6 [.int (sI s 0 (jN (x4 + 5))), .int (sI s 0 (jN (x4 + 4))), .int (sI s 0 (jN (x4 + 3))), .int (sI s 0 (jN (x4 + 2))), .int (sI s 0 (jN (x4 + 1))), .ref 78] 7 = some ([some (.ref 78), some (.int (sI s 0 (jN (x4 + 1)))), some (.int (sI s 0 (jN (x4 + 2)))), some (.int (sI s 0 (jN (x4 + 3)))), some (.int (sI s 0 (jN (x4 + 4)))), some (.int (sI s 0 (jN (x4 + 5)))), none], []) from rfl)) hq73 ?_
                    refine Q.run zm0 6 (i' := 155) (ls' := [some (.ref 0), some (.ref 78), some (.ref 121), some (.ref 148), some (.int x4), some (.int r76), g6]) (st' := [.int (x4 + 1), .ref 0, .ref 121]) rfl ?_
                    obtain ⟨hc77, h⟩ := ite_so h
                    refine Q.map (A.ia (gI_of zm0 (e := (318, 1, .iaload, [])) rfl) (hq73.1.lt (a := 0) (by decide)) hq73.1.t0 hc77) ?_
                    refine Q.run zm0 4 (i' := 160) (ls' := [some (.ref 0), some (.ref 78), some (.ref 121), some (.ref 148), some (.int x4), some (.int r76), g6]) (st' := [.int (x4 + 2), .ref 0, .int (sI s75 0 (jN (x4 + 1))), .ref 121]) rfl ?_
                    obtain ⟨hc78, h⟩ := ite_so h
                    refine Q.map (A.ia (gI_of zm0 (e := (324, 1, .iaload, [])) rfl) (hq73.1.lt (a := 0) (by decide)) hq73.1.t0 hc78) ?_
                    refine Q.run zm0 4 (i' := 165) (ls' := [some (.ref 0), some (.ref 78), some (.ref 121), some (.ref 148), some (.int x4), some (.int r76), g6]) (st' := [.int (x4 + 3), .ref 0, .int (sI s75 0 (jN (x4 + 2))), .int (sI s75 0 (jN (x4 + 1))), .ref 121]) rfl ?_
                    obtain ⟨hc79, h⟩ := ite_so h
                    refine Q.map (A.ia (gI_of zm0 (e := (330, 1, .iaload, [])) rfl) (hq73.1.lt (a := 0) (by decide)) hq73.1.t0 hc79) ?_
                    refine Q.run zm0 4 (i' := 170) (ls' := [some (.ref 0), some (.ref 78), some (.ref 121), some (.ref 148), some (.int x4), some (.int r76), g6]) (st' := [.int (x4 + 4), .ref 0, .int (sI s75 0 (jN (x4 + 3))), .int (sI s75 0 (jN (x4 + 2))), .int (sI s75 0 (jN (x4 + 1))), .ref 121]) rfl ?_
                    obtain ⟨hc80, h⟩ := ite_so h
                    refine Q.map (A.ia (gI_of zm0 (e := (336, 1, .iaload, [])) rfl) (hq73.1.lt (a := 0) (by decide)) hq73.1.t0 hc80) ?_
                    refine Q.run zm0 4 (i' := 175) (ls' := [some (.ref 0), some (.ref 78), some (.ref 121), some (.ref 148), some (.int x4), some (.int r76), g6]) (st' := [.int (x4 + 5), .ref 0, .int (sI s75 0 (jN (x4 + 4))), .int (sI s75 0 (jN (x4 + 3))), .int (sI s75 0 (jN (x4 + 2))), .int (sI s75 0 (jN (x4 + 1))), .ref 121]) rfl ?_
                    obtain ⟨hc81, h⟩ := ite_so h
                    refine Q.map (A.ia (gI_of zm0 (e := (342, 1, .iaload, [])) rfl) (hq73.1.lt (a := 0) (by decide)) hq73.1.t0 hc81) ?_
                    obtain ⟨s84, hc83, h⟩ := bu_so h
                    have hq82 : Q 0 sio tt cc d 224 0 [some (.ref 121), some (.int (sI s75 0 (jN (x4 + 1)))), some (.int (sI s75 0 (jN (x4 + 2)))), some (.int (sI s75 0 (jN (x4 + 3)))), some (.int (sI s75 0 (jN (x4 + 4)))), some (.int (sI s75 0 (jN (x4 + 5)))), none, none, none] [] s75 (.inl none, s84) := (dt224 (by omega) hq73.1  hc83).w
                    refine Q.callV (gC_vi zm0 (show zM0.2.2.2.2.2[176]? = some (343, 3, .invokevirtual 103, [0, 224, 5, 9]) from rfl) zm224 (hq73.1.lt (a := 121) (by decide)) (hq73.1.T (a := 121) (p := (9, 45)) 43 rfl rfl) rfl (show aCr 5 121 [.int (sI s75 0 (jN (x4 + 5))), .int (sI s75 0 (jN (x4 + 4))), .int (sI s75 0 (jN (x4 + 3))), .int (sI s75 0 (jN (x4 + 2))), .int (sI s75 0 (jN (x4 + 1))), .ref 121] 9 = some ([some (.ref 121), some (.int (sI s75 0 (jN (x4 + 1)))), some (.int (sI s75 0 (jN (x4 + 2)))), some (.int (sI s75 0 (jN (x4 + 3)))), some (.int (sI s75 0 (jN (x4 + 4)))), some (.int (sI s75 0 (jN (x4 + 5)))), none, none, none], []) from rfl)) hq82 ?_
                    refine Q.run zm0 1 (i' := 446) (ls' := [some (.ref 0), some (.ref 78), some (.ref 121), some (.ref 148), some (.int x4), some (.int r76), g6]) (st' := []) rfl ?_
                    exact dt0_446 hd ih hq82.1  h
                  · rw [if_neg hc67] at h
                    by_cases hc85 : ((sI s 0 (jN x4)) &&& 15) = 7
                    · rw [if_pos hc85] at h
                      refine Q.map (A.ts (gI_of zm0 (e := (40, 80, .tableswitch 694 0 15 #[80, 108, 119, 135, 160, 196, 236, 309, 389, 414, 454, 482, 534, 586, 626, 654], [446, 25, 43, 48, 56, 72, 94, 122, 178, 234, 250, 278, 296, 334, 372, 400, 418])) rfl) (t := 178) (by rw [hc85] <;> decide)) ?_
                      refine Q.run zm0 5 (i' := 183) (ls' := [some (.ref 0), some (.ref 78), some (.ref 121), some (.ref 148), some (.int x4), g5, g6]) (st' := [.int (x4 + 1), .ref 0, .ref 78]) rfl ?_
                      obtain ⟨hc86, h⟩ := ite_so h
                      refine Q.map (A.ia (gI_of zm0 (e := (355, 1, .iaload, [])) rfl) (hl.lt (a := 0) (by decide)) hl.t0 hc86) ?_
                      refine Q.run zm0 4 (i' := 188) (ls' := [some (.ref 0), some (.ref 78), some (.ref 121), some (.ref 148), some (.int x4), g5, g6]) (st' := [.int (x4 + 2), .ref 0, .int (sI s 0 (jN (x4 + 1))), .ref 78]) rfl ?_
                      obtain ⟨hc87, h⟩ := ite_so h
                      refine Q.map (A.ia (gI_of zm0 (e := (361, 1, .iaload, [])) rfl) (hl.lt (a := 0) (by decide)) hl.t0 hc87) ?_
                      by_cases hc88 : (sI s 0 (jN (x4 + 2))) = 0
                      · rw [if_pos hc88] at h
                        refine Q.map (A.zT (gI_of zm0 (e := (362, 3, .ifCond .eq 7, [192])) rfl) (decide_eq_true hc88)) ?_
                        refine Q.run zm0 1 (i' := 193) (ls' := [some (.ref 0), some (.ref 78), some (.ref 121), some (.ref 148), some (.int x4), g5, g6]) (st' := [.int 0, .int (sI s 0 (jN (x4 + 1))), .ref 78]) rfl ?_
                        exact dt0_193 hd ih hl  h
                      · rw [if_neg hc88] at h
                        refine Q.map (A.zF (gI_of zm0 (e := (362, 3, .ifCond .eq 7, [192])) rfl) (fun q => hc88 (of_decide_eq_true q))) ?_
                        refine Q.run zm0 2 (i' := 193) (ls' := [some (.ref 0), some (.ref 78), some (.ref 121), some (.ref 148), some (.int x4), g5, g6]) (st' := [.int 1, .int (sI s 0 (jN (x4 + 1))), .ref 78]) rfl ?_
                        exact dt0_193 hd ih hl  h
                    · rw [if_neg hc85] at h
                      by_cases hc89 : ((sI s 0 (jN x4)) &&& 15) = 8
                      · rw [if_pos hc89] at h
                        refine Q.map (A.ts (gI_of zm0 (e := (40, 80, .tableswitch 694 0 15 #[80, 108, 119, 135, 160, 196, 236, 309, 389, 414, 454, 482, 534, 586, 626, 654], [446, 25, 43, 48, 56, 72, 94, 122, 178, 234, 250, 278, 296, 334, 372, 400, 418])) rfl) (t := 234) (by rw [hc89] <;> decide)) ?_
                        refine Q.run zm0 5 (i' := 239) (ls' := [some (.ref 0), some (.ref 78), some (.ref 121), some (.ref 148), some (.int x4), g5, g6]) (st' := [.int (x4 + 1), .ref 0, .ref 78]) rfl ?_
                        obtain ⟨hc90, h⟩ := ite_so h
                        refine Q.map (A.ia (gI_of zm0 (e := (435, 1, .iaload, [])) rfl) (hl.lt (a := 0) (by decide)) hl.t0 hc90) ?_
                        obtain ⟨r94, s93, hc92, h⟩ := bv_so h
                        have hq91 : Q 0 sio tt cc d 8 0 [some (.ref 78), some (.int (sI s 0 (jN (x4 + 1)))), none] [] s (.inl (some (.int r94)), s93) := (dt8 (by omega) hl  hc92).w
                        refine Q.callI (gC_st zm0 (show zM0.2.2.2.2.2[240]? = some (436, 3, .invokestatic 108, [0, 8, 2]) from rfl) zm8 (show aC 2 [.int (sI s 0 (jN (x4 + 1))), .ref 78] 3 = some ([some (.ref 78), some (.int (sI s 0 (jN (x4 + 1)))), none], []) from rfl)) hq91 ?_
                        refine Q.run zm0 6 (i' := 247) (ls' := [some (.ref 0), some (.ref 78), some (.ref 121), some (.ref 148), some (.int x4), some (.int r94), g6]) (st' := [.int (x4 + 1), .ref 0, .ref 121]) rfl ?_
                        obtain ⟨hc95, h⟩ := ite_so h
                        refine Q.map (A.ia (gI_of zm0 (e := (447, 1, .iaload, [])) rfl) (hq91.1.lt (a := 0) (by decide)) hq91.1.t0 hc95) ?_
                        obtain ⟨s98, hc97, h⟩ := bu_so h
                        have hq96 : Q 0 sio tt cc d 231 0 [some (.ref 121), some (.int (sI s93 0 (jN (x4 + 1))))] [] s93 (.inl none, s98) := (dt231 (by omega) hq91.1  hc97).w
                        refine Q.callV (gC_vi zm0 (show zM0.2.2.2.2.2[248]? = some (448, 3, .invokevirtual 110, [0, 231, 1, 9]) from rfl) zm231 (hq91.1.lt (a := 121) (by decide)) (hq91.1.T (a := 121) (p := (9, 45)) 43 rfl rfl) rfl (show aCr 1 121 [.int (sI s93 0 (jN (x4 + 1))), .ref 121] 2 = some ([some (.ref 121), some (.int (sI s93 0 (jN (x4 + 1))))], []) from rfl)) hq96 ?_
                        refine Q.run zm0 1 (i' := 446) (ls' := [some (.ref 0), some (.ref 78), some (.ref 121), some (.ref 148), some (.int x4), some (.int r94), g6]) (st' := []) rfl ?_
                        exact dt0_446 hd ih hq96.1  h
                      · rw [if_neg hc89] at h
                        by_cases hc99 : ((sI s 0 (jN x4)) &&& 15) = 9
                        · rw [if_pos hc99] at h
                          refine Q.map (A.ts (gI_of zm0 (e := (40, 80, .tableswitch 694 0 15 #[80, 108, 119, 135, 160, 196, 236, 309, 389, 414, 454, 482, 534, 586, 626, 654], [446, 25, 43, 48, 56, 72, 94, 122, 178, 234, 250, 278, 296, 334, 372, 400, 418])) rfl) (t := 250) (by rw [hc99] <;> decide)) ?_
                          refine Q.run zm0 5 (i' := 255) (ls' := [some (.ref 0), some (.ref 78), some (.ref 121), some (.ref 148), some (.int x4), g5, g6]) (st' := [.int (x4 + 1), .ref 0, .ref 78]) rfl ?_
                          obtain ⟨hc100, h⟩ := ite_so h
                          refine Q.map (A.ia (gI_of zm0 (e := (460, 1, .iaload, [])) rfl) (hl.lt (a := 0) (by decide)) hl.t0 hc100) ?_
                          refine Q.run zm0 4 (i' := 260) (ls' := [some (.ref 0), some (.ref 78), some (.ref 121), some (.ref 148), some (.int x4), g5, g6]) (st' := [.int (x4 + 2), .ref 0, .int (sI s 0 (jN (x4 + 1))), .ref 78]) rfl ?_
                          obtain ⟨hc101, h⟩ := ite_so h
                          refine Q.map (A.ia (gI_of zm0 (e := (466, 1, .iaload, [])) rfl) (hl.lt (a := 0) (by decide)) hl.t0 hc101) ?_
                          refine Q.run zm0 1 (i' := 262) (ls' := [some (.ref 0), some (.ref 78), some (.ref 121), some (.ref 148), some (.int x4), g5, g6]) (st' := [.ref 148, .int (sI s 0 (jN (x4 + 2))), .int (sI s 0 (jN (x4 + 1))), .ref 78]) rfl ?_
                          obtain ⟨r105, s104, hc103, h⟩ := bv_so h
                          have hq102 : Q 0 sio tt cc d 9 0 [some (.ref 78), some (.int (sI s 0 (jN (x4 + 1)))), some (.int (sI s 0 (jN (x4 + 2)))), some (.ref 148), none] [] s (.inl (some (.int r105)), s104) := (dt9 (by omega) hl  hc103).w
                          refine Q.callI (gC_st zm0 (show zM0.2.2.2.2.2[262]? = some (468, 3, .invokestatic 111, [0, 9, 4]) from rfl) zm9 (show aC 4 [.ref 148, .int (sI s 0 (jN (x4 + 2))), .int (sI s 0 (jN (x4 + 1))), .ref 78] 5 = some ([some (.ref 78), some (.int (sI s 0 (jN (x4 + 1)))), some (.int (sI s 0 (jN (x4 + 2)))), some (.ref 148), none], []) from rfl)) hq102 ?_
                          refine Q.run zm0 6 (i' := 269) (ls' := [some (.ref 0), some (.ref 78), some (.ref 121), some (.ref 148), some (.int x4), some (.int r105), g6]) (st' := [.int (x4 + 1), .ref 0, .ref 121]) rfl ?_
                          obtain ⟨hc106, h⟩ := ite_so h
                          refine Q.map (A.ia (gI_of zm0 (e := (479, 1, .iaload, [])) rfl) (hq102.1.lt (a := 0) (by decide)) hq102.1.t0 hc106) ?_
                          refine Q.run zm0 4 (i' := 274) (ls' := [some (.ref 0), some (.ref 78), some (.ref 121), some (.ref 148), some (.int x4), some (.int r105), g6]) (st' := [.int (x4 + 2), .ref 0, .int (sI s104 0 (jN (x4 + 1))), .ref 121]) rfl ?_
                          obtain ⟨hc107, h⟩ := ite_so h
                          refine Q.map (A.ia (gI_of zm0 (e := (485, 1, .iaload, [])) rfl) (hq102.1.lt (a := 0) (by decide)) hq102.1.t0 hc107) ?_
                          obtain ⟨r111, s110, hc109, h⟩ := bv_so h
                          have hq108 : Q 0 sio tt cc d 232 0 [some (.ref 121), some (.int (sI s104 0 (jN (x4 + 1)))), some (.int (sI s104 0 (jN (x4 + 2))))] [] s104 (.inl (some (.int r111)), s110) := (dt232 (by omega) hq102.1  hc109).w
                          refine Q.callI (gC_vi zm0 (show zM0.2.2.2.2.2[275]? = some (486, 3, .invokevirtual 113, [0, 232, 2, 9]) from rfl) zm232 (hq102.1.lt (a := 121) (by decide)) (hq102.1.T (a := 121) (p := (9, 45)) 43 rfl rfl) rfl (show aCr 2 121 [.int (sI s104 0 (jN (x4 + 2))), .int (sI s104 0 (jN (x4 + 1))), .ref 121] 3 = some ([some (.ref 121), some (.int (sI s104 0 (jN (x4 + 1)))), some (.int (sI s104 0 (jN (x4 + 2))))], []) from rfl)) hq108 ?_
                          refine Q.run zm0 2 (i' := 446) (ls' := [some (.ref 0), some (.ref 78), some (.ref 121), some (.ref 148), some (.int x4), some (.int r105), some (.int r111)]) (st' := []) rfl ?_
                          exact dt0_446 hd ih hq108.1  h
                        · rw [if_neg hc99] at h
                          by_cases hc112 : ((sI s 0 (jN x4)) &&& 15) = 10
                          · rw [if_pos hc112] at h
                            refine Q.map (A.ts (gI_of zm0 (e := (40, 80, .tableswitch 694 0 15 #[80, 108, 119, 135, 160, 196, 236, 309, 389, 414, 454, 482, 534, 586, 626, 654], [446, 25, 43, 48, 56, 72, 94, 122, 178, 234, 250, 278, 296, 334, 372, 400, 418])) rfl) (t := 278) (by rw [hc112] <;> decide)) ?_
                            refine Q.run zm0 5 (i' := 283) (ls' := [some (.ref 0), some (.ref 78), some (.ref 121), some (.ref 148), some (.int x4), g5, g6]) (st' := [.int (x4 + 1), .ref 0, .ref 78]) rfl ?_
                            obtain ⟨hc113, h⟩ := ite_so h
                            refine Q.map (A.ia (gI_of zm0 (e := (500, 1, .iaload, [])) rfl) (hl.lt (a := 0) (by decide)) hl.t0 hc113) ?_
                            refine Q.run zm0 1 (i' := 285) (ls' := [some (.ref 0), some (.ref 78), some (.ref 121), some (.ref 148), some (.int x4), g5, g6]) (st' := [.ref 148, .int (sI s 0 (jN (x4 + 1))), .ref 78]) rfl ?_
                            obtain ⟨r117, s116, hc115, h⟩ := bv_so h
                            have hq114 : Q 0 sio tt cc d 10 0 [some (.ref 78), some (.int (sI s 0 (jN (x4 + 1)))), some (.ref 148), none] [] s (.inl (some (.int r117)), s116) := (dt10 (by omega) hl  hc115).w
                            refine Q.callI (gC_st zm0 (show zM0.2.2.2.2.2[285]? = some (502, 3, .invokestatic 114, [0, 10, 3]) from rfl) zm10 (show aC 3 [.ref 148, .int (sI s 0 (jN (x4 + 1))), .ref 78] 4 = some ([some (.ref 78), some (.int (sI s 0 (jN (x4 + 1)))), some (.ref 148), none], []) from rfl)) hq114 ?_
                            refine Q.run zm0 6 (i' := 292) (ls' := [some (.ref 0), some (.ref 78), some (.ref 121), some (.ref 148), some (.int x4), some (.int r117), g6]) (st' := [.int (x4 + 1), .ref 0, .ref 121]) rfl ?_
                            obtain ⟨hc118, h⟩ := ite_so h
                            refine Q.map (A.ia (gI_of zm0 (e := (513, 1, .iaload, [])) rfl) (hq114.1.lt (a := 0) (by decide)) hq114.1.t0 hc118) ?_
                            obtain ⟨r122, s121, hc120, h⟩ := bv_so h
                            have hq119 : Q 0 sio tt cc d 243 0 [some (.ref 121), some (.int (sI s116 0 (jN (x4 + 1))))] [] s116 (.inl (some (.int r122)), s121) := (dt243 (by omega) hq114.1  hc120).w
                            refine Q.callI (gC_vi zm0 (show zM0.2.2.2.2.2[293]? = some (514, 3, .invokevirtual 116, [0, 243, 1, 9]) from rfl) zm243 (hq114.1.lt (a := 121) (by decide)) (hq114.1.T (a := 121) (p := (9, 45)) 43 rfl rfl) rfl (show aCr 1 121 [.int (sI s116 0 (jN (x4 + 1))), .ref 121] 2 = some ([some (.ref 121), some (.int (sI s116 0 (jN (x4 + 1))))], []) from rfl)) hq119 ?_
                            refine Q.run zm0 2 (i' := 446) (ls' := [some (.ref 0), some (.ref 78), some (.ref 121), some (.ref 148), some (.int x4), some (.int r117), some (.int r122)]) (st' := []) rfl ?_
                            exact dt0_446 hd ih hq119.1  h
                          · rw [if_neg hc112] at h
                            by_cases hc123 : ((sI s 0 (jN x4)) &&& 15) = 11
                            · rw [if_pos hc123] at h
                              refine Q.map (A.ts (gI_of zm0 (e := (40, 80, .tableswitch 694 0 15 #[80, 108, 119, 135, 160, 196, 236, 309, 389, 414, 454, 482, 534, 586, 626, 654], [446, 25, 43, 48, 56, 72, 94, 122, 178, 234, 250, 278, 296, 334, 372, 400, 418])) rfl) (t := 296) (by rw [hc123] <;> decide)) ?_
                              refine Q.run zm0 5 (i' := 301) (ls' := [some (.ref 0), some (.ref 78), some (.ref 121), some (.ref 148), some (.int x4), g5, g6]) (st' := [.int (x4 + 1), .ref 0, .ref 78]) rfl ?_
                              obtain ⟨hc124, h⟩ := ite_so h
                              refine Q.map (A.ia (gI_of zm0 (e := (528, 1, .iaload, [])) rfl) (hl.lt (a := 0) (by decide)) hl.t0 hc124) ?_
                              refine Q.run zm0 4 (i' := 306) (ls' := [some (.ref 0), some (.ref 78), some (.ref 121), some (.ref 148), some (.int x4), g5, g6]) (st' := [.int (x4 + 2), .ref 0, .int (sI s 0 (jN (x4 + 1))), .ref 78]) rfl ?_
                              obtain ⟨hc125, h⟩ := ite_so h
                              refine Q.map (A.ia (gI_of zm0 (e := (534, 1, .iaload, [])) rfl) (hl.lt (a := 0) (by decide)) hl.t0 hc125) ?_
                              refine Q.run zm0 4 (i' := 311) (ls' := [some (.ref 0), some (.ref 78), some (.ref 121), some (.ref 148), some (.int x4), g5, g6]) (st' := [.int (x4 + 3), .ref 0, .int (sI s 0 (jN (x4 + 2))), .int (sI s 0 (jN (x4 + 1))), .ref 78]) rfl ?_
                              obtain ⟨hc126, h⟩ := ite_so h
                              refine Q.map (A.ia (gI_of zm0 (e := (540, 1, .iaload, [])) rfl) (hl.lt (a := 0) (by decide)) hl.t0 hc126) ?_
                              refine Q.run zm0 1 (i' := 313) (ls' := [some (.ref 0), some (.ref 78), some (.ref 121), some (.ref 148), some (.int x4), g5, g6]) (st' := [.ref 148, .int (sI s 0 (jN (x4 + 3))), .int (sI s 0 (jN (x4 + 2))), .int (sI s 0 (jN (x4 + 1))), .ref 78]) rfl ?_
                              obtain ⟨r130, s129, hc128, h⟩ := bv_so h
                              have hq127 : Q 0 sio tt cc d 11 0 [some (.ref 78), some (.int (sI s 0 (jN (x4 + 1)))), some (.int (sI s 0 (jN (x4 + 2)))), some (.int (sI s 0 (jN (x4 + 3)))), some (.ref 148), none] [] s (.inl (some (.int r130)), s129) := (dt11 (by omega) hl  hc128).w
                              refine Q.callI (gC_st zm0 (show zM0.2.2.2.2.2[313]? = some (542, 3, .invokestatic 117, [0, 11, 5]) from rfl) zm11 (show aC 5 [.ref 148, .int (sI s 0 (jN (x4 + 3))), .int (sI s 0 (jN (x4 + 2))), .int (sI s 0 (jN (x4 + 1))), .ref 78] 6 = some ([some (.ref 78), some (.int (sI s 0 (jN (x4 + 1)))), some (.int (sI s 0 (jN (x4 + 2)))), some (.int (sI s 0 (jN (x4 + 3)))), some (.ref 148), none], []) from rfl)) hq127 ?_
                              refine Q.run zm0 6 (i' := 320) (ls' := [some (.ref 0), some (.ref 78), some (.ref 121), some (.ref 148), some (.int x4), some (.int r130), g6]) (st' := [.int (x4 + 1), .ref 0, .ref 121]) rfl ?_
                              obtain ⟨hc131, h⟩ := ite_so h
                              refine Q.map (A.ia (gI_of zm0 (e := (553, 1, .iaload, [])) rfl) (hq127.1.lt (a := 0) (by decide)) hq127.1.t0 hc131) ?_
                              refine Q.run zm0 4 (i' := 325) (ls' := [some (.ref 0), some (.ref 78), some (.ref 121), some (.ref 148), some (.int x4), some (.int r130), g6]) (st' := [.int (x4 + 2), .ref 0, .int (sI s129 0 (jN (x4 + 1))), .ref 121]) rfl ?_
                              obtain ⟨hc132, h⟩ := ite_so h
                              refine Q.map (A.ia (gI_of zm0 (e := (559, 1, .iaload, [])) rfl) (hq127.1.lt (a := 0) (by decide)) hq127.1.t0 hc132) ?_
                              refine Q.run zm0 4 (i' := 330) (ls' := [some (.ref 0), some (.ref 78), some (.ref 121), some (.ref 148), some (.int x4), some (.int r130), g6]) (st' := [.int (x4 + 3), .ref 0, .int (sI s129 0 (jN (x4 + 2))), .int (sI s129 0 (jN (x4 + 1))), .ref 121]) rfl ?_
                              obtain ⟨hc133, h⟩ := ite_so h
                              refine Q.map (A.ia (gI_of zm0 (e := (565, 1, .iaload, [])) rfl) (hq127.1.lt (a := 0) (by decide)) hq127.1.t0 hc133) ?_
                              obtain ⟨r137, s136, hc135, h⟩ := bv_so h
                              have hq134 : Q 0 sio tt cc d 244 0 [some (.ref 121), some (.int (sI s129 0 (jN (x4 + 1)))), some (.int (sI s129 0 (jN (x4 + 2)))), some (.int (sI s129 0 (jN (x4 + 3))))] [] s129 (.inl (some (.int r137)), s136) := (dt244 (by omega) hq127.1  hc135).w
                              refine Q.callI (gC_vi zm0 (show zM0.2.2.2.2.2[331]? = some (566, 3, .invokevirtual 120, [0, 244, 3, 9]) from rfl) zm244 (hq127.1.lt (a := 121) (by decide)) (hq127.1.T (a := 121) (p := (9, 45)) 43 rfl rfl) rfl (show aCr 3 121 [.int (sI s129 0 (jN (x4 + 3))), .int (sI s129 0 (jN (x4 + 2))), .int (sI s129 0 (jN (x4 + 1))), .ref 121] 4 = some ([some (.ref 121), some (.int (sI s129 0 (jN (x4 + 1)))), some (.int (sI s129 0 (jN (x4 + 2)))), some (.int (sI s129 0 (jN (x4 + 3))))], []) from rfl)) hq134 ?_
                              refine Q.run zm0 2 (i' := 446) (ls' := [some (.ref 0), some (.ref 78), some (.ref 121), some (.ref 148), some (.int x4), some (.int r130), some (.int r137)]) (st' := []) rfl ?_
                              exact dt0_446 hd ih hq134.1  h
                            · rw [if_neg hc123] at h
                              by_cases hc138 : ((sI s 0 (jN x4)) &&& 15) = 12
                              · rw [if_pos hc138] at h
                                refine Q.map (A.ts (gI_of zm0 (e := (40, 80, .tableswitch 694 0 15 #[80, 108, 119, 135, 160, 196, 236, 309, 389, 414, 454, 482, 534, 586, 626, 654], [446, 25, 43, 48, 56, 72, 94, 122, 178, 234, 250, 278, 296, 334, 372, 400, 418])) rfl) (t := 334) (by rw [hc138] <;> decide)) ?_
                                refine Q.run zm0 5 (i' := 339) (ls' := [some (.ref 0), some (.ref 78), some (.ref 121), some (.ref 148), some (.int x4), g5, g6]) (st' := [.int (x4 + 1), .ref 0, .ref 78]) rfl ?_
                                obtain ⟨hc139, h⟩ := ite_so h
                                refine Q.map (A.ia (gI_of zm0 (e := (580, 1, .iaload, [])) rfl) (hl.lt (a := 0) (by decide)) hl.t0 hc139) ?_
                                refine Q.run zm0 4 (i' := 344) (ls' := [some (.ref 0), some (.ref 78), some (.ref 121), some (.ref 148), some (.int x4), g5, g6]) (st' := [.int (x4 + 2), .ref 0, .int (sI s 0 (jN (x4 + 1))), .ref 78]) rfl ?_
                                obtain ⟨hc140, h⟩ := ite_so h
                                refine Q.map (A.ia (gI_of zm0 (e := (586, 1, .iaload, [])) rfl) (hl.lt (a := 0) (by decide)) hl.t0 hc140) ?_
                                refine Q.run zm0 4 (i' := 349) (ls' := [some (.ref 0), some (.ref 78), some (.ref 121), some (.ref 148), some (.int x4), g5, g6]) (st' := [.int (x4 + 3), .ref 0, .int (sI s 0 (jN (x4 + 2))), .int (sI s 0 (jN (x4 + 1))), .ref 78]) rfl ?_
                                obtain ⟨hc141, h⟩ := ite_so h
                                refine Q.map (A.ia (gI_of zm0 (e := (592, 1, .iaload, [])) rfl) (hl.lt (a := 0) (by decide)) hl.t0 hc141) ?_
                                refine Q.run zm0 1 (i' := 351) (ls' := [some (.ref 0), some (.ref 78), some (.ref 121), some (.ref 148), some (.int x4), g5, g6]) (st' := [.ref 148, .int (sI s 0 (jN (x4 + 3))), .int (sI s 0 (jN (x4 + 2))), .int (sI s 0 (jN (x4 + 1))), .ref 78]) rfl ?_
                                obtain ⟨r145, s144, hc143, h⟩ := bv_so h
                                have hq142 : Q 0 sio tt cc d 12 0 [some (.ref 78), some (.int (sI s 0 (jN (x4 + 1)))), some (.int (sI s 0 (jN (x4 + 2)))), some (.int (sI s 0 (jN (x4 + 3)))), some (.ref 148), none] [] s (.inl (some (.int r145)), s144) := (dt12 (by omega) hl  hc143).w
                                refine Q.callI (gC_st zm0 (show zM0.2.2.2.2.2[351]? = some (594, 3, .invokestatic 121, [0, 12, 5]) from rfl) zm12 (show aC 5 [.ref 148, .int (sI s 0 (jN (x4 + 3))), .int (sI s 0 (jN (x4 + 2))), .int (sI s 0 (jN (x4 + 1))), .ref 78] 6 = some ([some (.ref 78), some (.int (sI s 0 (jN (x4 + 1)))), some (.int (sI s 0 (jN (x4 + 2)))), some (.int (sI s 0 (jN (x4 + 3)))), some (.ref 148), none], []) from rfl)) hq142 ?_
                                refine Q.run zm0 6 (i' := 358) (ls' := [some (.ref 0), some (.ref 78), some (.ref 121), some (.ref 148), some (.int x4), some (.int r145), g6]) (st' := [.int (x4 + 1), .ref 0, .ref 121]) rfl ?_
                                obtain ⟨hc146, h⟩ := ite_so h
                                refine Q.map (A.ia (gI_of zm0 (e := (605, 1, .iaload, [])) rfl) (hq142.1.lt (a := 0) (by decide)) hq142.1.t0 hc146) ?_
                                refine Q.run zm0 4 (i' := 363) (ls' := [some (.ref 0), some (.ref 78), some (.ref 121), some (.ref 148), some (.int x4), some (.int r145), g6]) (st' := [.int (x4 + 2), .ref 0, .int (sI s144 0 (jN (x4 + 1))), .ref 121]) rfl ?_
                                obtain ⟨hc147, h⟩ := ite_so h
                                refine Q.map (A.ia (gI_of zm0 (e := (611, 1, .iaload, [])) rfl) (hq142.1.lt (a := 0) (by decide)) hq142.1.t0 hc147) ?_
                                refine Q.run zm0 4 (i' := 368) (ls' := [some (.ref 0), some (.ref 78), some (.ref 121), some (.ref 148), some (.int x4), some (.int r145), g6]) (st' := [.int (x4 + 3), .ref 0, .int (sI s144 0 (jN (x4 + 2))), .int (sI s144 0 (jN (x4 + 1))), .ref 121]) rfl ?_
                                obtain ⟨hc148, h⟩ := ite_so h
                                refine Q.map (A.ia (gI_of zm0 (e := (617, 1, .iaload, [])) rfl) (hq142.1.lt (a := 0) (by decide)) hq142.1.t0 hc148) ?_
                                obtain ⟨r152, s151, hc150, h⟩ := bv_so h
                                have hq149 : Q 0 sio tt cc d 246 0 [some (.ref 121), some (.int (sI s144 0 (jN (x4 + 1)))), some (.int (sI s144 0 (jN (x4 + 2)))), some (.int (sI s144 0 (jN (x4 + 3))))] [] s144 (.inl (some (.int r152)), s151) := (dt246 (by omega) hq142.1  hc150).w
                                refine Q.callI (gC_vi zm0 (show zM0.2.2.2.2.2[369]? = some (618, 3, .invokevirtual 123, [0, 246, 3, 9]) from rfl) zm246 (hq142.1.lt (a := 121) (by decide)) (hq142.1.T (a := 121) (p := (9, 45)) 43 rfl rfl) rfl (show aCr 3 121 [.int (sI s144 0 (jN (x4 + 3))), .int (sI s144 0 (jN (x4 + 2))), .int (sI s144 0 (jN (x4 + 1))), .ref 121] 4 = some ([some (.ref 121), some (.int (sI s144 0 (jN (x4 + 1)))), some (.int (sI s144 0 (jN (x4 + 2)))), some (.int (sI s144 0 (jN (x4 + 3))))], []) from rfl)) hq149 ?_
                                refine Q.run zm0 2 (i' := 446) (ls' := [some (.ref 0), some (.ref 78), some (.ref 121), some (.ref 148), some (.int x4), some (.int r145), some (.int r152)]) (st' := []) rfl ?_
                                exact dt0_446 hd ih hq149.1  h
                              · rw [if_neg hc138] at h
                                by_cases hc153 : ((sI s 0 (jN x4)) &&& 15) = 13
                                · rw [if_pos hc153] at h
                                  refine Q.map (A.ts (gI_of zm0 (e := (40, 80, .tableswitch 694 0 15 #[80, 108, 119, 135, 160, 196, 236, 309, 389, 414, 454, 482, 534, 586, 626, 654], [446, 25, 43, 48, 56, 72, 94, 122, 178, 234, 250, 278, 296, 334, 372, 400, 418])) rfl) (t := 372) (by rw [hc153] <;> decide)) ?_
                                  refine Q.run zm0 5 (i' := 377) (ls' := [some (.ref 0), some (.ref 78), some (.ref 121), some (.ref 148), some (.int x4), g5, g6]) (st' := [.int (x4 + 1), .ref 0, .ref 78]) rfl ?_
                                  obtain ⟨hc154, h⟩ := ite_so h
                                  refine Q.map (A.ia (gI_of zm0 (e := (632, 1, .iaload, [])) rfl) (hl.lt (a := 0) (by decide)) hl.t0 hc154) ?_
                                  refine Q.run zm0 4 (i' := 382) (ls' := [some (.ref 0), some (.ref 78), some (.ref 121), some (.ref 148), some (.int x4), g5, g6]) (st' := [.int (x4 + 2), .ref 0, .int (sI s 0 (jN (x4 + 1))), .ref 78]) rfl ?_
                                  obtain ⟨hc155, h⟩ := ite_so h
                                  refine Q.map (A.ia (gI_of zm0 (e := (638, 1, .iaload, [])) rfl) (hl.lt (a := 0) (by decide)) hl.t0 hc155) ?_
                                  refine Q.run zm0 1 (i' := 384) (ls' := [some (.ref 0), some (.ref 78), some (.ref 121), some (.ref 148), some (.int x4), g5, g6]) (st' := [.ref 148, .int (sI s 0 (jN (x4 + 2))), .int (sI s 0 (jN (x4 + 1))), .ref 78]) rfl ?_
                                  obtain ⟨r159, s158, hc157, h⟩ := bv_so h
                                  have hq156 : Q 0 sio tt cc d 13 0 [some (.ref 78), some (.int (sI s 0 (jN (x4 + 1)))), some (.int (sI s 0 (jN (x4 + 2)))), some (.ref 148), none] [] s (.inl (some (.int r159)), s158) := (dt13 (by omega) hl  hc157).w
                                  refine Q.callI (gC_st zm0 (show zM0.2.2.2.2.2[384]? = some (640, 3, .invokestatic 124, [0, 13, 4]) from rfl) zm13 (show aC 4 [.ref 148, .int (sI s 0 (jN (x4 + 2))), .int (sI s 0 (jN (x4 + 1))), .ref 78] 5 = some ([some (.ref 78), some (.int (sI s 0 (jN (x4 + 1)))), some (.int (sI s 0 (jN (x4 + 2)))), some (.ref 148), none], []) from rfl)) hq156 ?_
                                  refine Q.run zm0 6 (i' := 391) (ls' := [some (.ref 0), some (.ref 78), some (.ref 121), some (.ref 148), some (.int x4), some (.int r159), g6]) (st' := [.int (x4 + 1), .ref 0, .ref 121]) rfl ?_
                                  obtain ⟨hc160, h⟩ := ite_so h
                                  refine Q.map (A.ia (gI_of zm0 (e := (651, 1, .iaload, [])) rfl) (hq156.1.lt (a := 0) (by decide)) hq156.1.t0 hc160) ?_
                                  refine Q.run zm0 4 (i' := 396) (ls' := [some (.ref 0), some (.ref 78), some (.ref 121), some (.ref 148), some (.int x4), some (.int r159), g6]) (st' := [.int (x4 + 2), .ref 0, .int (sI s158 0 (jN (x4 + 1))), .ref 121]) rfl ?_
                                  obtain ⟨hc161, h⟩ := ite_so h
                                  refine Q.map (A.ia (gI_of zm0 (e := (657, 1, .iaload, [])) rfl) (hq156.1.lt (a := 0) (by decide)) hq156.1.t0 hc161) ?_
                                  obtain ⟨r165, s164, hc163, h⟩ := bv_so h
                                  have hq162 : Q 0 sio tt cc d 248 0 [some (.ref 121), some (.int (sI s158 0 (jN (x4 + 1)))), some (.int (sI s158 0 (jN (x4 + 2)))), none, none, none, none, none] [] s158 (.inl (some (.int r165)), s164) := (dt248 (by omega) hq156.1  hc163).w
                                  refine Q.callI (gC_vi zm0 (show zM0.2.2.2.2.2[397]? = some (658, 3, .invokevirtual 126, [0, 248, 2, 9]) from rfl) zm248 (hq156.1.lt (a := 121) (by decide)) (hq156.1.T (a := 121) (p := (9, 45)) 43 rfl rfl) rfl (show aCr 2 121 [.int (sI s158 0 (jN (x4 + 2))), .int (sI s158 0 (jN (x4 + 1))), .ref 121] 8 = some ([some (.ref 121), some (.int (sI s158 0 (jN (x4 + 1)))), some (.int (sI s158 0 (jN (x4 + 2)))), none, none, none, none, none], []) from rfl)) hq162 ?_
                                  refine Q.run zm0 2 (i' := 446) (ls' := [some (.ref 0), some (.ref 78), some (.ref 121), some (.ref 148), some (.int x4), some (.int r159), some (.int r165)]) (st' := []) rfl ?_
                                  exact dt0_446 hd ih hq162.1  h
                                · rw [if_neg hc153] at h
                                  by_cases hc166 : ((sI s 0 (jN x4)) &&& 15) = 14
                                  · rw [if_pos hc166] at h
                                    refine Q.map (A.ts (gI_of zm0 (e := (40, 80, .tableswitch 694 0 15 #[80, 108, 119, 135, 160, 196, 236, 309, 389, 414, 454, 482, 534, 586, 626, 654], [446, 25, 43, 48, 56, 72, 94, 122, 178, 234, 250, 278, 296, 334, 372, 400, 418])) rfl) (t := 400) (by rw [hc166] <;> decide)) ?_
                                    refine Q.run zm0 5 (i' := 405) (ls' := [some (.ref 0), some (.ref 78), some (.ref 121), some (.ref 148), some (.int x4), g5, g6]) (st' := [.int (x4 + 1), .ref 0, .ref 78]) rfl ?_
                                    obtain ⟨hc167, h⟩ := ite_so h
                                    refine Q.map (A.ia (gI_of zm0 (e := (672, 1, .iaload, [])) rfl) (hl.lt (a := 0) (by decide)) hl.t0 hc167) ?_
                                    refine Q.run zm0 1 (i' := 407) (ls' := [some (.ref 0), some (.ref 78), some (.ref 121), some (.ref 148), some (.int x4), g5, g6]) (st' := [.ref 148, .int (sI s 0 (jN (x4 + 1))), .ref 78]) rfl ?_
                                    obtain ⟨r171, s170, hc169, h⟩ := bv_so h
                                    have hq168 : Q 0 sio tt cc d 14 0 [some (.ref 78), some (.int (sI s 0 (jN (x4 + 1)))), some (.ref 148), none] [] s (.inl (some (.int r171)), s170) := (dt14 (by omega) hl  hc169).w
                                    refine Q.callI (gC_st zm0 (show zM0.2.2.2.2.2[407]? = some (674, 3, .invokestatic 127, [0, 14, 3]) from rfl) zm14 (show aC 3 [.ref 148, .int (sI s 0 (jN (x4 + 1))), .ref 78] 4 = some ([some (.ref 78), some (.int (sI s 0 (jN (x4 + 1)))), some (.ref 148), none], []) from rfl)) hq168 ?_
                                    refine Q.run zm0 6 (i' := 414) (ls' := [some (.ref 0), some (.ref 78), some (.ref 121), some (.ref 148), some (.int x4), some (.int r171), g6]) (st' := [.int (x4 + 1), .ref 0, .ref 121]) rfl ?_
                                    obtain ⟨hc172, h⟩ := ite_so h
                                    refine Q.map (A.ia (gI_of zm0 (e := (685, 1, .iaload, [])) rfl) (hq168.1.lt (a := 0) (by decide)) hq168.1.t0 hc172) ?_
                                    obtain ⟨r176, s175, hc174, h⟩ := bv_so h
                                    have hq173 : Q 0 sio tt cc d 249 0 [some (.ref 121), some (.int (sI s170 0 (jN (x4 + 1)))), none, none] [] s170 (.inl (some (.int r176)), s175) := (dt249 (by omega) hq168.1  hc174).w
                                    refine Q.callI (gC_vi zm0 (show zM0.2.2.2.2.2[415]? = some (686, 3, .invokevirtual 129, [0, 249, 1, 9]) from rfl) zm249 (hq168.1.lt (a := 121) (by decide)) (hq168.1.T (a := 121) (p := (9, 45)) 43 rfl rfl) rfl (show aCr 1 121 [.int (sI s170 0 (jN (x4 + 1))), .ref 121] 4 = some ([some (.ref 121), some (.int (sI s170 0 (jN (x4 + 1)))), none, none], []) from rfl)) hq173 ?_
                                    refine Q.run zm0 2 (i' := 446) (ls' := [some (.ref 0), some (.ref 78), some (.ref 121), some (.ref 148), some (.int x4), some (.int r171), some (.int r176)]) (st' := []) rfl ?_
                                    exact dt0_446 hd ih hq173.1  h
                                  · rw [if_neg hc166] at h
                                    by_cases hc177 : ((sI s 0 (jN x4)) &&& 15) = 15
                                    · rw [if_pos hc177] at h
                                      refine Q.map (A.ts (gI_of zm0 (e := (40, 80, .tableswitch 694 0 15 #[80, 108, 119, 135, 160, 196, 236, 309, 389, 414, 454, 482, 534, 586, 626, 654], [446, 25, 43, 48, 56, 72, 94, 122, 178, 234, 250, 278, 296, 334, 372, 400, 418])) rfl) (t := 418) (by rw [hc177] <;> decide)) ?_
                                      refine Q.run zm0 5 (i' := 423) (ls' := [some (.ref 0), some (.ref 78), some (.ref 121), some (.ref 148), some (.int x4), g5, g6]) (st' := [.int (x4 + 1), .ref 0, .ref 78]) rfl ?_
                                      obtain ⟨hc178, h⟩ := ite_so h
                                      refine Q.map (A.ia (gI_of zm0 (e := (700, 1, .iaload, [])) rfl) (hl.lt (a := 0) (by decide)) hl.t0 hc178) ?_
                                      refine Q.run zm0 4 (i' := 428) (ls' := [some (.ref 0), some (.ref 78), some (.ref 121), some (.ref 148), some (.int x4), g5, g6]) (st' := [.int (x4 + 2), .ref 0, .int (sI s 0 (jN (x4 + 1))), .ref 78]) rfl ?_
                                      obtain ⟨hc179, h⟩ := ite_so h
                                      refine Q.map (A.ia (gI_of zm0 (e := (706, 1, .iaload, [])) rfl) (hl.lt (a := 0) (by decide)) hl.t0 hc179) ?_
                                      refine Q.run zm0 1 (i' := 430) (ls' := [some (.ref 0), some (.ref 78), some (.ref 121), some (.ref 148), some (.int x4), g5, g6]) (st' := [.ref 148, .int (sI s 0 (jN (x4 + 2))), .int (sI s 0 (jN (x4 + 1))), .ref 78]) rfl ?_
                                      obtain ⟨r183, s182, hc181, h⟩ := bv_so h
                                      have hq180 : Q 0 sio tt cc d 15 0 [some (.ref 78), some (.int (sI s 0 (jN (x4 + 1)))), some (.int (sI s 0 (jN (x4 + 2)))), some (.ref 148), none] [] s (.inl (some (.int r183)), s182) := (dt15 (by omega) hl  hc181).w
                                      refine Q.callI (gC_st zm0 (show zM0.2.2.2.2.2[430]? = some (708, 3, .invokestatic 130, [0, 15, 4]) from rfl) zm15 (show aC 4 [.ref 148, .int (sI s 0 (jN (x4 + 2))), .int (sI s 0 (jN (x4 + 1))), .ref 78] 5 = some ([some (.ref 78), some (.int (sI s 0 (jN (x4 + 1)))), some (.int (sI s 0 (jN (x4 + 2)))), some (.ref 148), none], []) from rfl)) hq180 ?_
                                      refine Q.run zm0 6 (i' := 437) (ls' := [some (.ref 0), some (.ref 78), some (.ref 121), some (.ref 148), some (.int x4), some (.int r183), g6]) (st' := [.int (x4 + 1), .ref 0, .ref 121]) rfl ?_
                                      obtain ⟨hc184, h⟩ := ite_so h
                                      refine Q.map (A.ia (gI_of zm0 (e := (719, 1, .iaload, [])) rfl) (hq180.1.lt (a := 0) (by decide)) hq180.1.t0 hc184) ?_
                                      refine Q.run zm0 4 (i' := 442) (ls' := [some (.ref 0), some (.ref 78), some (.ref 121), some (.ref 148), some (.int x4), some (.int r183), g6]) (st' := [.int (x4 + 2), .ref 0, .int (sI s182 0 (jN (x4 + 1))), .ref 121]) rfl ?_
                                      obtain ⟨hc185, h⟩ := ite_so h
                                      refine Q.map (A.ia (gI_of zm0 (e := (725, 1, .iaload, [])) rfl) (hq180.1.lt (a := 0) (by decide)) hq180.1.t0 hc185) ?_
                                      obtain ⟨r189, s188, hc187, h⟩ := bv_so h
                                      have hq186 : Q 0 sio tt cc d 250 0 [some (.ref 121), some (.int (sI s182 0 (jN (x4 + 1)))), some (.int (sI s182 0 (jN (x4 + 2))))] [] s182 (.inl (some (.int r189)), s188) := (dt250 (by omega) hq180.1  hc187).w
                                      refine Q.callI (gC_vi zm0 (show zM0.2.2.2.2.2[443]? = some (726, 3, .invokevirtual 132, [0, 250, 2, 9]) from rfl) zm250 (hq180.1.lt (a := 121) (by decide)) (hq180.1.T (a := 121) (p := (9, 45)) 43 rfl rfl) rfl (show aCr 2 121 [.int (sI s182 0 (jN (x4 + 2))), .int (sI s182 0 (jN (x4 + 1))), .ref 121] 3 = some ([some (.ref 121), some (.int (sI s182 0 (jN (x4 + 1)))), some (.int (sI s182 0 (jN (x4 + 2))))], []) from rfl)) hq186 ?_
                                      refine Q.run zm0 2 (i' := 446) (ls' := [some (.ref 0), some (.ref 78), some (.ref 121), some (.ref 148), some (.int x4), some (.int r183), some (.int r189)]) (st' := []) rfl ?_
                                      exact dt0_446 hd ih hq186.1  h
                                    · rw [if_neg hc177] at h
                                      refine Q.map (A.ts (gI_of zm0 (e := (40, 80, .tableswitch 694 0 15 #[80, 108, 119, 135, 160, 196, 236, 309, 389, 414, 454, 482, 534, 586, 626, 654], [446, 25, 43, 48, 56, 72, 94, 122, 178, 234, 250, 278, 296, 334, 372, 400, 418])) rfl) (t := 446) (by have := (show ((sI s 0 (jN x4)) &&& 15).toInt ≠ 0 ∧ ((sI s 0 (jN x4)) &&& 15).toInt ≠ 1 ∧ ((sI s 0 (jN x4)) &&& 15).toInt ≠ 2 ∧ ((sI s 0 (jN x4)) &&& 15).toInt ≠ 3 ∧ ((sI s 0 (jN x4)) &&& 15).toInt ≠ 4 ∧ ((sI s 0 (jN x4)) &&& 15).toInt ≠ 5 ∧ ((sI s 0 (jN x4)) &&& 15).toInt ≠ 6 ∧ ((sI s 0 (jN x4)) &&& 15).toInt ≠ 7 ∧ ((sI s 0 (jN x4)) &&& 15).toInt ≠ 8 ∧ ((sI s 0 (jN x4)) &&& 15).toInt ≠ 9 ∧ ((sI s 0 (jN x4)) &&& 15).toInt ≠ 10 ∧ ((sI s 0 (jN x4)) &&& 15).toInt ≠ 11 ∧ ((sI s 0 (jN x4)) &&& 15).toInt ≠ 12 ∧ ((sI s 0 (jN x4)) &&& 15).toInt ≠ 13 ∧ ((sI s 0 (jN x4)) &&& 15).toInt ≠ 14 ∧ ((sI s 0 (jN x4)) &&& 15).toInt ≠ 15 from ⟨i32_ne (n := 0) hc3 (by decide), i32_ne (n := 1) hc14 (by decide), i32_ne (n := 2) hc21 (by decide), i32_ne (n := 3) hc30 (by decide), i32_ne (n := 4) hc40 (by decide), i32_ne (n := 5) hc54 (by decide), i32_ne (n := 6) hc67 (by decide), i32_ne (n := 7) hc85 (by decide), i32_ne (n := 8) hc89 (by decide), i32_ne (n := 9) hc99 (by decide), i32_ne (n := 10) hc112 (by decide), i32_ne (n := 11) hc123 (by decide), i32_ne (n := 12) hc138 (by decide), i32_ne (n := 13) hc153 (by decide), i32_ne (n := 14) hc166 (by decide), i32_ne (n := 15) hc177 (by decide)⟩); rw [if_pos]; omega)) ?_
                                      exact dt0_446 hd ih hl  h
def dm0 (x4 : Int32) (s : aS) : Option (Int32 × aS) :=
  dm0_13 5000 x4 s
set_option maxRecDepth 100000 in
theorem dt0 {sio : Bool} {tt : Nat} {cc : Nat → Nat → Int32} {d : Nat} (hd : 1214 ≤ d) {x4 : Int32} {s : aS} (hl : Ly tt cc s) {o : Int32 × aS} (h : dm0  x4 s = some o) : Q 0 sio tt cc d 0 13 [some (.ref 0), some (.ref 78), some (.ref 121), some (.ref 148), some (.int x4), none, none] [] s (.inl (some (.int o.1)), o.2) := by
  unfold dm0 at h
  obtain ⟨d, rfl⟩ : ∃ e, d = e + 1 := ⟨d - 1, by omega⟩
  exact dt0_13 hd _ hl  h
end
section
/-! printed by wip/whole/tools/start.py: the run of the constructors -/
/-- what lies below K: the script, the texts -/
def cCc (xs : List Int32) (a k : Nat) : Int32 := if a = 0 then xs.getD k 0 else if a % 2 = 1 then 0 else (zTx.getD ((a - 2) / 2) ("", 0, [])).2.2.getD k 0
def cs0 (xs : List Int32) : aS := (zTt0 xs.length, fun a _ => .ref (a + 1), cCc xs, fun _ _ => 0, zK)
section ST
variable {P : List xQ6} {Cs : List Value} {K : Nat} {Ty : List (List Nat)} {d k i : Nat} {ls : xL} {st : List Value} {s : aS} {o : xZ × aS}
set_option maxRecDepth 100000 in
theorem A.nb {t : ArrayType} {ax : List Nat} {n : Int32} (hi : gI P k i = some (.newarray t, ax)) (hn : ¬ n < 0) (hn2 : jN n ≤ 100000) (ht : t = .int ∨ t = .char ∨ t = .boolean) (g : A P Cs K Ty d k (i + 1) ls (.ref (sL s) :: st) (nw s (xat2 t) (jN n)) o) : A P Cs K Ty d k i ls (.int n :: st) s o := by
  refine aA hi rfl rfl rfl rfl rfl ?_ g
  show (if ¬ n < 0 ∧ n.toNatClampNeg ≤ 100000 ∧ 100 ≤ xat2 t then some (Value.ref (hOf Ty s).length :: st, hOf Ty s ++ [(xat2 t, List.replicate n.toNatClampNeg (if t = .long then Value.long 0 else Value.int 0))]) else none) = _
  rw [if_pos ⟨hn, hn2, by rcases ht with rfl | rfl | rfl <;> decide⟩, hOf_len, ← hOf_nw]
  simp only [nw_slot]
  rcases ht with rfl | rfl | rfl
  · show some (_, _ ++ [((100 : Nat), List.replicate (jN n) (Value.int 0))]) = some (_, _ ++ [((100 : Nat), (List.range (jN n)).map fun k => Value.int 0)])
    rw [rep_map]
  · show some (_, _ ++ [((102 : Nat), List.replicate (jN n) (Value.int 0))]) = some (_, _ ++ [((102 : Nat), (List.range (jN n)).map fun k => Value.int 0)])
    rw [rep_map]
  · show some (_, _ ++ [((103 : Nat), List.replicate (jN n) (Value.int 0))]) = some (_, _ ++ [((103 : Nat), (List.range (jN n)).map fun k => Value.int 0)])
    rw [rep_map]
set_option maxRecDepth 100000 in
theorem A.nl {ax : List Nat} {n : Int32} (hi : gI P k i = some (.newarray .long, ax)) (hn : ¬ n < 0) (hn2 : jN n ≤ 100000) (g : A P Cs K Ty d k (i + 1) ls (.ref (sL s) :: st) (nw s 104 (jN n)) o) : A P Cs K Ty d k i ls (.int n :: st) s o := by
  refine aA hi rfl rfl rfl rfl rfl ?_ g
  show (if ¬ n < 0 ∧ n.toNatClampNeg ≤ 100000 ∧ 100 ≤ xat2 .long then some (Value.ref (hOf Ty s).length :: st, hOf Ty s ++ [(xat2 .long, List.replicate n.toNatClampNeg (if ArrayType.long = .long then Value.long 0 else Value.int 0))]) else none) = _
  rw [if_pos ⟨hn, hn2, by decide⟩, hOf_len, ← hOf_nw]
  simp only [nw_slot]
  show some (_, _ ++ [((104 : Nat), List.replicate (jN n) (Value.long 0))]) = some (_, _ ++ [((104 : Nat), (List.range (jN n)).map fun k => Value.long 0)])
  rw [rep_map]
set_option maxRecDepth 100000 in
theorem A.nr {q ci : Nat} {n : Int32} (hi : gI P k i = some (.anewarray q, [ci])) (hn : ¬ n < 0) (hn2 : jN n ≤ 100000) (hc : ci < 100) (g : A P Cs K Ty d k (i + 1) ls (.ref (sL s) :: st) (nw s (110 + ci) (jN n)) o) : A P Cs K Ty d k i ls (.int n :: st) s o := by
  refine aA hi rfl rfl rfl rfl rfl ?_ g
  show (if ¬ n < 0 ∧ n.toNatClampNeg ≤ 100000 ∧ ci < 100 then some (Value.ref (hOf Ty s).length :: st, hOf Ty s ++ [(110 + ci, List.replicate n.toNatClampNeg Value.null)]) else none) = _
  rw [if_pos ⟨hn, hn2, hc⟩, hOf_len, ← hOf_nw]
  simp only [nw_slot]
  have h2 : ∀ k, aTy Ty (110 + ci) k = 2 := fun k => by unfold aTy; rw [if_neg (by omega), if_neg (by omega), if_neg (by omega), if_pos (by omega)]
  simp only [h2]
  show some (_, _ ++ [(110 + ci, List.replicate (jN n) Value.null)]) = some (_, _ ++ [(110 + ci, (List.range (jN n)).map fun k => Value.null)])
  rw [rep_map]
end ST
/-- two states that are the same but for the script -/
def ag (xs : List Int32) (s s' : aS) : Prop := sL s = sL s' ∧ 78 ≤ sL s ∧ (∀ a, a ≠ 0 → sT s a = sT s' a) ∧ (∀ a k, a ≠ 0 → sR s a k = sR s' a k) ∧ (∀ a k, a ≠ 0 → sI s a k = sI s' a k) ∧ (∀ a k, a ≠ 0 → sJ s a k = sJ s' a k) ∧ (∀ a, a < 78 → sT s a = zTt0 xs.length a) ∧ ∀ a k, a < 78 → sI s a k = cCc xs a k
set_option maxRecDepth 100000 in
theorem ag.N {xs : List Int32} {s s' : aS} {c n : Nat} (h : ag xs s s') : ag xs (nw s c n) (nw s' c n) := by
  obtain ⟨h1, h2, h3, h4, h5, h6, h7, h8⟩ := h
  refine ⟨congrArg (· + 1) h1, Nat.le_succ_of_le h2, fun a ha => ?_, fun a k ha => ?_, fun a k ha => ?_, fun a k ha => ?_, fun a ha => ?_, fun a k ha => ?_⟩
  · show (if a = sL s then (c, n) else sT s a) = (if a = sL s' then (c, n) else sT s' a)
    rw [h1, h3 a ha]
  · show (if a = sL s then Value.null else sR s a k) = (if a = sL s' then Value.null else sR s' a k)
    rw [h1, h4 a k ha]
  · show (if a = sL s then 0 else sI s a k) = (if a = sL s' then 0 else sI s' a k)
    rw [h1, h5 a k ha]
  · show (if a = sL s then 0 else sJ s a k) = (if a = sL s' then 0 else sJ s' a k)
    rw [h1, h6 a k ha]
  · show (if a = sL s then (c, n) else sT s a) = _
    rw [if_neg (by omega), h7 a ha]
  · show (if a = sL s then 0 else sI s a k) = _
    rw [if_neg (by omega), h8 a k ha]
set_option maxRecDepth 100000 in
theorem ag.R {xs : List Int32} {s s' : aS} {a k : Nat} {v : Value} (hz : 78 ≤ a) (h : ag xs s s') : ag xs (wR s a k v) (wR s' a k v) := by
  obtain ⟨h1, h2, h3, h4, h5, h6, h7, h8⟩ := h
  refine ⟨h1, h2, h3, fun b j hb => ?_, h5, h6, h7, h8⟩
  show (if b = a ∧ j = k then v else sR s b j) = (if b = a ∧ j = k then v else sR s' b j)
  rw [h4 b j hb]
set_option maxRecDepth 100000 in
theorem ag.I {xs : List Int32} {s s' : aS} {a k : Nat} {v : Int32} (hz : 78 ≤ a) (h : ag xs s s') : ag xs (wI s a k v) (wI s' a k v) := by
  obtain ⟨h1, h2, h3, h4, h5, h6, h7, h8⟩ := h
  refine ⟨h1, h2, h3, h4, fun b j hb => ?_, h6, h7, fun b j hb => ?_⟩
  · show (if b = a ∧ j = k then v else sI s b j) = (if b = a ∧ j = k then v else sI s' b j)
    rw [h5 b j hb]
  · show (if b = a ∧ j = k then v else sI s b j) = _
    rw [if_neg (by omega), h8 b j hb]
set_option maxRecDepth 100000 in
theorem ca0 (xs : List Int32) : ag xs (cs0 xs) (cs0 []) := by
  refine ⟨rfl, Nat.le_refl 78, fun a ha => ?_, fun a k ha => rfl, fun a k ha => ?_, fun a k ha => rfl, fun _ _ => rfl, fun _ _ _ => rfl⟩
  · show zTt0 _ a = zTt0 _ a
    unfold zTt0
    rw [if_neg ha, if_neg ha]
  · show cCc xs a k = cCc [] a k
    unfold cCc
    rw [if_neg ha, if_neg ha]
set_option maxRecDepth 100000 in
theorem cz0 : zP[0]? = some zM0 := rfl
set_option maxRecDepth 100000 in
theorem cz16 : zP[16]? = some zM16 := rfl
set_option maxRecDepth 100000 in
theorem cz17 : zP[17]? = some zM17 := rfl
set_option maxRecDepth 100000 in
theorem cz18 : zP[18]? = some zM18 := rfl
set_option maxRecDepth 100000 in
theorem cz19 : zP[19]? = some zM19 := rfl
set_option maxRecDepth 100000 in
theorem cz20 : zP[20]? = some zM20 := rfl
set_option maxRecDepth 100000 in
theorem cz21 : zP[21]? = some zM21 := rfl
set_option maxRecDepth 100000 in
theorem cz22 : zP[22]? = some zM22 := rfl
set_option maxRecDepth 100000 in
theorem cz23 : zP[23]? = some zM23 := rfl
set_option maxRecDepth 100000 in
theorem cz24 : zP[24]? = some zM24 := rfl
set_option maxRecDepth 100000 in
theorem cz170 : zP[170]? = some zM170 := rfl
def cs1 (xs : List Int32) : aS := nw (cs0 xs) 0 7
def cs2 (xs : List Int32) : aS := nw (cs1 xs) 1 2
def cs3 (xs : List Int32) : aS := nw (cs2 xs) 102 256
def cs4 (xs : List Int32) : aS := wR (cs3 xs) 79 0 (.ref 80)
def cs5 (xs : List Int32) : aS := wR (cs4 xs) 78 0 (.ref 79)
def cs6 (xs : List Int32) : aS := nw (cs5 xs) 2 3
def cs7 (xs : List Int32) : aS := nw (cs6 xs) 111 8
def cs8 (xs : List Int32) : aS := wR (cs7 xs) 81 0 (.ref 82)
def cs9 (xs : List Int32) : aS := nw (cs8 xs) 103 8
def cs10 (xs : List Int32) : aS := wR (cs9 xs) 81 1 (.ref 83)
def cs11 (xs : List Int32) : aS := nw (cs10 xs) 1 2
def cs12 (xs : List Int32) : aS := nw (cs11 xs) 102 31
def cs13 (xs : List Int32) : aS := wR (cs12 xs) 84 0 (.ref 85)
def cs14 (xs : List Int32) : aS := wR (cs13 xs) 82 0 (.ref 84)
def cs15 (xs : List Int32) : aS := nw (cs14 xs) 1 2
def cs16 (xs : List Int32) : aS := nw (cs15 xs) 102 31
def cs17 (xs : List Int32) : aS := wR (cs16 xs) 86 0 (.ref 87)
def cs18 (xs : List Int32) : aS := wR (cs17 xs) 82 1 (.ref 86)
def cs19 (xs : List Int32) : aS := nw (cs18 xs) 1 2
def cs20 (xs : List Int32) : aS := nw (cs19 xs) 102 31
def cs21 (xs : List Int32) : aS := wR (cs20 xs) 88 0 (.ref 89)
def cs22 (xs : List Int32) : aS := wR (cs21 xs) 82 2 (.ref 88)
def cs23 (xs : List Int32) : aS := nw (cs22 xs) 1 2
def cs24 (xs : List Int32) : aS := nw (cs23 xs) 102 31
def cs25 (xs : List Int32) : aS := wR (cs24 xs) 90 0 (.ref 91)
def cs26 (xs : List Int32) : aS := wR (cs25 xs) 82 3 (.ref 90)
def cs27 (xs : List Int32) : aS := nw (cs26 xs) 1 2
def cs28 (xs : List Int32) : aS := nw (cs27 xs) 102 31
def cs29 (xs : List Int32) : aS := wR (cs28 xs) 92 0 (.ref 93)
def cs30 (xs : List Int32) : aS := wR (cs29 xs) 82 4 (.ref 92)
def cs31 (xs : List Int32) : aS := nw (cs30 xs) 1 2
def cs32 (xs : List Int32) : aS := nw (cs31 xs) 102 31
def cs33 (xs : List Int32) : aS := wR (cs32 xs) 94 0 (.ref 95)
def cs34 (xs : List Int32) : aS := wR (cs33 xs) 82 5 (.ref 94)
def cs35 (xs : List Int32) : aS := nw (cs34 xs) 1 2
def cs36 (xs : List Int32) : aS := nw (cs35 xs) 102 31
def cs37 (xs : List Int32) : aS := wR (cs36 xs) 96 0 (.ref 97)
def cs38 (xs : List Int32) : aS := wR (cs37 xs) 82 6 (.ref 96)
def cs39 (xs : List Int32) : aS := nw (cs38 xs) 1 2
def cs40 (xs : List Int32) : aS := nw (cs39 xs) 102 31
def cs41 (xs : List Int32) : aS := wR (cs40 xs) 98 0 (.ref 99)
def cs42 (xs : List Int32) : aS := wR (cs41 xs) 82 7 (.ref 98)
def cs43 (xs : List Int32) : aS := wR (cs42 xs) 78 1 (.ref 81)
def cs44 (xs : List Int32) : aS := nw (cs43 xs) 113 8
def cs45 (xs : List Int32) : aS := wR (cs44 xs) 78 2 (.ref 100)
def cs46 (xs : List Int32) : aS := nw (cs45 xs) 100 8
def cs47 (xs : List Int32) : aS := wR (cs46 xs) 78 3 (.ref 101)
def cs48 (xs : List Int32) : aS := wI (cs47 xs) 101 0 (-1)
def cs49 (xs : List Int32) : aS := wI (cs48 xs) 101 1 (-1)
def cs50 (xs : List Int32) : aS := wI (cs49 xs) 101 2 (-1)
def cs51 (xs : List Int32) : aS := wI (cs50 xs) 101 3 (-1)
def cs52 (xs : List Int32) : aS := wI (cs51 xs) 101 4 (-1)
def cs53 (xs : List Int32) : aS := wI (cs52 xs) 101 5 (-1)
def cs54 (xs : List Int32) : aS := wI (cs53 xs) 101 6 (-1)
def cs55 (xs : List Int32) : aS := wI (cs54 xs) 101 7 (-1)
def cs56 (xs : List Int32) : aS := nw (cs55 xs) 3 3
def cs57 (xs : List Int32) : aS := nw (cs56 xs) 100 1408
def cs58 (xs : List Int32) : aS := wR (cs57 xs) 102 0 (.ref 103)
def cs59 (xs : List Int32) : aS := nw (cs58 xs) 1 2
def cs60 (xs : List Int32) : aS := nw (cs59 xs) 102 256
def cs61 (xs : List Int32) : aS := wR (cs60 xs) 104 0 (.ref 105)
def cs62 (xs : List Int32) : aS := wR (cs61 xs) 102 1 (.ref 104)
def cs63 (xs : List Int32) : aS := wR (cs62 xs) 78 6 (.ref 102)
def cs64 (xs : List Int32) : aS := nw (cs63 xs) 4 13
def cs65 (xs : List Int32) : aS := nw (cs64 xs) 1 2
def cs66 (xs : List Int32) : aS := nw (cs65 xs) 102 256
def cs67 (xs : List Int32) : aS := wR (cs66 xs) 107 0 (.ref 108)
def cs68 (xs : List Int32) : aS := wR (cs67 xs) 106 2 (.ref 107)
def cs69 (xs : List Int32) : aS := nw (cs68 xs) 5 4
def cs70 (xs : List Int32) : aS := wR (cs69 xs) 106 3 (.ref 109)
def cs71 (xs : List Int32) : aS := nw (cs70 xs) 6 3
def cs72 (xs : List Int32) : aS := nw (cs71 xs) 100 128
def cs73 (xs : List Int32) : aS := wR (cs72 xs) 110 0 (.ref 111)
def cs74 (xs : List Int32) : aS := nw (cs73 xs) 100 128
def cs75 (xs : List Int32) : aS := wR (cs74 xs) 110 1 (.ref 112)
def cs76 (xs : List Int32) : aS := wR (cs75 xs) 106 4 (.ref 110)
def cs77 (xs : List Int32) : aS := nw (cs76 xs) 7 4
def cs78 (xs : List Int32) : aS := nw (cs77 xs) 100 32
def cs79 (xs : List Int32) : aS := wR (cs78 xs) 113 0 (.ref 114)
def cs80 (xs : List Int32) : aS := nw (cs79 xs) 100 32
def cs81 (xs : List Int32) : aS := wR (cs80 xs) 113 1 (.ref 115)
def cs82 (xs : List Int32) : aS := nw (cs81 xs) 100 32
def cs83 (xs : List Int32) : aS := wR (cs82 xs) 113 2 (.ref 116)
def cs84 (xs : List Int32) : aS := wR (cs83 xs) 106 5 (.ref 113)
def cs85 (xs : List Int32) : aS := wR (cs84 xs) 106 0 (.ref 79)
def cs86 (xs : List Int32) : aS := wR (cs85 xs) 106 1 (.ref 81)
def cs87 (xs : List Int32) : aS := wR (cs86 xs) 106 6 (.ref 102)
def cs88 (xs : List Int32) : aS := wR (cs87 xs) 78 4 (.ref 106)
def cs89 (xs : List Int32) : aS := nw (cs88 xs) 8 11
def cs90 (xs : List Int32) : aS := nw (cs89 xs) 100 128
def cs91 (xs : List Int32) : aS := wR (cs90 xs) 117 1 (.ref 118)
def cs92 (xs : List Int32) : aS := nw (cs91 xs) 100 128
def cs93 (xs : List Int32) : aS := wR (cs92 xs) 117 2 (.ref 119)
def cs94 (xs : List Int32) : aS := nw (cs93 xs) 103 128
def cs95 (xs : List Int32) : aS := wR (cs94 xs) 117 3 (.ref 120)
def cs96 (xs : List Int32) : aS := wR (cs95 xs) 117 0 (.ref 81)
def cs97 (xs : List Int32) : aS := wR (cs96 xs) 117 5 (.ref 102)
def cs98 (xs : List Int32) : aS := wR (cs97 xs) 78 5 (.ref 117)
def cs99 (xs : List Int32) : aS := nw (cs98 xs) 9 45
def cs100 (xs : List Int32) : aS := nw (cs99 xs) 100 256
def cs101 (xs : List Int32) : aS := wR (cs100 xs) 121 2 (.ref 122)
def cs102 (xs : List Int32) : aS := nw (cs101 xs) 100 8
def cs103 (xs : List Int32) : aS := wR (cs102 xs) 121 4 (.ref 123)
def cs104 (xs : List Int32) : aS := nw (cs103 xs) 100 256
def cs105 (xs : List Int32) : aS := wR (cs104 xs) 121 5 (.ref 124)
def cs106 (xs : List Int32) : aS := nw (cs105 xs) 103 8
def cs107 (xs : List Int32) : aS := wR (cs106 xs) 121 6 (.ref 125)
def cs108 (xs : List Int32) : aS := nw (cs107 xs) 100 8
def cs109 (xs : List Int32) : aS := wR (cs108 xs) 121 7 (.ref 126)
def cs110 (xs : List Int32) : aS := nw (cs109 xs) 100 9
def cs111 (xs : List Int32) : aS := wR (cs110 xs) 121 8 (.ref 127)
def cs112 (xs : List Int32) : aS := nw (cs111 xs) 100 1152
def cs113 (xs : List Int32) : aS := wR (cs112 xs) 121 9 (.ref 128)
def cs114 (xs : List Int32) : aS := nw (cs113 xs) 100 1152
def cs115 (xs : List Int32) : aS := wR (cs114 xs) 121 10 (.ref 129)
def cs116 (xs : List Int32) : aS := nw (cs115 xs) 100 1152
def cs117 (xs : List Int32) : aS := wR (cs116 xs) 121 11 (.ref 130)
def cs118 (xs : List Int32) : aS := nw (cs117 xs) 100 1152
def cs119 (xs : List Int32) : aS := wR (cs118 xs) 121 12 (.ref 131)
def cs120 (xs : List Int32) : aS := nw (cs119 xs) 100 1152
def cs121 (xs : List Int32) : aS := wR (cs120 xs) 121 13 (.ref 132)
def cs122 (xs : List Int32) : aS := nw (cs121 xs) 100 1152
def cs123 (xs : List Int32) : aS := wR (cs122 xs) 121 14 (.ref 133)
def cs124 (xs : List Int32) : aS := nw (cs123 xs) 100 1152
def cs125 (xs : List Int32) : aS := wR (cs124 xs) 121 15 (.ref 134)
def cs126 (xs : List Int32) : aS := nw (cs125 xs) 100 1152
def cs127 (xs : List Int32) : aS := wR (cs126 xs) 121 16 (.ref 135)
def cs128 (xs : List Int32) : aS := nw (cs127 xs) 100 1152
def cs129 (xs : List Int32) : aS := wR (cs128 xs) 121 17 (.ref 136)
def cs130 (xs : List Int32) : aS := nw (cs129 xs) 100 1152
def cs131 (xs : List Int32) : aS := wR (cs130 xs) 121 18 (.ref 137)
def cs132 (xs : List Int32) : aS := nw (cs131 xs) 100 1152
def cs133 (xs : List Int32) : aS := wR (cs132 xs) 121 19 (.ref 138)
def cs134 (xs : List Int32) : aS := nw (cs133 xs) 100 2304
def cs135 (xs : List Int32) : aS := wR (cs134 xs) 121 20 (.ref 139)
def cs136 (xs : List Int32) : aS := nw (cs135 xs) 100 128
def cs137 (xs : List Int32) : aS := wR (cs136 xs) 121 22 (.ref 140)
def cs138 (xs : List Int32) : aS := nw (cs137 xs) 100 128
def cs139 (xs : List Int32) : aS := wR (cs138 xs) 121 23 (.ref 141)
def cs140 (xs : List Int32) : aS := nw (cs139 xs) 100 128
def cs141 (xs : List Int32) : aS := wR (cs140 xs) 121 24 (.ref 142)
def cs142 (xs : List Int32) : aS := nw (cs141 xs) 100 128
def cs143 (xs : List Int32) : aS := wR (cs142 xs) 121 25 (.ref 143)
def cs144 (xs : List Int32) : aS := nw (cs143 xs) 100 130
def cs145 (xs : List Int32) : aS := wR (cs144 xs) 121 28 (.ref 144)
def cs146 (xs : List Int32) : aS := nw (cs145 xs) 100 300
def cs147 (xs : List Int32) : aS := wR (cs146 xs) 121 30 (.ref 145)
def cs148 (xs : List Int32) : aS := nw (cs147 xs) 100 300
def cs149 (xs : List Int32) : aS := wR (cs148 xs) 121 31 (.ref 146)
def cs150 (xs : List Int32) : aS := nw (cs149 xs) 100 256
def cs151 (xs : List Int32) : aS := wR (cs150 xs) 121 37 (.ref 147)
def cs152 (xs : List Int32) : aS := nw (cs151 xs) 104 1
set_option maxRecDepth 100000 in
theorem cq1 {sio : Bool} {d : Nat} (xs : List Int32) : A zP (zCs (sv sio)) zK zTy (d + 1) 17 0 [some (.ref 79), some (.int 256)] [] (cs2 xs) (.inl none, cs4 xs) := by
  refine A.run cz17 1 (i' := 1) (ls' := [some (.ref 79), some (.int 256)]) (st' := [.ref 79]) rfl ?_
  refine A.oi cz17 (eq_true (show 0 ≤ 8 by decide)) (show zM17.2.2.2.2.2[1]? = some (1, 3, .invokespecial 3, [1]) from rfl) ?_
  refine A.run cz17 4 (i' := 8) (ls' := [some (.ref 79), some (.int 256)]) (st' := [.int 256, .ref 79]) rfl ?_
  refine A.nb (gI_of cz17 (e := (14, 2, .newarray .char, [])) rfl) (by decide) (by decide) (by decide) ?_
  show A zP (zCs (sv sio)) zK zTy _ _ _ _ _ (cs3 xs) _
  refine A.pr (n := 2) (gI_of cz17 (e := (16, 3, .putfield 9, [1, 0, 2])) rfl) (show 79 < 81 by decide) (by decide) rfl (by decide) rfl rfl ?_
  show A zP (zCs (sv sio)) zK zTy _ _ _ _ _ (cs4 xs) _
  exact A.rv cz17 (show zM17.2.2.2.2.2[10]? = some (19, 1, .return_, []) from rfl) rfl
set_option maxRecDepth 100000 in
theorem cq2 {sio : Bool} {d : Nat} (xs : List Int32) : A zP (zCs (sv sio)) zK zTy (d + 1) 17 0 [some (.ref 84), some (.int 31)] [] (cs11 xs) (.inl none, cs13 xs) := by
  refine A.run cz17 1 (i' := 1) (ls' := [some (.ref 84), some (.int 31)]) (st' := [.ref 84]) rfl ?_
  refine A.oi cz17 (eq_true (show 0 ≤ 8 by decide)) (show zM17.2.2.2.2.2[1]? = some (1, 3, .invokespecial 3, [1]) from rfl) ?_
  refine A.run cz17 4 (i' := 8) (ls' := [some (.ref 84), some (.int 31)]) (st' := [.int 31, .ref 84]) rfl ?_
  refine A.nb (gI_of cz17 (e := (14, 2, .newarray .char, [])) rfl) (by decide) (by decide) (by decide) ?_
  show A zP (zCs (sv sio)) zK zTy _ _ _ _ _ (cs12 xs) _
  refine A.pr (n := 2) (gI_of cz17 (e := (16, 3, .putfield 9, [1, 0, 2])) rfl) (show 84 < 86 by decide) (by decide) rfl (by decide) rfl rfl ?_
  show A zP (zCs (sv sio)) zK zTy _ _ _ _ _ (cs13 xs) _
  exact A.rv cz17 (show zM17.2.2.2.2.2[10]? = some (19, 1, .return_, []) from rfl) rfl
set_option maxRecDepth 100000 in
theorem cq3 {sio : Bool} {d : Nat} (xs : List Int32) : A zP (zCs (sv sio)) zK zTy (d + 1) 17 0 [some (.ref 86), some (.int 31)] [] (cs15 xs) (.inl none, cs17 xs) := by
  refine A.run cz17 1 (i' := 1) (ls' := [some (.ref 86), some (.int 31)]) (st' := [.ref 86]) rfl ?_
  refine A.oi cz17 (eq_true (show 0 ≤ 8 by decide)) (show zM17.2.2.2.2.2[1]? = some (1, 3, .invokespecial 3, [1]) from rfl) ?_
  refine A.run cz17 4 (i' := 8) (ls' := [some (.ref 86), some (.int 31)]) (st' := [.int 31, .ref 86]) rfl ?_
  refine A.nb (gI_of cz17 (e := (14, 2, .newarray .char, [])) rfl) (by decide) (by decide) (by decide) ?_
  show A zP (zCs (sv sio)) zK zTy _ _ _ _ _ (cs16 xs) _
  refine A.pr (n := 2) (gI_of cz17 (e := (16, 3, .putfield 9, [1, 0, 2])) rfl) (show 86 < 88 by decide) (by decide) rfl (by decide) rfl rfl ?_
  show A zP (zCs (sv sio)) zK zTy _ _ _ _ _ (cs17 xs) _
  exact A.rv cz17 (show zM17.2.2.2.2.2[10]? = some (19, 1, .return_, []) from rfl) rfl
set_option maxRecDepth 100000 in
theorem cq4 {sio : Bool} {d : Nat} (xs : List Int32) : A zP (zCs (sv sio)) zK zTy (d + 1) 17 0 [some (.ref 88), some (.int 31)] [] (cs19 xs) (.inl none, cs21 xs) := by
  refine A.run cz17 1 (i' := 1) (ls' := [some (.ref 88), some (.int 31)]) (st' := [.ref 88]) rfl ?_
  refine A.oi cz17 (eq_true (show 0 ≤ 8 by decide)) (show zM17.2.2.2.2.2[1]? = some (1, 3, .invokespecial 3, [1]) from rfl) ?_
  refine A.run cz17 4 (i' := 8) (ls' := [some (.ref 88), some (.int 31)]) (st' := [.int 31, .ref 88]) rfl ?_
  refine A.nb (gI_of cz17 (e := (14, 2, .newarray .char, [])) rfl) (by decide) (by decide) (by decide) ?_
  show A zP (zCs (sv sio)) zK zTy _ _ _ _ _ (cs20 xs) _
  refine A.pr (n := 2) (gI_of cz17 (e := (16, 3, .putfield 9, [1, 0, 2])) rfl) (show 88 < 90 by decide) (by decide) rfl (by decide) rfl rfl ?_
  show A zP (zCs (sv sio)) zK zTy _ _ _ _ _ (cs21 xs) _
  exact A.rv cz17 (show zM17.2.2.2.2.2[10]? = some (19, 1, .return_, []) from rfl) rfl
set_option maxRecDepth 100000 in
theorem cq5 {sio : Bool} {d : Nat} (xs : List Int32) : A zP (zCs (sv sio)) zK zTy (d + 1) 17 0 [some (.ref 90), some (.int 31)] [] (cs23 xs) (.inl none, cs25 xs) := by
  refine A.run cz17 1 (i' := 1) (ls' := [some (.ref 90), some (.int 31)]) (st' := [.ref 90]) rfl ?_
  refine A.oi cz17 (eq_true (show 0 ≤ 8 by decide)) (show zM17.2.2.2.2.2[1]? = some (1, 3, .invokespecial 3, [1]) from rfl) ?_
  refine A.run cz17 4 (i' := 8) (ls' := [some (.ref 90), some (.int 31)]) (st' := [.int 31, .ref 90]) rfl ?_
  refine A.nb (gI_of cz17 (e := (14, 2, .newarray .char, [])) rfl) (by decide) (by decide) (by decide) ?_
  show A zP (zCs (sv sio)) zK zTy _ _ _ _ _ (cs24 xs) _
  refine A.pr (n := 2) (gI_of cz17 (e := (16, 3, .putfield 9, [1, 0, 2])) rfl) (show 90 < 92 by decide) (by decide) rfl (by decide) rfl rfl ?_
  show A zP (zCs (sv sio)) zK zTy _ _ _ _ _ (cs25 xs) _
  exact A.rv cz17 (show zM17.2.2.2.2.2[10]? = some (19, 1, .return_, []) from rfl) rfl
set_option maxRecDepth 100000 in
theorem cq6 {sio : Bool} {d : Nat} (xs : List Int32) : A zP (zCs (sv sio)) zK zTy (d + 1) 17 0 [some (.ref 92), some (.int 31)] [] (cs27 xs) (.inl none, cs29 xs) := by
  refine A.run cz17 1 (i' := 1) (ls' := [some (.ref 92), some (.int 31)]) (st' := [.ref 92]) rfl ?_
  refine A.oi cz17 (eq_true (show 0 ≤ 8 by decide)) (show zM17.2.2.2.2.2[1]? = some (1, 3, .invokespecial 3, [1]) from rfl) ?_
  refine A.run cz17 4 (i' := 8) (ls' := [some (.ref 92), some (.int 31)]) (st' := [.int 31, .ref 92]) rfl ?_
  refine A.nb (gI_of cz17 (e := (14, 2, .newarray .char, [])) rfl) (by decide) (by decide) (by decide) ?_
  show A zP (zCs (sv sio)) zK zTy _ _ _ _ _ (cs28 xs) _
  refine A.pr (n := 2) (gI_of cz17 (e := (16, 3, .putfield 9, [1, 0, 2])) rfl) (show 92 < 94 by decide) (by decide) rfl (by decide) rfl rfl ?_
  show A zP (zCs (sv sio)) zK zTy _ _ _ _ _ (cs29 xs) _
  exact A.rv cz17 (show zM17.2.2.2.2.2[10]? = some (19, 1, .return_, []) from rfl) rfl
set_option maxRecDepth 100000 in
theorem cq7 {sio : Bool} {d : Nat} (xs : List Int32) : A zP (zCs (sv sio)) zK zTy (d + 1) 17 0 [some (.ref 94), some (.int 31)] [] (cs31 xs) (.inl none, cs33 xs) := by
  refine A.run cz17 1 (i' := 1) (ls' := [some (.ref 94), some (.int 31)]) (st' := [.ref 94]) rfl ?_
  refine A.oi cz17 (eq_true (show 0 ≤ 8 by decide)) (show zM17.2.2.2.2.2[1]? = some (1, 3, .invokespecial 3, [1]) from rfl) ?_
  refine A.run cz17 4 (i' := 8) (ls' := [some (.ref 94), some (.int 31)]) (st' := [.int 31, .ref 94]) rfl ?_
  refine A.nb (gI_of cz17 (e := (14, 2, .newarray .char, [])) rfl) (by decide) (by decide) (by decide) ?_
  show A zP (zCs (sv sio)) zK zTy _ _ _ _ _ (cs32 xs) _
  refine A.pr (n := 2) (gI_of cz17 (e := (16, 3, .putfield 9, [1, 0, 2])) rfl) (show 94 < 96 by decide) (by decide) rfl (by decide) rfl rfl ?_
  show A zP (zCs (sv sio)) zK zTy _ _ _ _ _ (cs33 xs) _
  exact A.rv cz17 (show zM17.2.2.2.2.2[10]? = some (19, 1, .return_, []) from rfl) rfl
set_option maxRecDepth 100000 in
theorem cq8 {sio : Bool} {d : Nat} (xs : List Int32) : A zP (zCs (sv sio)) zK zTy (d + 1) 17 0 [some (.ref 96), some (.int 31)] [] (cs35 xs) (.inl none, cs37 xs) := by
  refine A.run cz17 1 (i' := 1) (ls' := [some (.ref 96), some (.int 31)]) (st' := [.ref 96]) rfl ?_
  refine A.oi cz17 (eq_true (show 0 ≤ 8 by decide)) (show zM17.2.2.2.2.2[1]? = some (1, 3, .invokespecial 3, [1]) from rfl) ?_
  refine A.run cz17 4 (i' := 8) (ls' := [some (.ref 96), some (.int 31)]) (st' := [.int 31, .ref 96]) rfl ?_
  refine A.nb (gI_of cz17 (e := (14, 2, .newarray .char, [])) rfl) (by decide) (by decide) (by decide) ?_
  show A zP (zCs (sv sio)) zK zTy _ _ _ _ _ (cs36 xs) _
  refine A.pr (n := 2) (gI_of cz17 (e := (16, 3, .putfield 9, [1, 0, 2])) rfl) (show 96 < 98 by decide) (by decide) rfl (by decide) rfl rfl ?_
  show A zP (zCs (sv sio)) zK zTy _ _ _ _ _ (cs37 xs) _
  exact A.rv cz17 (show zM17.2.2.2.2.2[10]? = some (19, 1, .return_, []) from rfl) rfl
set_option maxRecDepth 100000 in
theorem cq9 {sio : Bool} {d : Nat} (xs : List Int32) : A zP (zCs (sv sio)) zK zTy (d + 1) 17 0 [some (.ref 98), some (.int 31)] [] (cs39 xs) (.inl none, cs41 xs) := by
  refine A.run cz17 1 (i' := 1) (ls' := [some (.ref 98), some (.int 31)]) (st' := [.ref 98]) rfl ?_
  refine A.oi cz17 (eq_true (show 0 ≤ 8 by decide)) (show zM17.2.2.2.2.2[1]? = some (1, 3, .invokespecial 3, [1]) from rfl) ?_
  refine A.run cz17 4 (i' := 8) (ls' := [some (.ref 98), some (.int 31)]) (st' := [.int 31, .ref 98]) rfl ?_
  refine A.nb (gI_of cz17 (e := (14, 2, .newarray .char, [])) rfl) (by decide) (by decide) (by decide) ?_
  show A zP (zCs (sv sio)) zK zTy _ _ _ _ _ (cs40 xs) _
  refine A.pr (n := 2) (gI_of cz17 (e := (16, 3, .putfield 9, [1, 0, 2])) rfl) (show 98 < 100 by decide) (by decide) rfl (by decide) rfl rfl ?_
  show A zP (zCs (sv sio)) zK zTy _ _ _ _ _ (cs41 xs) _
  exact A.rv cz17 (show zM17.2.2.2.2.2[10]? = some (19, 1, .return_, []) from rfl) rfl
set_option maxRecDepth 100000 in
theorem cq10 {sio : Bool} {d : Nat} (xs : List Int32) : A zP (zCs (sv sio)) zK zTy (d + 2) 18 0 [some (.ref 81), none] [] (cs6 xs) (.inl none, cs42 xs) := by
  refine A.run cz18 1 (i' := 1) (ls' := [some (.ref 81), none]) (st' := [.ref 81]) rfl ?_
  refine A.oi cz18 (eq_true (show 0 ≤ 8 by decide)) (show zM18.2.2.2.2.2[1]? = some (1, 3, .invokespecial 3, [1]) from rfl) ?_
  refine A.run cz18 2 (i' := 4) (ls' := [some (.ref 81), none]) (st' := [.int 8, .ref 81]) rfl ?_
  refine A.nr (gI_of cz18 (e := (7, 3, .anewarray 9, [1])) rfl) (by decide) (by decide) (by decide) ?_
  show A zP (zCs (sv sio)) zK zTy _ _ _ _ _ (cs7 xs) _
  refine A.pr (n := 3) (gI_of cz18 (e := (10, 3, .putfield 11, [2, 0, 2])) rfl) (show 81 < 83 by decide) (by decide) rfl (by decide) rfl rfl ?_
  show A zP (zCs (sv sio)) zK zTy _ _ _ _ _ (cs8 xs) _
  refine A.run cz18 2 (i' := 8) (ls' := [some (.ref 81), none]) (st' := [.int 8, .ref 81]) rfl ?_
  refine A.nb (gI_of cz18 (e := (16, 2, .newarray .boolean, [])) rfl) (by decide) (by decide) (by decide) ?_
  show A zP (zCs (sv sio)) zK zTy _ _ _ _ _ (cs9 xs) _
  refine A.pr (n := 3) (gI_of cz18 (e := (18, 3, .putfield 17, [2, 1, 2])) rfl) (show 81 < 84 by decide) (by decide) rfl (by decide) rfl rfl ?_
  show A zP (zCs (sv sio)) zK zTy _ _ _ _ _ (cs10 xs) _
  refine A.run cz18 4 (i' := 14) (ls' := [some (.ref 81), some (.int 0)]) (st' := [.ref 81, .int 0]) rfl ?_
  refine A.gf (v := .ref 82) (n := 3) (gI_of cz18 (e := (25, 3, .getfield 11, [2, 0])) rfl) (show 81 < 84 by decide) rfl (by decide) rfl ?_
  refine A.al (c := 111) (n := 8) (gI_of cz18 (e := (28, 1, .arraylength, [])) rfl) (show 82 < 84 by decide) rfl (by decide) ?_
  refine A.run cz18 2 (i' := 18) (ls' := [some (.ref 81), some (.int 0)]) (st' := [.ref 81]) rfl ?_
  refine A.gf (v := .ref 82) (n := 3) (gI_of cz18 (e := (33, 3, .getfield 11, [2, 0])) rfl) (show 81 < 84 by decide) rfl (by decide) rfl ?_
  refine A.run cz18 1 (i' := 20) (ls' := [some (.ref 81), some (.int 0)]) (st' := [.int 0, .ref 82]) rfl ?_
  refine A.nwd (gI_of cz18 (e := (37, 3, .new 9, [1, 2, 0])) rfl) (by decide) rfl ?_
  show A zP (zCs (sv sio)) zK zTy _ _ _ _ _ (cs11 xs) _
  refine A.run cz18 2 (i' := 23) (ls' := [some (.ref 81), some (.int 0)]) (st' := [.int 31, .ref 84, .ref 84, .int 0, .ref 82]) rfl ?_
  refine A.c (gC_sp (x := 84) cz18 (show zM18.2.2.2.2.2[23]? = some (43, 3, .invokespecial 21, [0, 17, 1]) from rfl) cz17 rfl (show aCr 1 84 [.int 31, .ref 84, .ref 84, .int 0, .ref 82] 2 = some ([some (.ref 84), some (.int 31)], [.ref 84, .int 0, .ref 82]) from rfl)) (cq2 xs) ?_
  show A zP (zCs (sv sio)) zK zTy _ _ _ _ _ (cs13 xs) _
  refine A.as (n := 8) (nb := 2) (gI_of cz18 (e := (46, 1, .aastore, [1])) rfl) (show 82 < 86 by decide) (by decide) (by decide) rfl (show 84 < 86 by decide) rfl (by decide) ?_
  show A zP (zCs (sv sio)) zK zTy _ _ _ _ _ (cs14 xs) _
  refine A.run cz18 4 (i' := 14) (ls' := [some (.ref 81), some (.int 1)]) (st' := [.ref 81, .int 1]) rfl ?_
  refine A.gf (v := .ref 82) (n := 3) (gI_of cz18 (e := (25, 3, .getfield 11, [2, 0])) rfl) (show 81 < 86 by decide) rfl (by decide) rfl ?_
  refine A.al (c := 111) (n := 8) (gI_of cz18 (e := (28, 1, .arraylength, [])) rfl) (show 82 < 86 by decide) rfl (by decide) ?_
  refine A.run cz18 2 (i' := 18) (ls' := [some (.ref 81), some (.int 1)]) (st' := [.ref 81]) rfl ?_
  refine A.gf (v := .ref 82) (n := 3) (gI_of cz18 (e := (33, 3, .getfield 11, [2, 0])) rfl) (show 81 < 86 by decide) rfl (by decide) rfl ?_
  refine A.run cz18 1 (i' := 20) (ls' := [some (.ref 81), some (.int 1)]) (st' := [.int 1, .ref 82]) rfl ?_
  refine A.nwd (gI_of cz18 (e := (37, 3, .new 9, [1, 2, 0])) rfl) (by decide) rfl ?_
  show A zP (zCs (sv sio)) zK zTy _ _ _ _ _ (cs15 xs) _
  refine A.run cz18 2 (i' := 23) (ls' := [some (.ref 81), some (.int 1)]) (st' := [.int 31, .ref 86, .ref 86, .int 1, .ref 82]) rfl ?_
  refine A.c (gC_sp (x := 86) cz18 (show zM18.2.2.2.2.2[23]? = some (43, 3, .invokespecial 21, [0, 17, 1]) from rfl) cz17 rfl (show aCr 1 86 [.int 31, .ref 86, .ref 86, .int 1, .ref 82] 2 = some ([some (.ref 86), some (.int 31)], [.ref 86, .int 1, .ref 82]) from rfl)) (cq3 xs) ?_
  show A zP (zCs (sv sio)) zK zTy _ _ _ _ _ (cs17 xs) _
  refine A.as (n := 8) (nb := 2) (gI_of cz18 (e := (46, 1, .aastore, [1])) rfl) (show 82 < 88 by decide) (by decide) (by decide) rfl (show 86 < 88 by decide) rfl (by decide) ?_
  show A zP (zCs (sv sio)) zK zTy _ _ _ _ _ (cs18 xs) _
  refine A.run cz18 4 (i' := 14) (ls' := [some (.ref 81), some (.int 2)]) (st' := [.ref 81, .int 2]) rfl ?_
  refine A.gf (v := .ref 82) (n := 3) (gI_of cz18 (e := (25, 3, .getfield 11, [2, 0])) rfl) (show 81 < 88 by decide) rfl (by decide) rfl ?_
  refine A.al (c := 111) (n := 8) (gI_of cz18 (e := (28, 1, .arraylength, [])) rfl) (show 82 < 88 by decide) rfl (by decide) ?_
  refine A.run cz18 2 (i' := 18) (ls' := [some (.ref 81), some (.int 2)]) (st' := [.ref 81]) rfl ?_
  refine A.gf (v := .ref 82) (n := 3) (gI_of cz18 (e := (33, 3, .getfield 11, [2, 0])) rfl) (show 81 < 88 by decide) rfl (by decide) rfl ?_
  refine A.run cz18 1 (i' := 20) (ls' := [some (.ref 81), some (.int 2)]) (st' := [.int 2, .ref 82]) rfl ?_
  refine A.nwd (gI_of cz18 (e := (37, 3, .new 9, [1, 2, 0])) rfl) (by decide) rfl ?_
  show A zP (zCs (sv sio)) zK zTy _ _ _ _ _ (cs19 xs) _
  refine A.run cz18 2 (i' := 23) (ls' := [some (.ref 81), some (.int 2)]) (st' := [.int 31, .ref 88, .ref 88, .int 2, .ref 82]) rfl ?_
  refine A.c (gC_sp (x := 88) cz18 (show zM18.2.2.2.2.2[23]? = some (43, 3, .invokespecial 21, [0, 17, 1]) from rfl) cz17 rfl (show aCr 1 88 [.int 31, .ref 88, .ref 88, .int 2, .ref 82] 2 = some ([some (.ref 88), some (.int 31)], [.ref 88, .int 2, .ref 82]) from rfl)) (cq4 xs) ?_
  show A zP (zCs (sv sio)) zK zTy _ _ _ _ _ (cs21 xs) _
  refine A.as (n := 8) (nb := 2) (gI_of cz18 (e := (46, 1, .aastore, [1])) rfl) (show 82 < 90 by decide) (by decide) (by decide) rfl (show 88 < 90 by decide) rfl (by decide) ?_
  show A zP (zCs (sv sio)) zK zTy _ _ _ _ _ (cs22 xs) _
  refine A.run cz18 4 (i' := 14) (ls' := [some (.ref 81), some (.int 3)]) (st' := [.ref 81, .int 3]) rfl ?_
  refine A.gf (v := .ref 82) (n := 3) (gI_of cz18 (e := (25, 3, .getfield 11, [2, 0])) rfl) (show 81 < 90 by decide) rfl (by decide) rfl ?_
  refine A.al (c := 111) (n := 8) (gI_of cz18 (e := (28, 1, .arraylength, [])) rfl) (show 82 < 90 by decide) rfl (by decide) ?_
  refine A.run cz18 2 (i' := 18) (ls' := [some (.ref 81), some (.int 3)]) (st' := [.ref 81]) rfl ?_
  refine A.gf (v := .ref 82) (n := 3) (gI_of cz18 (e := (33, 3, .getfield 11, [2, 0])) rfl) (show 81 < 90 by decide) rfl (by decide) rfl ?_
  refine A.run cz18 1 (i' := 20) (ls' := [some (.ref 81), some (.int 3)]) (st' := [.int 3, .ref 82]) rfl ?_
  refine A.nwd (gI_of cz18 (e := (37, 3, .new 9, [1, 2, 0])) rfl) (by decide) rfl ?_
  show A zP (zCs (sv sio)) zK zTy _ _ _ _ _ (cs23 xs) _
  refine A.run cz18 2 (i' := 23) (ls' := [some (.ref 81), some (.int 3)]) (st' := [.int 31, .ref 90, .ref 90, .int 3, .ref 82]) rfl ?_
  refine A.c (gC_sp (x := 90) cz18 (show zM18.2.2.2.2.2[23]? = some (43, 3, .invokespecial 21, [0, 17, 1]) from rfl) cz17 rfl (show aCr 1 90 [.int 31, .ref 90, .ref 90, .int 3, .ref 82] 2 = some ([some (.ref 90), some (.int 31)], [.ref 90, .int 3, .ref 82]) from rfl)) (cq5 xs) ?_
  show A zP (zCs (sv sio)) zK zTy _ _ _ _ _ (cs25 xs) _
  refine A.as (n := 8) (nb := 2) (gI_of cz18 (e := (46, 1, .aastore, [1])) rfl) (show 82 < 92 by decide) (by decide) (by decide) rfl (show 90 < 92 by decide) rfl (by decide) ?_
  show A zP (zCs (sv sio)) zK zTy _ _ _ _ _ (cs26 xs) _
  refine A.run cz18 4 (i' := 14) (ls' := [some (.ref 81), some (.int 4)]) (st' := [.ref 81, .int 4]) rfl ?_
  refine A.gf (v := .ref 82) (n := 3) (gI_of cz18 (e := (25, 3, .getfield 11, [2, 0])) rfl) (show 81 < 92 by decide) rfl (by decide) rfl ?_
  refine A.al (c := 111) (n := 8) (gI_of cz18 (e := (28, 1, .arraylength, [])) rfl) (show 82 < 92 by decide) rfl (by decide) ?_
  refine A.run cz18 2 (i' := 18) (ls' := [some (.ref 81), some (.int 4)]) (st' := [.ref 81]) rfl ?_
  refine A.gf (v := .ref 82) (n := 3) (gI_of cz18 (e := (33, 3, .getfield 11, [2, 0])) rfl) (show 81 < 92 by decide) rfl (by decide) rfl ?_
  refine A.run cz18 1 (i' := 20) (ls' := [some (.ref 81), some (.int 4)]) (st' := [.int 4, .ref 82]) rfl ?_
  refine A.nwd (gI_of cz18 (e := (37, 3, .new 9, [1, 2, 0])) rfl) (by decide) rfl ?_
  show A zP (zCs (sv sio)) zK zTy _ _ _ _ _ (cs27 xs) _
  refine A.run cz18 2 (i' := 23) (ls' := [some (.ref 81), some (.int 4)]) (st' := [.int 31, .ref 92, .ref 92, .int 4, .ref 82]) rfl ?_
  refine A.c (gC_sp (x := 92) cz18 (show zM18.2.2.2.2.2[23]? = some (43, 3, .invokespecial 21, [0, 17, 1]) from rfl) cz17 rfl (show aCr 1 92 [.int 31, .ref 92, .ref 92, .int 4, .ref 82] 2 = some ([some (.ref 92), some (.int 31)], [.ref 92, .int 4, .ref 82]) from rfl)) (cq6 xs) ?_
  show A zP (zCs (sv sio)) zK zTy _ _ _ _ _ (cs29 xs) _
  refine A.as (n := 8) (nb := 2) (gI_of cz18 (e := (46, 1, .aastore, [1])) rfl) (show 82 < 94 by decide) (by decide) (by decide) rfl (show 92 < 94 by decide) rfl (by decide) ?_
  show A zP (zCs (sv sio)) zK zTy _ _ _ _ _ (cs30 xs) _
  refine A.run cz18 4 (i' := 14) (ls' := [some (.ref 81), some (.int 5)]) (st' := [.ref 81, .int 5]) rfl ?_
  refine A.gf (v := .ref 82) (n := 3) (gI_of cz18 (e := (25, 3, .getfield 11, [2, 0])) rfl) (show 81 < 94 by decide) rfl (by decide) rfl ?_
  refine A.al (c := 111) (n := 8) (gI_of cz18 (e := (28, 1, .arraylength, [])) rfl) (show 82 < 94 by decide) rfl (by decide) ?_
  refine A.run cz18 2 (i' := 18) (ls' := [some (.ref 81), some (.int 5)]) (st' := [.ref 81]) rfl ?_
  refine A.gf (v := .ref 82) (n := 3) (gI_of cz18 (e := (33, 3, .getfield 11, [2, 0])) rfl) (show 81 < 94 by decide) rfl (by decide) rfl ?_
  refine A.run cz18 1 (i' := 20) (ls' := [some (.ref 81), some (.int 5)]) (st' := [.int 5, .ref 82]) rfl ?_
  refine A.nwd (gI_of cz18 (e := (37, 3, .new 9, [1, 2, 0])) rfl) (by decide) rfl ?_
  show A zP (zCs (sv sio)) zK zTy _ _ _ _ _ (cs31 xs) _
  refine A.run cz18 2 (i' := 23) (ls' := [some (.ref 81), some (.int 5)]) (st' := [.int 31, .ref 94, .ref 94, .int 5, .ref 82]) rfl ?_
  refine A.c (gC_sp (x := 94) cz18 (show zM18.2.2.2.2.2[23]? = some (43, 3, .invokespecial 21, [0, 17, 1]) from rfl) cz17 rfl (show aCr 1 94 [.int 31, .ref 94, .ref 94, .int 5, .ref 82] 2 = some ([some (.ref 94), some (.int 31)], [.ref 94, .int 5, .ref 82]) from rfl)) (cq7 xs) ?_
  show A zP (zCs (sv sio)) zK zTy _ _ _ _ _ (cs33 xs) _
  refine A.as (n := 8) (nb := 2) (gI_of cz18 (e := (46, 1, .aastore, [1])) rfl) (show 82 < 96 by decide) (by decide) (by decide) rfl (show 94 < 96 by decide) rfl (by decide) ?_
  show A zP (zCs (sv sio)) zK zTy _ _ _ _ _ (cs34 xs) _
  refine A.run cz18 4 (i' := 14) (ls' := [some (.ref 81), some (.int 6)]) (st' := [.ref 81, .int 6]) rfl ?_
  refine A.gf (v := .ref 82) (n := 3) (gI_of cz18 (e := (25, 3, .getfield 11, [2, 0])) rfl) (show 81 < 96 by decide) rfl (by decide) rfl ?_
  refine A.al (c := 111) (n := 8) (gI_of cz18 (e := (28, 1, .arraylength, [])) rfl) (show 82 < 96 by decide) rfl (by decide) ?_
  refine A.run cz18 2 (i' := 18) (ls' := [some (.ref 81), some (.int 6)]) (st' := [.ref 81]) rfl ?_
  refine A.gf (v := .ref 82) (n := 3) (gI_of cz18 (e := (33, 3, .getfield 11, [2, 0])) rfl) (show 81 < 96 by decide) rfl (by decide) rfl ?_
  refine A.run cz18 1 (i' := 20) (ls' := [some (.ref 81), some (.int 6)]) (st' := [.int 6, .ref 82]) rfl ?_
  refine A.nwd (gI_of cz18 (e := (37, 3, .new 9, [1, 2, 0])) rfl) (by decide) rfl ?_
  show A zP (zCs (sv sio)) zK zTy _ _ _ _ _ (cs35 xs) _
  refine A.run cz18 2 (i' := 23) (ls' := [some (.ref 81), some (.int 6)]) (st' := [.int 31, .ref 96, .ref 96, .int 6, .ref 82]) rfl ?_
  refine A.c (gC_sp (x := 96) cz18 (show zM18.2.2.2.2.2[23]? = some (43, 3, .invokespecial 21, [0, 17, 1]) from rfl) cz17 rfl (show aCr 1 96 [.int 31, .ref 96, .ref 96, .int 6, .ref 82] 2 = some ([some (.ref 96), some (.int 31)], [.ref 96, .int 6, .ref 82]) from rfl)) (cq8 xs) ?_
  show A zP (zCs (sv sio)) zK zTy _ _ _ _ _ (cs37 xs) _
  refine A.as (n := 8) (nb := 2) (gI_of cz18 (e := (46, 1, .aastore, [1])) rfl) (show 82 < 98 by decide) (by decide) (by decide) rfl (show 96 < 98 by decide) rfl (by decide) ?_
  show A zP (zCs (sv sio)) zK zTy _ _ _ _ _ (cs38 xs) _
  refine A.run cz18 4 (i' := 14) (ls' := [some (.ref 81), some (.int 7)]) (st' := [.ref 81, .int 7]) rfl ?_
  refine A.gf (v := .ref 82) (n := 3) (gI_of cz18 (e := (25, 3, .getfield 11, [2, 0])) rfl) (show 81 < 98 by decide) rfl (by decide) rfl ?_
  refine A.al (c := 111) (n := 8) (gI_of cz18 (e := (28, 1, .arraylength, [])) rfl) (show 82 < 98 by decide) rfl (by decide) ?_
  refine A.run cz18 2 (i' := 18) (ls' := [some (.ref 81), some (.int 7)]) (st' := [.ref 81]) rfl ?_
  refine A.gf (v := .ref 82) (n := 3) (gI_of cz18 (e := (33, 3, .getfield 11, [2, 0])) rfl) (show 81 < 98 by decide) rfl (by decide) rfl ?_
  refine A.run cz18 1 (i' := 20) (ls' := [some (.ref 81), some (.int 7)]) (st' := [.int 7, .ref 82]) rfl ?_
  refine A.nwd (gI_of cz18 (e := (37, 3, .new 9, [1, 2, 0])) rfl) (by decide) rfl ?_
  show A zP (zCs (sv sio)) zK zTy _ _ _ _ _ (cs39 xs) _
  refine A.run cz18 2 (i' := 23) (ls' := [some (.ref 81), some (.int 7)]) (st' := [.int 31, .ref 98, .ref 98, .int 7, .ref 82]) rfl ?_
  refine A.c (gC_sp (x := 98) cz18 (show zM18.2.2.2.2.2[23]? = some (43, 3, .invokespecial 21, [0, 17, 1]) from rfl) cz17 rfl (show aCr 1 98 [.int 31, .ref 98, .ref 98, .int 7, .ref 82] 2 = some ([some (.ref 98), some (.int 31)], [.ref 98, .int 7, .ref 82]) from rfl)) (cq9 xs) ?_
  show A zP (zCs (sv sio)) zK zTy _ _ _ _ _ (cs41 xs) _
  refine A.as (n := 8) (nb := 2) (gI_of cz18 (e := (46, 1, .aastore, [1])) rfl) (show 82 < 100 by decide) (by decide) (by decide) rfl (show 98 < 100 by decide) rfl (by decide) ?_
  show A zP (zCs (sv sio)) zK zTy _ _ _ _ _ (cs42 xs) _
  refine A.run cz18 4 (i' := 14) (ls' := [some (.ref 81), some (.int 8)]) (st' := [.ref 81, .int 8]) rfl ?_
  refine A.gf (v := .ref 82) (n := 3) (gI_of cz18 (e := (25, 3, .getfield 11, [2, 0])) rfl) (show 81 < 100 by decide) rfl (by decide) rfl ?_
  refine A.al (c := 111) (n := 8) (gI_of cz18 (e := (28, 1, .arraylength, [])) rfl) (show 82 < 100 by decide) rfl (by decide) ?_
  refine A.run cz18 1 (i' := 27) (ls' := [some (.ref 81), some (.int 8)]) (st' := []) rfl ?_
  exact A.rv cz18 (show zM18.2.2.2.2.2[27]? = some (53, 1, .return_, []) from rfl) rfl
set_option maxRecDepth 100000 in
theorem cq11 {sio : Bool} {d : Nat} (xs : List Int32) : A zP (zCs (sv sio)) zK zTy (d + 1) 17 0 [some (.ref 104), some (.int 256)] [] (cs59 xs) (.inl none, cs61 xs) := by
  refine A.run cz17 1 (i' := 1) (ls' := [some (.ref 104), some (.int 256)]) (st' := [.ref 104]) rfl ?_
  refine A.oi cz17 (eq_true (show 0 ≤ 8 by decide)) (show zM17.2.2.2.2.2[1]? = some (1, 3, .invokespecial 3, [1]) from rfl) ?_
  refine A.run cz17 4 (i' := 8) (ls' := [some (.ref 104), some (.int 256)]) (st' := [.int 256, .ref 104]) rfl ?_
  refine A.nb (gI_of cz17 (e := (14, 2, .newarray .char, [])) rfl) (by decide) (by decide) (by decide) ?_
  show A zP (zCs (sv sio)) zK zTy _ _ _ _ _ (cs60 xs) _
  refine A.pr (n := 2) (gI_of cz17 (e := (16, 3, .putfield 9, [1, 0, 2])) rfl) (show 104 < 106 by decide) (by decide) rfl (by decide) rfl rfl ?_
  show A zP (zCs (sv sio)) zK zTy _ _ _ _ _ (cs61 xs) _
  exact A.rv cz17 (show zM17.2.2.2.2.2[10]? = some (19, 1, .return_, []) from rfl) rfl
set_option maxRecDepth 100000 in
theorem cq12 {sio : Bool} {d : Nat} (xs : List Int32) : A zP (zCs (sv sio)) zK zTy (d + 2) 19 0 [some (.ref 102)] [] (cs56 xs) (.inl none, cs62 xs) := by
  refine A.run cz19 1 (i' := 1) (ls' := [some (.ref 102)]) (st' := [.ref 102]) rfl ?_
  refine A.oi cz19 (eq_true (show 0 ≤ 8 by decide)) (show zM19.2.2.2.2.2[1]? = some (1, 3, .invokespecial 3, [1]) from rfl) ?_
  refine A.run cz19 2 (i' := 4) (ls' := [some (.ref 102)]) (st' := [.int 1408, .ref 102]) rfl ?_
  refine A.nb (gI_of cz19 (e := (8, 2, .newarray .int, [])) rfl) (by decide) (by decide) (by decide) ?_
  show A zP (zCs (sv sio)) zK zTy _ _ _ _ _ (cs57 xs) _
  refine A.pr (n := 3) (gI_of cz19 (e := (10, 3, .putfield 9, [3, 0, 2])) rfl) (show 102 < 104 by decide) (by decide) rfl (by decide) rfl rfl ?_
  show A zP (zCs (sv sio)) zK zTy _ _ _ _ _ (cs58 xs) _
  refine A.run cz19 1 (i' := 7) (ls' := [some (.ref 102)]) (st' := [.ref 102]) rfl ?_
  refine A.nwd (gI_of cz19 (e := (14, 3, .new 15, [1, 2, 0])) rfl) (by decide) rfl ?_
  show A zP (zCs (sv sio)) zK zTy _ _ _ _ _ (cs59 xs) _
  refine A.run cz19 2 (i' := 10) (ls' := [some (.ref 102)]) (st' := [.int 256, .ref 104, .ref 104, .ref 102]) rfl ?_
  refine A.c (gC_sp (x := 104) cz19 (show zM19.2.2.2.2.2[10]? = some (21, 3, .invokespecial 17, [0, 17, 1]) from rfl) cz17 rfl (show aCr 1 104 [.int 256, .ref 104, .ref 104, .ref 102] 2 = some ([some (.ref 104), some (.int 256)], [.ref 104, .ref 102]) from rfl)) (cq11 xs) ?_
  show A zP (zCs (sv sio)) zK zTy _ _ _ _ _ (cs61 xs) _
  refine A.pr (n := 3) (gI_of cz19 (e := (24, 3, .putfield 20, [3, 1, 2])) rfl) (show 102 < 106 by decide) (by decide) rfl (by decide) rfl rfl ?_
  show A zP (zCs (sv sio)) zK zTy _ _ _ _ _ (cs62 xs) _
  exact A.rv cz19 (show zM19.2.2.2.2.2[12]? = some (27, 1, .return_, []) from rfl) rfl
set_option maxRecDepth 100000 in
theorem cq13 {sio : Bool} {d : Nat} (xs : List Int32) : A zP (zCs (sv sio)) zK zTy (d + 1) 17 0 [some (.ref 107), some (.int 256)] [] (cs65 xs) (.inl none, cs67 xs) := by
  refine A.run cz17 1 (i' := 1) (ls' := [some (.ref 107), some (.int 256)]) (st' := [.ref 107]) rfl ?_
  refine A.oi cz17 (eq_true (show 0 ≤ 8 by decide)) (show zM17.2.2.2.2.2[1]? = some (1, 3, .invokespecial 3, [1]) from rfl) ?_
  refine A.run cz17 4 (i' := 8) (ls' := [some (.ref 107), some (.int 256)]) (st' := [.int 256, .ref 107]) rfl ?_
  refine A.nb (gI_of cz17 (e := (14, 2, .newarray .char, [])) rfl) (by decide) (by decide) (by decide) ?_
  show A zP (zCs (sv sio)) zK zTy _ _ _ _ _ (cs66 xs) _
  refine A.pr (n := 2) (gI_of cz17 (e := (16, 3, .putfield 9, [1, 0, 2])) rfl) (show 107 < 109 by decide) (by decide) rfl (by decide) rfl rfl ?_
  show A zP (zCs (sv sio)) zK zTy _ _ _ _ _ (cs67 xs) _
  exact A.rv cz17 (show zM17.2.2.2.2.2[10]? = some (19, 1, .return_, []) from rfl) rfl
set_option maxRecDepth 100000 in
theorem cq14 {sio : Bool} {d : Nat} (xs : List Int32) : A zP (zCs (sv sio)) zK zTy (d + 1) 21 0 [some (.ref 109)] [] (cs69 xs) (.inl none, cs69 xs) := by
  refine A.run cz21 1 (i' := 1) (ls' := [some (.ref 109)]) (st' := [.ref 109]) rfl ?_
  refine A.oi cz21 (eq_true (show 0 ≤ 8 by decide)) (show zM21.2.2.2.2.2[1]? = some (1, 3, .invokespecial 3, [1]) from rfl) ?_
  exact A.rv cz21 (show zM21.2.2.2.2.2[2]? = some (4, 1, .return_, []) from rfl) rfl
set_option maxRecDepth 100000 in
theorem cq15 {sio : Bool} {d : Nat} (xs : List Int32) : A zP (zCs (sv sio)) zK zTy (d + 1) 22 0 [some (.ref 110)] [] (cs71 xs) (.inl none, cs75 xs) := by
  refine A.run cz22 1 (i' := 1) (ls' := [some (.ref 110)]) (st' := [.ref 110]) rfl ?_
  refine A.oi cz22 (eq_true (show 0 ≤ 8 by decide)) (show zM22.2.2.2.2.2[1]? = some (1, 3, .invokespecial 3, [1]) from rfl) ?_
  refine A.run cz22 2 (i' := 4) (ls' := [some (.ref 110)]) (st' := [.int 128, .ref 110]) rfl ?_
  refine A.nb (gI_of cz22 (e := (8, 2, .newarray .int, [])) rfl) (by decide) (by decide) (by decide) ?_
  show A zP (zCs (sv sio)) zK zTy _ _ _ _ _ (cs72 xs) _
  refine A.pr (n := 3) (gI_of cz22 (e := (10, 3, .putfield 9, [6, 0, 2])) rfl) (show 110 < 112 by decide) (by decide) rfl (by decide) rfl rfl ?_
  show A zP (zCs (sv sio)) zK zTy _ _ _ _ _ (cs73 xs) _
  refine A.run cz22 2 (i' := 8) (ls' := [some (.ref 110)]) (st' := [.int 128, .ref 110]) rfl ?_
  refine A.nb (gI_of cz22 (e := (17, 2, .newarray .int, [])) rfl) (by decide) (by decide) (by decide) ?_
  show A zP (zCs (sv sio)) zK zTy _ _ _ _ _ (cs74 xs) _
  refine A.pr (n := 3) (gI_of cz22 (e := (19, 3, .putfield 15, [6, 1, 2])) rfl) (show 110 < 113 by decide) (by decide) rfl (by decide) rfl rfl ?_
  show A zP (zCs (sv sio)) zK zTy _ _ _ _ _ (cs75 xs) _
  exact A.rv cz22 (show zM22.2.2.2.2.2[10]? = some (22, 1, .return_, []) from rfl) rfl
set_option maxRecDepth 100000 in
theorem cq16 {sio : Bool} {d : Nat} (xs : List Int32) : A zP (zCs (sv sio)) zK zTy (d + 1) 23 0 [some (.ref 113)] [] (cs77 xs) (.inl none, cs83 xs) := by
  refine A.run cz23 1 (i' := 1) (ls' := [some (.ref 113)]) (st' := [.ref 113]) rfl ?_
  refine A.oi cz23 (eq_true (show 0 ≤ 8 by decide)) (show zM23.2.2.2.2.2[1]? = some (1, 3, .invokespecial 3, [1]) from rfl) ?_
  refine A.run cz23 2 (i' := 4) (ls' := [some (.ref 113)]) (st' := [.int 32, .ref 113]) rfl ?_
  refine A.nb (gI_of cz23 (e := (7, 2, .newarray .int, [])) rfl) (by decide) (by decide) (by decide) ?_
  show A zP (zCs (sv sio)) zK zTy _ _ _ _ _ (cs78 xs) _
  refine A.pr (n := 4) (gI_of cz23 (e := (9, 3, .putfield 9, [7, 0, 2])) rfl) (show 113 < 115 by decide) (by decide) rfl (by decide) rfl rfl ?_
  show A zP (zCs (sv sio)) zK zTy _ _ _ _ _ (cs79 xs) _
  refine A.run cz23 2 (i' := 8) (ls' := [some (.ref 113)]) (st' := [.int 32, .ref 113]) rfl ?_
  refine A.nb (gI_of cz23 (e := (15, 2, .newarray .int, [])) rfl) (by decide) (by decide) (by decide) ?_
  show A zP (zCs (sv sio)) zK zTy _ _ _ _ _ (cs80 xs) _
  refine A.pr (n := 4) (gI_of cz23 (e := (17, 3, .putfield 15, [7, 1, 2])) rfl) (show 113 < 116 by decide) (by decide) rfl (by decide) rfl rfl ?_
  show A zP (zCs (sv sio)) zK zTy _ _ _ _ _ (cs81 xs) _
  refine A.run cz23 2 (i' := 12) (ls' := [some (.ref 113)]) (st' := [.int 32, .ref 113]) rfl ?_
  refine A.nb (gI_of cz23 (e := (23, 2, .newarray .int, [])) rfl) (by decide) (by decide) (by decide) ?_
  show A zP (zCs (sv sio)) zK zTy _ _ _ _ _ (cs82 xs) _
  refine A.pr (n := 4) (gI_of cz23 (e := (25, 3, .putfield 18, [7, 2, 2])) rfl) (show 113 < 117 by decide) (by decide) rfl (by decide) rfl rfl ?_
  show A zP (zCs (sv sio)) zK zTy _ _ _ _ _ (cs83 xs) _
  exact A.rv cz23 (show zM23.2.2.2.2.2[14]? = some (28, 1, .return_, []) from rfl) rfl
set_option maxRecDepth 100000 in
theorem cq17 {sio : Bool} {d : Nat} (xs : List Int32) : A zP (zCs (sv sio)) zK zTy (d + 2) 20 0 [some (.ref 106), some (.ref 79), some (.ref 81), some (.ref 102)] [] (cs64 xs) (.inl none, cs87 xs) := by
  refine A.run cz20 1 (i' := 1) (ls' := [some (.ref 106), some (.ref 79), some (.ref 81), some (.ref 102)]) (st' := [.ref 106]) rfl ?_
  refine A.oi cz20 (eq_true (show 0 ≤ 8 by decide)) (show zM20.2.2.2.2.2[1]? = some (1, 3, .invokespecial 3, [1]) from rfl) ?_
  refine A.run cz20 1 (i' := 3) (ls' := [some (.ref 106), some (.ref 79), some (.ref 81), some (.ref 102)]) (st' := [.ref 106]) rfl ?_
  refine A.nwd (gI_of cz20 (e := (5, 3, .new 9, [1, 2, 0])) rfl) (by decide) rfl ?_
  show A zP (zCs (sv sio)) zK zTy _ _ _ _ _ (cs65 xs) _
  refine A.run cz20 2 (i' := 6) (ls' := [some (.ref 106), some (.ref 79), some (.ref 81), some (.ref 102)]) (st' := [.int 256, .ref 107, .ref 107, .ref 106]) rfl ?_
  refine A.c (gC_sp (x := 107) cz20 (show zM20.2.2.2.2.2[6]? = some (12, 3, .invokespecial 11, [0, 17, 1]) from rfl) cz17 rfl (show aCr 1 107 [.int 256, .ref 107, .ref 107, .ref 106] 2 = some ([some (.ref 107), some (.int 256)], [.ref 107, .ref 106]) from rfl)) (cq13 xs) ?_
  show A zP (zCs (sv sio)) zK zTy _ _ _ _ _ (cs67 xs) _
  refine A.pr (n := 13) (gI_of cz20 (e := (15, 3, .putfield 14, [4, 2, 2])) rfl) (show 106 < 109 by decide) (by decide) rfl (by decide) rfl rfl ?_
  show A zP (zCs (sv sio)) zK zTy _ _ _ _ _ (cs68 xs) _
  refine A.run cz20 1 (i' := 9) (ls' := [some (.ref 106), some (.ref 79), some (.ref 81), some (.ref 102)]) (st' := [.ref 106]) rfl ?_
  refine A.nwd (gI_of cz20 (e := (19, 3, .new 20, [5, 0, 0, 0, 0])) rfl) (by decide) rfl ?_
  show A zP (zCs (sv sio)) zK zTy _ _ _ _ _ (cs69 xs) _
  refine A.run cz20 1 (i' := 11) (ls' := [some (.ref 106), some (.ref 79), some (.ref 81), some (.ref 102)]) (st' := [.ref 109, .ref 109, .ref 106]) rfl ?_
  refine A.c (gC_sp (x := 109) cz20 (show zM20.2.2.2.2.2[11]? = some (23, 3, .invokespecial 22, [0, 21, 0]) from rfl) cz21 rfl (show aCr 0 109 [.ref 109, .ref 109, .ref 106] 1 = some ([some (.ref 109)], [.ref 109, .ref 106]) from rfl)) (cq14 xs) ?_
  show A zP (zCs (sv sio)) zK zTy _ _ _ _ _ (cs69 xs) _
  refine A.pr (n := 13) (gI_of cz20 (e := (26, 3, .putfield 23, [4, 3, 2])) rfl) (show 106 < 110 by decide) (by decide) rfl (by decide) rfl rfl ?_
  show A zP (zCs (sv sio)) zK zTy _ _ _ _ _ (cs70 xs) _
  refine A.run cz20 1 (i' := 14) (ls' := [some (.ref 106), some (.ref 79), some (.ref 81), some (.ref 102)]) (st' := [.ref 106]) rfl ?_
  refine A.nwd (gI_of cz20 (e := (30, 3, .new 27, [6, 2, 2, 0])) rfl) (by decide) rfl ?_
  show A zP (zCs (sv sio)) zK zTy _ _ _ _ _ (cs71 xs) _
  refine A.run cz20 1 (i' := 16) (ls' := [some (.ref 106), some (.ref 79), some (.ref 81), some (.ref 102)]) (st' := [.ref 110, .ref 110, .ref 106]) rfl ?_
  refine A.c (gC_sp (x := 110) cz20 (show zM20.2.2.2.2.2[16]? = some (34, 3, .invokespecial 29, [0, 22, 0]) from rfl) cz22 rfl (show aCr 0 110 [.ref 110, .ref 110, .ref 106] 1 = some ([some (.ref 110)], [.ref 110, .ref 106]) from rfl)) (cq15 xs) ?_
  show A zP (zCs (sv sio)) zK zTy _ _ _ _ _ (cs75 xs) _
  refine A.pr (n := 13) (gI_of cz20 (e := (37, 3, .putfield 30, [4, 4, 2])) rfl) (show 106 < 113 by decide) (by decide) rfl (by decide) rfl rfl ?_
  show A zP (zCs (sv sio)) zK zTy _ _ _ _ _ (cs76 xs) _
  refine A.run cz20 1 (i' := 19) (ls' := [some (.ref 106), some (.ref 79), some (.ref 81), some (.ref 102)]) (st' := [.ref 106]) rfl ?_
  refine A.nwd (gI_of cz20 (e := (41, 3, .new 34, [7, 2, 2, 2, 0])) rfl) (by decide) rfl ?_
  show A zP (zCs (sv sio)) zK zTy _ _ _ _ _ (cs77 xs) _
  refine A.run cz20 1 (i' := 21) (ls' := [some (.ref 106), some (.ref 79), some (.ref 81), some (.ref 102)]) (st' := [.ref 113, .ref 113, .ref 106]) rfl ?_
  refine A.c (gC_sp (x := 113) cz20 (show zM20.2.2.2.2.2[21]? = some (45, 3, .invokespecial 36, [0, 23, 0]) from rfl) cz23 rfl (show aCr 0 113 [.ref 113, .ref 113, .ref 106] 1 = some ([some (.ref 113)], [.ref 113, .ref 106]) from rfl)) (cq16 xs) ?_
  show A zP (zCs (sv sio)) zK zTy _ _ _ _ _ (cs83 xs) _
  refine A.pr (n := 13) (gI_of cz20 (e := (48, 3, .putfield 37, [4, 5, 2])) rfl) (show 106 < 117 by decide) (by decide) rfl (by decide) rfl rfl ?_
  show A zP (zCs (sv sio)) zK zTy _ _ _ _ _ (cs84 xs) _
  refine A.run cz20 2 (i' := 25) (ls' := [some (.ref 106), some (.ref 79), some (.ref 81), some (.ref 102)]) (st' := [.ref 79, .ref 106]) rfl ?_
  refine A.pr (n := 13) (gI_of cz20 (e := (53, 3, .putfield 41, [4, 0, 2])) rfl) (show 106 < 117 by decide) (by decide) rfl (by decide) rfl rfl ?_
  show A zP (zCs (sv sio)) zK zTy _ _ _ _ _ (cs85 xs) _
  refine A.run cz20 2 (i' := 28) (ls' := [some (.ref 106), some (.ref 79), some (.ref 81), some (.ref 102)]) (st' := [.ref 81, .ref 106]) rfl ?_
  refine A.pr (n := 13) (gI_of cz20 (e := (58, 3, .putfield 44, [4, 1, 2])) rfl) (show 106 < 117 by decide) (by decide) rfl (by decide) rfl rfl ?_
  show A zP (zCs (sv sio)) zK zTy _ _ _ _ _ (cs86 xs) _
  refine A.run cz20 2 (i' := 31) (ls' := [some (.ref 106), some (.ref 79), some (.ref 81), some (.ref 102)]) (st' := [.ref 102, .ref 106]) rfl ?_
  refine A.pr (n := 13) (gI_of cz20 (e := (63, 3, .putfield 48, [4, 6, 2])) rfl) (show 106 < 117 by decide) (by decide) rfl (by decide) rfl rfl ?_
  show A zP (zCs (sv sio)) zK zTy _ _ _ _ _ (cs87 xs) _
  exact A.rv cz20 (show zM20.2.2.2.2.2[32]? = some (66, 1, .return_, []) from rfl) rfl
set_option maxRecDepth 100000 in
theorem cq18 {sio : Bool} {d : Nat} (xs : List Int32) : A zP (zCs (sv sio)) zK zTy (d + 1) 24 0 [some (.ref 117), some (.ref 81), some (.ref 102)] [] (cs89 xs) (.inl none, cs97 xs) := by
  refine A.run cz24 1 (i' := 1) (ls' := [some (.ref 117), some (.ref 81), some (.ref 102)]) (st' := [.ref 117]) rfl ?_
  refine A.oi cz24 (eq_true (show 0 ≤ 8 by decide)) (show zM24.2.2.2.2.2[1]? = some (1, 3, .invokespecial 3, [1]) from rfl) ?_
  refine A.run cz24 2 (i' := 4) (ls' := [some (.ref 117), some (.ref 81), some (.ref 102)]) (st' := [.int 128, .ref 117]) rfl ?_
  refine A.nb (gI_of cz24 (e := (8, 2, .newarray .int, [])) rfl) (by decide) (by decide) (by decide) ?_
  show A zP (zCs (sv sio)) zK zTy _ _ _ _ _ (cs90 xs) _
  refine A.pr (n := 11) (gI_of cz24 (e := (10, 3, .putfield 9, [8, 1, 2])) rfl) (show 117 < 119 by decide) (by decide) rfl (by decide) rfl rfl ?_
  show A zP (zCs (sv sio)) zK zTy _ _ _ _ _ (cs91 xs) _
  refine A.run cz24 2 (i' := 8) (ls' := [some (.ref 117), some (.ref 81), some (.ref 102)]) (st' := [.int 128, .ref 117]) rfl ?_
  refine A.nb (gI_of cz24 (e := (17, 2, .newarray .int, [])) rfl) (by decide) (by decide) (by decide) ?_
  show A zP (zCs (sv sio)) zK zTy _ _ _ _ _ (cs92 xs) _
  refine A.pr (n := 11) (gI_of cz24 (e := (19, 3, .putfield 15, [8, 2, 2])) rfl) (show 117 < 120 by decide) (by decide) rfl (by decide) rfl rfl ?_
  show A zP (zCs (sv sio)) zK zTy _ _ _ _ _ (cs93 xs) _
  refine A.run cz24 2 (i' := 12) (ls' := [some (.ref 117), some (.ref 81), some (.ref 102)]) (st' := [.int 128, .ref 117]) rfl ?_
  refine A.nb (gI_of cz24 (e := (26, 2, .newarray .boolean, [])) rfl) (by decide) (by decide) (by decide) ?_
  show A zP (zCs (sv sio)) zK zTy _ _ _ _ _ (cs94 xs) _
  refine A.pr (n := 11) (gI_of cz24 (e := (28, 3, .putfield 18, [8, 3, 2])) rfl) (show 117 < 121 by decide) (by decide) rfl (by decide) rfl rfl ?_
  show A zP (zCs (sv sio)) zK zTy _ _ _ _ _ (cs95 xs) _
  refine A.run cz24 2 (i' := 16) (ls' := [some (.ref 117), some (.ref 81), some (.ref 102)]) (st' := [.ref 81, .ref 117]) rfl ?_
  refine A.pr (n := 11) (gI_of cz24 (e := (33, 3, .putfield 22, [8, 0, 2])) rfl) (show 117 < 121 by decide) (by decide) rfl (by decide) rfl rfl ?_
  show A zP (zCs (sv sio)) zK zTy _ _ _ _ _ (cs96 xs) _
  refine A.run cz24 2 (i' := 19) (ls' := [some (.ref 117), some (.ref 81), some (.ref 102)]) (st' := [.ref 102, .ref 117]) rfl ?_
  refine A.pr (n := 11) (gI_of cz24 (e := (38, 3, .putfield 26, [8, 5, 2])) rfl) (show 117 < 121 by decide) (by decide) rfl (by decide) rfl rfl ?_
  show A zP (zCs (sv sio)) zK zTy _ _ _ _ _ (cs97 xs) _
  exact A.rv cz24 (show zM24.2.2.2.2.2[20]? = some (41, 1, .return_, []) from rfl) rfl
set_option maxRecDepth 100000 in
theorem cq19 {sio : Bool} {d : Nat} (xs : List Int32) : A zP (zCs (sv sio)) zK zTy (d + 3) 16 0 [some (.ref 78), none] [] (cs1 xs) (.inl none, cs98 xs) := by
  refine A.run cz16 1 (i' := 1) (ls' := [some (.ref 78), none]) (st' := [.ref 78]) rfl ?_
  refine A.oi cz16 (eq_true (show 0 ≤ 8 by decide)) (show zM16.2.2.2.2.2[1]? = some (1, 3, .invokespecial 1, [1]) from rfl) ?_
  refine A.run cz16 1 (i' := 3) (ls' := [some (.ref 78), none]) (st' := [.ref 78]) rfl ?_
  refine A.nwd (gI_of cz16 (e := (5, 3, .new 7, [1, 2, 0])) rfl) (by decide) rfl ?_
  show A zP (zCs (sv sio)) zK zTy _ _ _ _ _ (cs2 xs) _
  refine A.run cz16 2 (i' := 6) (ls' := [some (.ref 78), none]) (st' := [.int 256, .ref 79, .ref 79, .ref 78]) rfl ?_
  refine A.c (gC_sp (x := 79) cz16 (show zM16.2.2.2.2.2[6]? = some (12, 3, .invokespecial 11, [0, 17, 1]) from rfl) cz17 rfl (show aCr 1 79 [.int 256, .ref 79, .ref 79, .ref 78] 2 = some ([some (.ref 79), some (.int 256)], [.ref 79, .ref 78]) from rfl)) (cq1 xs) ?_
  show A zP (zCs (sv sio)) zK zTy _ _ _ _ _ (cs4 xs) _
  refine A.pr (n := 7) (gI_of cz16 (e := (15, 3, .putfield 14, [0, 0, 2])) rfl) (show 78 < 81 by decide) (by decide) rfl (by decide) rfl rfl ?_
  show A zP (zCs (sv sio)) zK zTy _ _ _ _ _ (cs5 xs) _
  refine A.run cz16 1 (i' := 9) (ls' := [some (.ref 78), none]) (st' := [.ref 78]) rfl ?_
  refine A.nwd (gI_of cz16 (e := (19, 3, .new 18, [2, 2, 2, 0])) rfl) (by decide) rfl ?_
  show A zP (zCs (sv sio)) zK zTy _ _ _ _ _ (cs6 xs) _
  refine A.run cz16 1 (i' := 11) (ls' := [some (.ref 78), none]) (st' := [.ref 81, .ref 81, .ref 78]) rfl ?_
  refine A.c (gC_sp (x := 81) cz16 (show zM16.2.2.2.2.2[11]? = some (23, 3, .invokespecial 20, [0, 18, 0]) from rfl) cz18 rfl (show aCr 0 81 [.ref 81, .ref 81, .ref 78] 2 = some ([some (.ref 81), none], [.ref 81, .ref 78]) from rfl)) (cq10 xs) ?_
  show A zP (zCs (sv sio)) zK zTy _ _ _ _ _ (cs42 xs) _
  refine A.pr (n := 7) (gI_of cz16 (e := (26, 3, .putfield 21, [0, 1, 2])) rfl) (show 78 < 100 by decide) (by decide) rfl (by decide) rfl rfl ?_
  show A zP (zCs (sv sio)) zK zTy _ _ _ _ _ (cs43 xs) _
  refine A.run cz16 2 (i' := 15) (ls' := [some (.ref 78), none]) (st' := [.int 8, .ref 78]) rfl ?_
  refine A.nr (gI_of cz16 (e := (32, 3, .anewarray 25, [3])) rfl) (by decide) (by decide) (by decide) ?_
  show A zP (zCs (sv sio)) zK zTy _ _ _ _ _ (cs44 xs) _
  refine A.pr (n := 7) (gI_of cz16 (e := (35, 3, .putfield 27, [0, 2, 2])) rfl) (show 78 < 101 by decide) (by decide) rfl (by decide) rfl rfl ?_
  show A zP (zCs (sv sio)) zK zTy _ _ _ _ _ (cs45 xs) _
  refine A.run cz16 2 (i' := 19) (ls' := [some (.ref 78), none]) (st' := [.int 8, .ref 78]) rfl ?_
  refine A.nb (gI_of cz16 (e := (41, 2, .newarray .int, [])) rfl) (by decide) (by decide) (by decide) ?_
  show A zP (zCs (sv sio)) zK zTy _ _ _ _ _ (cs46 xs) _
  refine A.pr (n := 7) (gI_of cz16 (e := (43, 3, .putfield 31, [0, 3, 2])) rfl) (show 78 < 102 by decide) (by decide) rfl (by decide) rfl rfl ?_
  show A zP (zCs (sv sio)) zK zTy _ _ _ _ _ (cs47 xs) _
  refine A.run cz16 4 (i' := 25) (ls' := [some (.ref 78), some (.int 0)]) (st' := [.ref 78, .int 0]) rfl ?_
  refine A.gf (v := .ref 101) (n := 7) (gI_of cz16 (e := (50, 3, .getfield 31, [0, 3])) rfl) (show 78 < 102 by decide) rfl (by decide) rfl ?_
  refine A.al (c := 100) (n := 8) (gI_of cz16 (e := (53, 1, .arraylength, [])) rfl) (show 101 < 102 by decide) rfl (by decide) ?_
  refine A.run cz16 2 (i' := 29) (ls' := [some (.ref 78), some (.int 0)]) (st' := [.ref 78]) rfl ?_
  refine A.gf (v := .ref 101) (n := 7) (gI_of cz16 (e := (58, 3, .getfield 31, [0, 3])) rfl) (show 78 < 102 by decide) rfl (by decide) rfl ?_
  refine A.run cz16 2 (i' := 32) (ls' := [some (.ref 78), some (.int 0)]) (st' := [.int (-1), .int 0, .ref 101]) rfl ?_
  refine A.is (n := 8) (gI_of cz16 (e := (63, 1, .iastore, [])) rfl) (show 101 < 102 by decide) (by decide) rfl (by decide) ?_
  show A zP (zCs (sv sio)) zK zTy _ _ _ _ _ (cs48 xs) _
  refine A.run cz16 4 (i' := 25) (ls' := [some (.ref 78), some (.int 1)]) (st' := [.ref 78, .int 1]) rfl ?_
  refine A.gf (v := .ref 101) (n := 7) (gI_of cz16 (e := (50, 3, .getfield 31, [0, 3])) rfl) (show 78 < 102 by decide) rfl (by decide) rfl ?_
  refine A.al (c := 100) (n := 8) (gI_of cz16 (e := (53, 1, .arraylength, [])) rfl) (show 101 < 102 by decide) rfl (by decide) ?_
  refine A.run cz16 2 (i' := 29) (ls' := [some (.ref 78), some (.int 1)]) (st' := [.ref 78]) rfl ?_
  refine A.gf (v := .ref 101) (n := 7) (gI_of cz16 (e := (58, 3, .getfield 31, [0, 3])) rfl) (show 78 < 102 by decide) rfl (by decide) rfl ?_
  refine A.run cz16 2 (i' := 32) (ls' := [some (.ref 78), some (.int 1)]) (st' := [.int (-1), .int 1, .ref 101]) rfl ?_
  refine A.is (n := 8) (gI_of cz16 (e := (63, 1, .iastore, [])) rfl) (show 101 < 102 by decide) (by decide) rfl (by decide) ?_
  show A zP (zCs (sv sio)) zK zTy _ _ _ _ _ (cs49 xs) _
  refine A.run cz16 4 (i' := 25) (ls' := [some (.ref 78), some (.int 2)]) (st' := [.ref 78, .int 2]) rfl ?_
  refine A.gf (v := .ref 101) (n := 7) (gI_of cz16 (e := (50, 3, .getfield 31, [0, 3])) rfl) (show 78 < 102 by decide) rfl (by decide) rfl ?_
  refine A.al (c := 100) (n := 8) (gI_of cz16 (e := (53, 1, .arraylength, [])) rfl) (show 101 < 102 by decide) rfl (by decide) ?_
  refine A.run cz16 2 (i' := 29) (ls' := [some (.ref 78), some (.int 2)]) (st' := [.ref 78]) rfl ?_
  refine A.gf (v := .ref 101) (n := 7) (gI_of cz16 (e := (58, 3, .getfield 31, [0, 3])) rfl) (show 78 < 102 by decide) rfl (by decide) rfl ?_
  refine A.run cz16 2 (i' := 32) (ls' := [some (.ref 78), some (.int 2)]) (st' := [.int (-1), .int 2, .ref 101]) rfl ?_
  refine A.is (n := 8) (gI_of cz16 (e := (63, 1, .iastore, [])) rfl) (show 101 < 102 by decide) (by decide) rfl (by decide) ?_
  show A zP (zCs (sv sio)) zK zTy _ _ _ _ _ (cs50 xs) _
  refine A.run cz16 4 (i' := 25) (ls' := [some (.ref 78), some (.int 3)]) (st' := [.ref 78, .int 3]) rfl ?_
  refine A.gf (v := .ref 101) (n := 7) (gI_of cz16 (e := (50, 3, .getfield 31, [0, 3])) rfl) (show 78 < 102 by decide) rfl (by decide) rfl ?_
  refine A.al (c := 100) (n := 8) (gI_of cz16 (e := (53, 1, .arraylength, [])) rfl) (show 101 < 102 by decide) rfl (by decide) ?_
  refine A.run cz16 2 (i' := 29) (ls' := [some (.ref 78), some (.int 3)]) (st' := [.ref 78]) rfl ?_
  refine A.gf (v := .ref 101) (n := 7) (gI_of cz16 (e := (58, 3, .getfield 31, [0, 3])) rfl) (show 78 < 102 by decide) rfl (by decide) rfl ?_
  refine A.run cz16 2 (i' := 32) (ls' := [some (.ref 78), some (.int 3)]) (st' := [.int (-1), .int 3, .ref 101]) rfl ?_
  refine A.is (n := 8) (gI_of cz16 (e := (63, 1, .iastore, [])) rfl) (show 101 < 102 by decide) (by decide) rfl (by decide) ?_
  show A zP (zCs (sv sio)) zK zTy _ _ _ _ _ (cs51 xs) _
  refine A.run cz16 4 (i' := 25) (ls' := [some (.ref 78), some (.int 4)]) (st' := [.ref 78, .int 4]) rfl ?_
  refine A.gf (v := .ref 101) (n := 7) (gI_of cz16 (e := (50, 3, .getfield 31, [0, 3])) rfl) (show 78 < 102 by decide) rfl (by decide) rfl ?_
  refine A.al (c := 100) (n := 8) (gI_of cz16 (e := (53, 1, .arraylength, [])) rfl) (show 101 < 102 by decide) rfl (by decide) ?_
  refine A.run cz16 2 (i' := 29) (ls' := [some (.ref 78), some (.int 4)]) (st' := [.ref 78]) rfl ?_
  refine A.gf (v := .ref 101) (n := 7) (gI_of cz16 (e := (58, 3, .getfield 31, [0, 3])) rfl) (show 78 < 102 by decide) rfl (by decide) rfl ?_
  refine A.run cz16 2 (i' := 32) (ls' := [some (.ref 78), some (.int 4)]) (st' := [.int (-1), .int 4, .ref 101]) rfl ?_
  refine A.is (n := 8) (gI_of cz16 (e := (63, 1, .iastore, [])) rfl) (show 101 < 102 by decide) (by decide) rfl (by decide) ?_
  show A zP (zCs (sv sio)) zK zTy _ _ _ _ _ (cs52 xs) _
  refine A.run cz16 4 (i' := 25) (ls' := [some (.ref 78), some (.int 5)]) (st' := [.ref 78, .int 5]) rfl ?_
  refine A.gf (v := .ref 101) (n := 7) (gI_of cz16 (e := (50, 3, .getfield 31, [0, 3])) rfl) (show 78 < 102 by decide) rfl (by decide) rfl ?_
  refine A.al (c := 100) (n := 8) (gI_of cz16 (e := (53, 1, .arraylength, [])) rfl) (show 101 < 102 by decide) rfl (by decide) ?_
  refine A.run cz16 2 (i' := 29) (ls' := [some (.ref 78), some (.int 5)]) (st' := [.ref 78]) rfl ?_
  refine A.gf (v := .ref 101) (n := 7) (gI_of cz16 (e := (58, 3, .getfield 31, [0, 3])) rfl) (show 78 < 102 by decide) rfl (by decide) rfl ?_
  refine A.run cz16 2 (i' := 32) (ls' := [some (.ref 78), some (.int 5)]) (st' := [.int (-1), .int 5, .ref 101]) rfl ?_
  refine A.is (n := 8) (gI_of cz16 (e := (63, 1, .iastore, [])) rfl) (show 101 < 102 by decide) (by decide) rfl (by decide) ?_
  show A zP (zCs (sv sio)) zK zTy _ _ _ _ _ (cs53 xs) _
  refine A.run cz16 4 (i' := 25) (ls' := [some (.ref 78), some (.int 6)]) (st' := [.ref 78, .int 6]) rfl ?_
  refine A.gf (v := .ref 101) (n := 7) (gI_of cz16 (e := (50, 3, .getfield 31, [0, 3])) rfl) (show 78 < 102 by decide) rfl (by decide) rfl ?_
  refine A.al (c := 100) (n := 8) (gI_of cz16 (e := (53, 1, .arraylength, [])) rfl) (show 101 < 102 by decide) rfl (by decide) ?_
  refine A.run cz16 2 (i' := 29) (ls' := [some (.ref 78), some (.int 6)]) (st' := [.ref 78]) rfl ?_
  refine A.gf (v := .ref 101) (n := 7) (gI_of cz16 (e := (58, 3, .getfield 31, [0, 3])) rfl) (show 78 < 102 by decide) rfl (by decide) rfl ?_
  refine A.run cz16 2 (i' := 32) (ls' := [some (.ref 78), some (.int 6)]) (st' := [.int (-1), .int 6, .ref 101]) rfl ?_
  refine A.is (n := 8) (gI_of cz16 (e := (63, 1, .iastore, [])) rfl) (show 101 < 102 by decide) (by decide) rfl (by decide) ?_
  show A zP (zCs (sv sio)) zK zTy _ _ _ _ _ (cs54 xs) _
  refine A.run cz16 4 (i' := 25) (ls' := [some (.ref 78), some (.int 7)]) (st' := [.ref 78, .int 7]) rfl ?_
  refine A.gf (v := .ref 101) (n := 7) (gI_of cz16 (e := (50, 3, .getfield 31, [0, 3])) rfl) (show 78 < 102 by decide) rfl (by decide) rfl ?_
  refine A.al (c := 100) (n := 8) (gI_of cz16 (e := (53, 1, .arraylength, [])) rfl) (show 101 < 102 by decide) rfl (by decide) ?_
  refine A.run cz16 2 (i' := 29) (ls' := [some (.ref 78), some (.int 7)]) (st' := [.ref 78]) rfl ?_
  refine A.gf (v := .ref 101) (n := 7) (gI_of cz16 (e := (58, 3, .getfield 31, [0, 3])) rfl) (show 78 < 102 by decide) rfl (by decide) rfl ?_
  refine A.run cz16 2 (i' := 32) (ls' := [some (.ref 78), some (.int 7)]) (st' := [.int (-1), .int 7, .ref 101]) rfl ?_
  refine A.is (n := 8) (gI_of cz16 (e := (63, 1, .iastore, [])) rfl) (show 101 < 102 by decide) (by decide) rfl (by decide) ?_
  show A zP (zCs (sv sio)) zK zTy _ _ _ _ _ (cs55 xs) _
  refine A.run cz16 4 (i' := 25) (ls' := [some (.ref 78), some (.int 8)]) (st' := [.ref 78, .int 8]) rfl ?_
  refine A.gf (v := .ref 101) (n := 7) (gI_of cz16 (e := (50, 3, .getfield 31, [0, 3])) rfl) (show 78 < 102 by decide) rfl (by decide) rfl ?_
  refine A.al (c := 100) (n := 8) (gI_of cz16 (e := (53, 1, .arraylength, [])) rfl) (show 101 < 102 by decide) rfl (by decide) ?_
  refine A.run cz16 2 (i' := 36) (ls' := [some (.ref 78), some (.int 8)]) (st' := [.ref 78]) rfl ?_
  refine A.nwd (gI_of cz16 (e := (71, 3, .new 25, [3, 2, 2, 0])) rfl) (by decide) rfl ?_
  show A zP (zCs (sv sio)) zK zTy _ _ _ _ _ (cs56 xs) _
  refine A.run cz16 1 (i' := 38) (ls' := [some (.ref 78), some (.int 8)]) (st' := [.ref 102, .ref 102, .ref 78]) rfl ?_
  refine A.c (gC_sp (x := 102) cz16 (show zM16.2.2.2.2.2[38]? = some (75, 3, .invokespecial 35, [0, 19, 0]) from rfl) cz19 rfl (show aCr 0 102 [.ref 102, .ref 102, .ref 78] 1 = some ([some (.ref 102)], [.ref 102, .ref 78]) from rfl)) (cq12 xs) ?_
  show A zP (zCs (sv sio)) zK zTy _ _ _ _ _ (cs62 xs) _
  refine A.pr (n := 7) (gI_of cz16 (e := (78, 3, .putfield 36, [0, 6, 2])) rfl) (show 78 < 106 by decide) (by decide) rfl (by decide) rfl rfl ?_
  show A zP (zCs (sv sio)) zK zTy _ _ _ _ _ (cs63 xs) _
  refine A.run cz16 1 (i' := 41) (ls' := [some (.ref 78), some (.int 8)]) (st' := [.ref 78]) rfl ?_
  refine A.nwd (gI_of cz16 (e := (82, 3, .new 40, [4, 2, 2, 2, 2, 2, 2, 2, 0, 0, 0, 0, 0, 0])) rfl) (by decide) rfl ?_
  show A zP (zCs (sv sio)) zK zTy _ _ _ _ _ (cs64 xs) _
  refine A.run cz16 2 (i' := 44) (ls' := [some (.ref 78), some (.int 8)]) (st' := [.ref 78, .ref 106, .ref 106, .ref 78]) rfl ?_
  refine A.gf (v := .ref 79) (n := 7) (gI_of cz16 (e := (87, 3, .getfield 14, [0, 0])) rfl) (show 78 < 107 by decide) rfl (by decide) rfl ?_
  refine A.run cz16 1 (i' := 46) (ls' := [some (.ref 78), some (.int 8)]) (st' := [.ref 78, .ref 79, .ref 106, .ref 106, .ref 78]) rfl ?_
  refine A.gf (v := .ref 81) (n := 7) (gI_of cz16 (e := (91, 3, .getfield 21, [0, 1])) rfl) (show 78 < 107 by decide) rfl (by decide) rfl ?_
  refine A.run cz16 1 (i' := 48) (ls' := [some (.ref 78), some (.int 8)]) (st' := [.ref 78, .ref 81, .ref 79, .ref 106, .ref 106, .ref 78]) rfl ?_
  refine A.gf (v := .ref 102) (n := 7) (gI_of cz16 (e := (95, 3, .getfield 36, [0, 6])) rfl) (show 78 < 107 by decide) rfl (by decide) rfl ?_
  refine A.c (gC_sp (x := 106) cz16 (show zM16.2.2.2.2.2[49]? = some (98, 3, .invokespecial 42, [0, 20, 3]) from rfl) cz20 rfl (show aCr 3 106 [.ref 102, .ref 81, .ref 79, .ref 106, .ref 106, .ref 78] 4 = some ([some (.ref 106), some (.ref 79), some (.ref 81), some (.ref 102)], [.ref 106, .ref 78]) from rfl)) (cq17 xs) ?_
  show A zP (zCs (sv sio)) zK zTy _ _ _ _ _ (cs87 xs) _
  refine A.pr (n := 7) (gI_of cz16 (e := (101, 3, .putfield 45, [0, 4, 2])) rfl) (show 78 < 117 by decide) (by decide) rfl (by decide) rfl rfl ?_
  show A zP (zCs (sv sio)) zK zTy _ _ _ _ _ (cs88 xs) _
  refine A.run cz16 1 (i' := 52) (ls' := [some (.ref 78), some (.int 8)]) (st' := [.ref 78]) rfl ?_
  refine A.nwd (gI_of cz16 (e := (105, 3, .new 49, [8, 2, 2, 2, 2, 0, 2, 0, 1, 0, 0, 0])) rfl) (by decide) rfl ?_
  show A zP (zCs (sv sio)) zK zTy _ _ _ _ _ (cs89 xs) _
  refine A.run cz16 2 (i' := 55) (ls' := [some (.ref 78), some (.int 8)]) (st' := [.ref 78, .ref 117, .ref 117, .ref 78]) rfl ?_
  refine A.gf (v := .ref 81) (n := 7) (gI_of cz16 (e := (110, 3, .getfield 21, [0, 1])) rfl) (show 78 < 118 by decide) rfl (by decide) rfl ?_
  refine A.run cz16 1 (i' := 57) (ls' := [some (.ref 78), some (.int 8)]) (st' := [.ref 78, .ref 81, .ref 117, .ref 117, .ref 78]) rfl ?_
  refine A.gf (v := .ref 102) (n := 7) (gI_of cz16 (e := (114, 3, .getfield 36, [0, 6])) rfl) (show 78 < 118 by decide) rfl (by decide) rfl ?_
  refine A.c (gC_sp (x := 117) cz16 (show zM16.2.2.2.2.2[58]? = some (117, 3, .invokespecial 51, [0, 24, 2]) from rfl) cz24 rfl (show aCr 2 117 [.ref 102, .ref 81, .ref 117, .ref 117, .ref 78] 3 = some ([some (.ref 117), some (.ref 81), some (.ref 102)], [.ref 117, .ref 78]) from rfl)) (cq18 xs) ?_
  show A zP (zCs (sv sio)) zK zTy _ _ _ _ _ (cs97 xs) _
  refine A.pr (n := 7) (gI_of cz16 (e := (120, 3, .putfield 54, [0, 5, 2])) rfl) (show 78 < 121 by decide) (by decide) rfl (by decide) rfl rfl ?_
  show A zP (zCs (sv sio)) zK zTy _ _ _ _ _ (cs98 xs) _
  exact A.rv cz16 (show zM16.2.2.2.2.2[60]? = some (123, 1, .return_, []) from rfl) rfl
set_option maxRecDepth 100000 in
theorem cq20 {sio : Bool} {d : Nat} (xs : List Int32) : A zP (zCs (sv sio)) zK zTy (d + 1) 170 0 [some (.ref 121)] [] (cs99 xs) (.inl none, cs151 xs) := by
  refine A.run cz170 1 (i' := 1) (ls' := [some (.ref 121)]) (st' := [.ref 121]) rfl ?_
  refine A.oi cz170 (eq_true (show 0 ≤ 8 by decide)) (show zM170.2.2.2.2.2[1]? = some (1, 3, .invokespecial 1, [1]) from rfl) ?_
  refine A.run cz170 2 (i' := 4) (ls' := [some (.ref 121)]) (st' := [.int 256, .ref 121]) rfl ?_
  refine A.nb (gI_of cz170 (e := (8, 2, .newarray .int, [])) rfl) (by decide) (by decide) (by decide) ?_
  show A zP (zCs (sv sio)) zK zTy _ _ _ _ _ (cs100 xs) _
  refine A.pr (n := 45) (gI_of cz170 (e := (10, 3, .putfield 7, [9, 2, 2])) rfl) (show 121 < 123 by decide) (by decide) rfl (by decide) rfl rfl ?_
  show A zP (zCs (sv sio)) zK zTy _ _ _ _ _ (cs101 xs) _
  refine A.run cz170 2 (i' := 8) (ls' := [some (.ref 121)]) (st' := [.int 8, .ref 121]) rfl ?_
  refine A.nb (gI_of cz170 (e := (16, 2, .newarray .int, [])) rfl) (by decide) (by decide) (by decide) ?_
  show A zP (zCs (sv sio)) zK zTy _ _ _ _ _ (cs102 xs) _
  refine A.pr (n := 45) (gI_of cz170 (e := (18, 3, .putfield 13, [9, 4, 2])) rfl) (show 121 < 124 by decide) (by decide) rfl (by decide) rfl rfl ?_
  show A zP (zCs (sv sio)) zK zTy _ _ _ _ _ (cs103 xs) _
  refine A.run cz170 2 (i' := 12) (ls' := [some (.ref 121)]) (st' := [.int 256, .ref 121]) rfl ?_
  refine A.nb (gI_of cz170 (e := (25, 2, .newarray .int, [])) rfl) (by decide) (by decide) (by decide) ?_
  show A zP (zCs (sv sio)) zK zTy _ _ _ _ _ (cs104 xs) _
  refine A.pr (n := 45) (gI_of cz170 (e := (27, 3, .putfield 16, [9, 5, 2])) rfl) (show 121 < 125 by decide) (by decide) rfl (by decide) rfl rfl ?_
  show A zP (zCs (sv sio)) zK zTy _ _ _ _ _ (cs105 xs) _
  refine A.run cz170 2 (i' := 16) (ls' := [some (.ref 121)]) (st' := [.int 8, .ref 121]) rfl ?_
  refine A.nb (gI_of cz170 (e := (33, 2, .newarray .boolean, [])) rfl) (by decide) (by decide) (by decide) ?_
  show A zP (zCs (sv sio)) zK zTy _ _ _ _ _ (cs106 xs) _
  refine A.pr (n := 45) (gI_of cz170 (e := (35, 3, .putfield 19, [9, 6, 2])) rfl) (show 121 < 126 by decide) (by decide) rfl (by decide) rfl rfl ?_
  show A zP (zCs (sv sio)) zK zTy _ _ _ _ _ (cs107 xs) _
  refine A.run cz170 2 (i' := 20) (ls' := [some (.ref 121)]) (st' := [.int 8, .ref 121]) rfl ?_
  refine A.nb (gI_of cz170 (e := (41, 2, .newarray .int, [])) rfl) (by decide) (by decide) (by decide) ?_
  show A zP (zCs (sv sio)) zK zTy _ _ _ _ _ (cs108 xs) _
  refine A.pr (n := 45) (gI_of cz170 (e := (43, 3, .putfield 23, [9, 7, 2])) rfl) (show 121 < 127 by decide) (by decide) rfl (by decide) rfl rfl ?_
  show A zP (zCs (sv sio)) zK zTy _ _ _ _ _ (cs109 xs) _
  refine A.run cz170 2 (i' := 24) (ls' := [some (.ref 121)]) (st' := [.int 9, .ref 121]) rfl ?_
  refine A.nb (gI_of cz170 (e := (49, 2, .newarray .int, [])) rfl) (by decide) (by decide) (by decide) ?_
  show A zP (zCs (sv sio)) zK zTy _ _ _ _ _ (cs110 xs) _
  refine A.pr (n := 45) (gI_of cz170 (e := (51, 3, .putfield 26, [9, 8, 2])) rfl) (show 121 < 128 by decide) (by decide) rfl (by decide) rfl rfl ?_
  show A zP (zCs (sv sio)) zK zTy _ _ _ _ _ (cs111 xs) _
  refine A.run cz170 2 (i' := 28) (ls' := [some (.ref 121)]) (st' := [.int 1152, .ref 121]) rfl ?_
  refine A.nb (gI_of cz170 (e := (58, 2, .newarray .int, [])) rfl) (by decide) (by decide) (by decide) ?_
  show A zP (zCs (sv sio)) zK zTy _ _ _ _ _ (cs112 xs) _
  refine A.pr (n := 45) (gI_of cz170 (e := (60, 3, .putfield 29, [9, 9, 2])) rfl) (show 121 < 129 by decide) (by decide) rfl (by decide) rfl rfl ?_
  show A zP (zCs (sv sio)) zK zTy _ _ _ _ _ (cs113 xs) _
  refine A.run cz170 2 (i' := 32) (ls' := [some (.ref 121)]) (st' := [.int 1152, .ref 121]) rfl ?_
  refine A.nb (gI_of cz170 (e := (67, 2, .newarray .int, [])) rfl) (by decide) (by decide) (by decide) ?_
  show A zP (zCs (sv sio)) zK zTy _ _ _ _ _ (cs114 xs) _
  refine A.pr (n := 45) (gI_of cz170 (e := (69, 3, .putfield 32, [9, 10, 2])) rfl) (show 121 < 130 by decide) (by decide) rfl (by decide) rfl rfl ?_
  show A zP (zCs (sv sio)) zK zTy _ _ _ _ _ (cs115 xs) _
  refine A.run cz170 2 (i' := 36) (ls' := [some (.ref 121)]) (st' := [.int 1152, .ref 121]) rfl ?_
  refine A.nb (gI_of cz170 (e := (76, 2, .newarray .int, [])) rfl) (by decide) (by decide) (by decide) ?_
  show A zP (zCs (sv sio)) zK zTy _ _ _ _ _ (cs116 xs) _
  refine A.pr (n := 45) (gI_of cz170 (e := (78, 3, .putfield 35, [9, 11, 2])) rfl) (show 121 < 131 by decide) (by decide) rfl (by decide) rfl rfl ?_
  show A zP (zCs (sv sio)) zK zTy _ _ _ _ _ (cs117 xs) _
  refine A.run cz170 2 (i' := 40) (ls' := [some (.ref 121)]) (st' := [.int 1152, .ref 121]) rfl ?_
  refine A.nb (gI_of cz170 (e := (85, 2, .newarray .int, [])) rfl) (by decide) (by decide) (by decide) ?_
  show A zP (zCs (sv sio)) zK zTy _ _ _ _ _ (cs118 xs) _
  refine A.pr (n := 45) (gI_of cz170 (e := (87, 3, .putfield 38, [9, 12, 2])) rfl) (show 121 < 132 by decide) (by decide) rfl (by decide) rfl rfl ?_
  show A zP (zCs (sv sio)) zK zTy _ _ _ _ _ (cs119 xs) _
  refine A.run cz170 2 (i' := 44) (ls' := [some (.ref 121)]) (st' := [.int 1152, .ref 121]) rfl ?_
  refine A.nb (gI_of cz170 (e := (94, 2, .newarray .int, [])) rfl) (by decide) (by decide) (by decide) ?_
  show A zP (zCs (sv sio)) zK zTy _ _ _ _ _ (cs120 xs) _
  refine A.pr (n := 45) (gI_of cz170 (e := (96, 3, .putfield 41, [9, 13, 2])) rfl) (show 121 < 133 by decide) (by decide) rfl (by decide) rfl rfl ?_
  show A zP (zCs (sv sio)) zK zTy _ _ _ _ _ (cs121 xs) _
  refine A.run cz170 2 (i' := 48) (ls' := [some (.ref 121)]) (st' := [.int 1152, .ref 121]) rfl ?_
  refine A.nb (gI_of cz170 (e := (103, 2, .newarray .int, [])) rfl) (by decide) (by decide) (by decide) ?_
  show A zP (zCs (sv sio)) zK zTy _ _ _ _ _ (cs122 xs) _
  refine A.pr (n := 45) (gI_of cz170 (e := (105, 3, .putfield 44, [9, 14, 2])) rfl) (show 121 < 134 by decide) (by decide) rfl (by decide) rfl rfl ?_
  show A zP (zCs (sv sio)) zK zTy _ _ _ _ _ (cs123 xs) _
  refine A.run cz170 2 (i' := 52) (ls' := [some (.ref 121)]) (st' := [.int 1152, .ref 121]) rfl ?_
  refine A.nb (gI_of cz170 (e := (112, 2, .newarray .int, [])) rfl) (by decide) (by decide) (by decide) ?_
  show A zP (zCs (sv sio)) zK zTy _ _ _ _ _ (cs124 xs) _
  refine A.pr (n := 45) (gI_of cz170 (e := (114, 3, .putfield 47, [9, 15, 2])) rfl) (show 121 < 135 by decide) (by decide) rfl (by decide) rfl rfl ?_
  show A zP (zCs (sv sio)) zK zTy _ _ _ _ _ (cs125 xs) _
  refine A.run cz170 2 (i' := 56) (ls' := [some (.ref 121)]) (st' := [.int 1152, .ref 121]) rfl ?_
  refine A.nb (gI_of cz170 (e := (121, 2, .newarray .int, [])) rfl) (by decide) (by decide) (by decide) ?_
  show A zP (zCs (sv sio)) zK zTy _ _ _ _ _ (cs126 xs) _
  refine A.pr (n := 45) (gI_of cz170 (e := (123, 3, .putfield 50, [9, 16, 2])) rfl) (show 121 < 136 by decide) (by decide) rfl (by decide) rfl rfl ?_
  show A zP (zCs (sv sio)) zK zTy _ _ _ _ _ (cs127 xs) _
  refine A.run cz170 2 (i' := 60) (ls' := [some (.ref 121)]) (st' := [.int 1152, .ref 121]) rfl ?_
  refine A.nb (gI_of cz170 (e := (130, 2, .newarray .int, [])) rfl) (by decide) (by decide) (by decide) ?_
  show A zP (zCs (sv sio)) zK zTy _ _ _ _ _ (cs128 xs) _
  refine A.pr (n := 45) (gI_of cz170 (e := (132, 3, .putfield 53, [9, 17, 2])) rfl) (show 121 < 137 by decide) (by decide) rfl (by decide) rfl rfl ?_
  show A zP (zCs (sv sio)) zK zTy _ _ _ _ _ (cs129 xs) _
  refine A.run cz170 2 (i' := 64) (ls' := [some (.ref 121)]) (st' := [.int 1152, .ref 121]) rfl ?_
  refine A.nb (gI_of cz170 (e := (139, 2, .newarray .int, [])) rfl) (by decide) (by decide) (by decide) ?_
  show A zP (zCs (sv sio)) zK zTy _ _ _ _ _ (cs130 xs) _
  refine A.pr (n := 45) (gI_of cz170 (e := (141, 3, .putfield 56, [9, 18, 2])) rfl) (show 121 < 138 by decide) (by decide) rfl (by decide) rfl rfl ?_
  show A zP (zCs (sv sio)) zK zTy _ _ _ _ _ (cs131 xs) _
  refine A.run cz170 2 (i' := 68) (ls' := [some (.ref 121)]) (st' := [.int 1152, .ref 121]) rfl ?_
  refine A.nb (gI_of cz170 (e := (148, 2, .newarray .int, [])) rfl) (by decide) (by decide) (by decide) ?_
  show A zP (zCs (sv sio)) zK zTy _ _ _ _ _ (cs132 xs) _
  refine A.pr (n := 45) (gI_of cz170 (e := (150, 3, .putfield 59, [9, 19, 2])) rfl) (show 121 < 139 by decide) (by decide) rfl (by decide) rfl rfl ?_
  show A zP (zCs (sv sio)) zK zTy _ _ _ _ _ (cs133 xs) _
  refine A.run cz170 2 (i' := 72) (ls' := [some (.ref 121)]) (st' := [.int 2304, .ref 121]) rfl ?_
  refine A.nb (gI_of cz170 (e := (157, 2, .newarray .int, [])) rfl) (by decide) (by decide) (by decide) ?_
  show A zP (zCs (sv sio)) zK zTy _ _ _ _ _ (cs134 xs) _
  refine A.pr (n := 45) (gI_of cz170 (e := (159, 3, .putfield 62, [9, 20, 2])) rfl) (show 121 < 140 by decide) (by decide) rfl (by decide) rfl rfl ?_
  show A zP (zCs (sv sio)) zK zTy _ _ _ _ _ (cs135 xs) _
  refine A.run cz170 2 (i' := 76) (ls' := [some (.ref 121)]) (st' := [.int 128, .ref 121]) rfl ?_
  refine A.nb (gI_of cz170 (e := (166, 2, .newarray .int, [])) rfl) (by decide) (by decide) (by decide) ?_
  show A zP (zCs (sv sio)) zK zTy _ _ _ _ _ (cs136 xs) _
  refine A.pr (n := 45) (gI_of cz170 (e := (168, 3, .putfield 65, [9, 22, 2])) rfl) (show 121 < 141 by decide) (by decide) rfl (by decide) rfl rfl ?_
  show A zP (zCs (sv sio)) zK zTy _ _ _ _ _ (cs137 xs) _
  refine A.run cz170 2 (i' := 80) (ls' := [some (.ref 121)]) (st' := [.int 128, .ref 121]) rfl ?_
  refine A.nb (gI_of cz170 (e := (175, 2, .newarray .int, [])) rfl) (by decide) (by decide) (by decide) ?_
  show A zP (zCs (sv sio)) zK zTy _ _ _ _ _ (cs138 xs) _
  refine A.pr (n := 45) (gI_of cz170 (e := (177, 3, .putfield 68, [9, 23, 2])) rfl) (show 121 < 142 by decide) (by decide) rfl (by decide) rfl rfl ?_
  show A zP (zCs (sv sio)) zK zTy _ _ _ _ _ (cs139 xs) _
  refine A.run cz170 2 (i' := 84) (ls' := [some (.ref 121)]) (st' := [.int 128, .ref 121]) rfl ?_
  refine A.nb (gI_of cz170 (e := (184, 2, .newarray .int, [])) rfl) (by decide) (by decide) (by decide) ?_
  show A zP (zCs (sv sio)) zK zTy _ _ _ _ _ (cs140 xs) _
  refine A.pr (n := 45) (gI_of cz170 (e := (186, 3, .putfield 71, [9, 24, 2])) rfl) (show 121 < 143 by decide) (by decide) rfl (by decide) rfl rfl ?_
  show A zP (zCs (sv sio)) zK zTy _ _ _ _ _ (cs141 xs) _
  refine A.run cz170 2 (i' := 88) (ls' := [some (.ref 121)]) (st' := [.int 128, .ref 121]) rfl ?_
  refine A.nb (gI_of cz170 (e := (193, 2, .newarray .int, [])) rfl) (by decide) (by decide) (by decide) ?_
  show A zP (zCs (sv sio)) zK zTy _ _ _ _ _ (cs142 xs) _
  refine A.pr (n := 45) (gI_of cz170 (e := (195, 3, .putfield 74, [9, 25, 2])) rfl) (show 121 < 144 by decide) (by decide) rfl (by decide) rfl rfl ?_
  show A zP (zCs (sv sio)) zK zTy _ _ _ _ _ (cs143 xs) _
  refine A.run cz170 2 (i' := 92) (ls' := [some (.ref 121)]) (st' := [.int 130, .ref 121]) rfl ?_
  refine A.nb (gI_of cz170 (e := (202, 2, .newarray .int, [])) rfl) (by decide) (by decide) (by decide) ?_
  show A zP (zCs (sv sio)) zK zTy _ _ _ _ _ (cs144 xs) _
  refine A.pr (n := 45) (gI_of cz170 (e := (204, 3, .putfield 77, [9, 28, 2])) rfl) (show 121 < 145 by decide) (by decide) rfl (by decide) rfl rfl ?_
  show A zP (zCs (sv sio)) zK zTy _ _ _ _ _ (cs145 xs) _
  refine A.run cz170 2 (i' := 96) (ls' := [some (.ref 121)]) (st' := [.int 300, .ref 121]) rfl ?_
  refine A.nb (gI_of cz170 (e := (211, 2, .newarray .int, [])) rfl) (by decide) (by decide) (by decide) ?_
  show A zP (zCs (sv sio)) zK zTy _ _ _ _ _ (cs146 xs) _
  refine A.pr (n := 45) (gI_of cz170 (e := (213, 3, .putfield 80, [9, 30, 2])) rfl) (show 121 < 146 by decide) (by decide) rfl (by decide) rfl rfl ?_
  show A zP (zCs (sv sio)) zK zTy _ _ _ _ _ (cs147 xs) _
  refine A.run cz170 2 (i' := 100) (ls' := [some (.ref 121)]) (st' := [.int 300, .ref 121]) rfl ?_
  refine A.nb (gI_of cz170 (e := (220, 2, .newarray .int, [])) rfl) (by decide) (by decide) (by decide) ?_
  show A zP (zCs (sv sio)) zK zTy _ _ _ _ _ (cs148 xs) _
  refine A.pr (n := 45) (gI_of cz170 (e := (222, 3, .putfield 83, [9, 31, 2])) rfl) (show 121 < 147 by decide) (by decide) rfl (by decide) rfl rfl ?_
  show A zP (zCs (sv sio)) zK zTy _ _ _ _ _ (cs149 xs) _
  refine A.run cz170 2 (i' := 104) (ls' := [some (.ref 121)]) (st' := [.int 256, .ref 121]) rfl ?_
  refine A.nb (gI_of cz170 (e := (229, 2, .newarray .int, [])) rfl) (by decide) (by decide) (by decide) ?_
  show A zP (zCs (sv sio)) zK zTy _ _ _ _ _ (cs150 xs) _
  refine A.pr (n := 45) (gI_of cz170 (e := (231, 3, .putfield 86, [9, 37, 2])) rfl) (show 121 < 148 by decide) (by decide) rfl (by decide) rfl rfl ?_
  show A zP (zCs (sv sio)) zK zTy _ _ _ _ _ (cs151 xs) _
  exact A.rv cz170 (show zM170.2.2.2.2.2[106]? = some (234, 1, .return_, []) from rfl) rfl
set_option maxRecDepth 100000 in
theorem z_start {sio : Bool} {d : Nat} (xs : List Int32) {o : xZ × aS} (g : A zP (zCs (sv sio)) zK zTy (d + 4) 0 13 [some (.ref 0), some (.ref 78), some (.ref 121), some (.ref 148), some (.int 0), none, none] [] (cs152 xs) o) : A zP (zCs (sv sio)) zK zTy (d + 4) 0 0 [some (.ref 0), none, none, none, none, none, none] [] (cs0 xs) o := by
  refine A.nwd (gI_of cz0 (e := (0, 3, .new 8, [0, 2, 2, 2, 2, 2, 2, 2])) rfl) (by decide) rfl ?_
  show A zP (zCs (sv sio)) zK zTy _ _ _ _ _ (cs1 xs) _
  refine A.run cz0 1 (i' := 2) (ls' := [some (.ref 0), none, none, none, none, none, none]) (st' := [.ref 78, .ref 78]) rfl ?_
  refine A.c (gC_sp (x := 78) cz0 (show zM0.2.2.2.2.2[2]? = some (4, 3, .invokespecial 68, [0, 16, 0]) from rfl) cz16 rfl (show aCr 0 78 [.ref 78, .ref 78] 2 = some ([some (.ref 78), none], [.ref 78]) from rfl)) (cq19 xs) ?_
  show A zP (zCs (sv sio)) zK zTy _ _ _ _ _ (cs98 xs) _
  refine A.run cz0 1 (i' := 4) (ls' := [some (.ref 0), some (.ref 78), none, none, none, none, none]) (st' := []) rfl ?_
  refine A.nwd (gI_of cz0 (e := (8, 3, .new 69, [9, 0, 0, 2, 0, 2, 2, 2, 2, 2, 2, 2, 2, 2, 2, 2, 2, 2, 2, 2, 2, 2, 0, 2, 2, 2, 2, 0, 1, 2, 0, 2, 2, 0, 0, 0, 0, 1, 2, 0, 0, 0, 0, 0, 0, 0])) rfl) (by decide) rfl ?_
  show A zP (zCs (sv sio)) zK zTy _ _ _ _ _ (cs99 xs) _
  refine A.run cz0 1 (i' := 6) (ls' := [some (.ref 0), some (.ref 78), none, none, none, none, none]) (st' := [.ref 121, .ref 121]) rfl ?_
  refine A.c (gC_sp (x := 121) cz0 (show zM0.2.2.2.2.2[6]? = some (12, 3, .invokespecial 71, [0, 170, 0]) from rfl) cz170 rfl (show aCr 0 121 [.ref 121, .ref 121] 1 = some ([some (.ref 121)], [.ref 121]) from rfl)) (cq20 xs) ?_
  show A zP (zCs (sv sio)) zK zTy _ _ _ _ _ (cs151 xs) _
  refine A.run cz0 2 (i' := 9) (ls' := [some (.ref 0), some (.ref 78), some (.ref 121), none, none, none, none]) (st' := [.int 1]) rfl ?_
  refine A.nl (gI_of cz0 (e := (17, 2, .newarray .long, [])) rfl) (by decide) (by decide) ?_
  show A zP (zCs (sv sio)) zK zTy _ _ _ _ _ (cs152 xs) _
  refine A.run cz0 3 (i' := 13) (ls' := [some (.ref 0), some (.ref 78), some (.ref 121), some (.ref 148), some (.int 0), none, none]) (st' := []) rfl ?_
  exact g
set_option maxRecDepth 100000 in
theorem ca1 (xs : List Int32) : ag xs (cs1 xs) (cs1 []) := ag.N (ca0 xs)
set_option maxRecDepth 100000 in
theorem ca2 (xs : List Int32) : ag xs (cs2 xs) (cs2 []) := ag.N (ca1 xs)
set_option maxRecDepth 100000 in
theorem ca3 (xs : List Int32) : ag xs (cs3 xs) (cs3 []) := ag.N (ca2 xs)
set_option maxRecDepth 100000 in
theorem ca4 (xs : List Int32) : ag xs (cs4 xs) (cs4 []) := ag.R (by decide) (ca3 xs)
set_option maxRecDepth 100000 in
theorem ca5 (xs : List Int32) : ag xs (cs5 xs) (cs5 []) := ag.R (by decide) (ca4 xs)
set_option maxRecDepth 100000 in
theorem ca6 (xs : List Int32) : ag xs (cs6 xs) (cs6 []) := ag.N (ca5 xs)
set_option maxRecDepth 100000 in
theorem ca7 (xs : List Int32) : ag xs (cs7 xs) (cs7 []) := ag.N (ca6 xs)
set_option maxRecDepth 100000 in
theorem ca8 (xs : List Int32) : ag xs (cs8 xs) (cs8 []) := ag.R (by decide) (ca7 xs)
set_option maxRecDepth 100000 in
theorem ca9 (xs : List Int32) : ag xs (cs9 xs) (cs9 []) := ag.N (ca8 xs)
set_option maxRecDepth 100000 in
theorem ca10 (xs : List Int32) : ag xs (cs10 xs) (cs10 []) := ag.R (by decide) (ca9 xs)
set_option maxRecDepth 100000 in
theorem ca11 (xs : List Int32) : ag xs (cs11 xs) (cs11 []) := ag.N (ca10 xs)
set_option maxRecDepth 100000 in
theorem ca12 (xs : List Int32) : ag xs (cs12 xs) (cs12 []) := ag.N (ca11 xs)
set_option maxRecDepth 100000 in
theorem ca13 (xs : List Int32) : ag xs (cs13 xs) (cs13 []) := ag.R (by decide) (ca12 xs)
set_option maxRecDepth 100000 in
theorem ca14 (xs : List Int32) : ag xs (cs14 xs) (cs14 []) := ag.R (by decide) (ca13 xs)
set_option maxRecDepth 100000 in
theorem ca15 (xs : List Int32) : ag xs (cs15 xs) (cs15 []) := ag.N (ca14 xs)
set_option maxRecDepth 100000 in
theorem ca16 (xs : List Int32) : ag xs (cs16 xs) (cs16 []) := ag.N (ca15 xs)
set_option maxRecDepth 100000 in
theorem ca17 (xs : List Int32) : ag xs (cs17 xs) (cs17 []) := ag.R (by decide) (ca16 xs)
set_option maxRecDepth 100000 in
theorem ca18 (xs : List Int32) : ag xs (cs18 xs) (cs18 []) := ag.R (by decide) (ca17 xs)
set_option maxRecDepth 100000 in
theorem ca19 (xs : List Int32) : ag xs (cs19 xs) (cs19 []) := ag.N (ca18 xs)
set_option maxRecDepth 100000 in
theorem ca20 (xs : List Int32) : ag xs (cs20 xs) (cs20 []) := ag.N (ca19 xs)
set_option maxRecDepth 100000 in
theorem ca21 (xs : List Int32) : ag xs (cs21 xs) (cs21 []) := ag.R (by decide) (ca20 xs)
set_option maxRecDepth 100000 in
theorem ca22 (xs : List Int32) : ag xs (cs22 xs) (cs22 []) := ag.R (by decide) (ca21 xs)
set_option maxRecDepth 100000 in
theorem ca23 (xs : List Int32) : ag xs (cs23 xs) (cs23 []) := ag.N (ca22 xs)
set_option maxRecDepth 100000 in
theorem ca24 (xs : List Int32) : ag xs (cs24 xs) (cs24 []) := ag.N (ca23 xs)
set_option maxRecDepth 100000 in
theorem ca25 (xs : List Int32) : ag xs (cs25 xs) (cs25 []) := ag.R (by decide) (ca24 xs)
set_option maxRecDepth 100000 in
theorem ca26 (xs : List Int32) : ag xs (cs26 xs) (cs26 []) := ag.R (by decide) (ca25 xs)
set_option maxRecDepth 100000 in
theorem ca27 (xs : List Int32) : ag xs (cs27 xs) (cs27 []) := ag.N (ca26 xs)
set_option maxRecDepth 100000 in
theorem ca28 (xs : List Int32) : ag xs (cs28 xs) (cs28 []) := ag.N (ca27 xs)
set_option maxRecDepth 100000 in
theorem ca29 (xs : List Int32) : ag xs (cs29 xs) (cs29 []) := ag.R (by decide) (ca28 xs)
set_option maxRecDepth 100000 in
theorem ca30 (xs : List Int32) : ag xs (cs30 xs) (cs30 []) := ag.R (by decide) (ca29 xs)
set_option maxRecDepth 100000 in
theorem ca31 (xs : List Int32) : ag xs (cs31 xs) (cs31 []) := ag.N (ca30 xs)
set_option maxRecDepth 100000 in
theorem ca32 (xs : List Int32) : ag xs (cs32 xs) (cs32 []) := ag.N (ca31 xs)
set_option maxRecDepth 100000 in
theorem ca33 (xs : List Int32) : ag xs (cs33 xs) (cs33 []) := ag.R (by decide) (ca32 xs)
set_option maxRecDepth 100000 in
theorem ca34 (xs : List Int32) : ag xs (cs34 xs) (cs34 []) := ag.R (by decide) (ca33 xs)
set_option maxRecDepth 100000 in
theorem ca35 (xs : List Int32) : ag xs (cs35 xs) (cs35 []) := ag.N (ca34 xs)
set_option maxRecDepth 100000 in
theorem ca36 (xs : List Int32) : ag xs (cs36 xs) (cs36 []) := ag.N (ca35 xs)
set_option maxRecDepth 100000 in
theorem ca37 (xs : List Int32) : ag xs (cs37 xs) (cs37 []) := ag.R (by decide) (ca36 xs)
set_option maxRecDepth 100000 in
theorem ca38 (xs : List Int32) : ag xs (cs38 xs) (cs38 []) := ag.R (by decide) (ca37 xs)
set_option maxRecDepth 100000 in
theorem ca39 (xs : List Int32) : ag xs (cs39 xs) (cs39 []) := ag.N (ca38 xs)
set_option maxRecDepth 100000 in
theorem ca40 (xs : List Int32) : ag xs (cs40 xs) (cs40 []) := ag.N (ca39 xs)
set_option maxRecDepth 100000 in
theorem ca41 (xs : List Int32) : ag xs (cs41 xs) (cs41 []) := ag.R (by decide) (ca40 xs)
set_option maxRecDepth 100000 in
theorem ca42 (xs : List Int32) : ag xs (cs42 xs) (cs42 []) := ag.R (by decide) (ca41 xs)
set_option maxRecDepth 100000 in
theorem ca43 (xs : List Int32) : ag xs (cs43 xs) (cs43 []) := ag.R (by decide) (ca42 xs)
set_option maxRecDepth 100000 in
theorem ca44 (xs : List Int32) : ag xs (cs44 xs) (cs44 []) := ag.N (ca43 xs)
set_option maxRecDepth 100000 in
theorem ca45 (xs : List Int32) : ag xs (cs45 xs) (cs45 []) := ag.R (by decide) (ca44 xs)
set_option maxRecDepth 100000 in
theorem ca46 (xs : List Int32) : ag xs (cs46 xs) (cs46 []) := ag.N (ca45 xs)
set_option maxRecDepth 100000 in
theorem ca47 (xs : List Int32) : ag xs (cs47 xs) (cs47 []) := ag.R (by decide) (ca46 xs)
set_option maxRecDepth 100000 in
theorem ca48 (xs : List Int32) : ag xs (cs48 xs) (cs48 []) := ag.I (by decide) (ca47 xs)
set_option maxRecDepth 100000 in
theorem ca49 (xs : List Int32) : ag xs (cs49 xs) (cs49 []) := ag.I (by decide) (ca48 xs)
set_option maxRecDepth 100000 in
theorem ca50 (xs : List Int32) : ag xs (cs50 xs) (cs50 []) := ag.I (by decide) (ca49 xs)
set_option maxRecDepth 100000 in
theorem ca51 (xs : List Int32) : ag xs (cs51 xs) (cs51 []) := ag.I (by decide) (ca50 xs)
set_option maxRecDepth 100000 in
theorem ca52 (xs : List Int32) : ag xs (cs52 xs) (cs52 []) := ag.I (by decide) (ca51 xs)
set_option maxRecDepth 100000 in
theorem ca53 (xs : List Int32) : ag xs (cs53 xs) (cs53 []) := ag.I (by decide) (ca52 xs)
set_option maxRecDepth 100000 in
theorem ca54 (xs : List Int32) : ag xs (cs54 xs) (cs54 []) := ag.I (by decide) (ca53 xs)
set_option maxRecDepth 100000 in
theorem ca55 (xs : List Int32) : ag xs (cs55 xs) (cs55 []) := ag.I (by decide) (ca54 xs)
set_option maxRecDepth 100000 in
theorem ca56 (xs : List Int32) : ag xs (cs56 xs) (cs56 []) := ag.N (ca55 xs)
set_option maxRecDepth 100000 in
theorem ca57 (xs : List Int32) : ag xs (cs57 xs) (cs57 []) := ag.N (ca56 xs)
set_option maxRecDepth 100000 in
theorem ca58 (xs : List Int32) : ag xs (cs58 xs) (cs58 []) := ag.R (by decide) (ca57 xs)
set_option maxRecDepth 100000 in
theorem ca59 (xs : List Int32) : ag xs (cs59 xs) (cs59 []) := ag.N (ca58 xs)
set_option maxRecDepth 100000 in
theorem ca60 (xs : List Int32) : ag xs (cs60 xs) (cs60 []) := ag.N (ca59 xs)
set_option maxRecDepth 100000 in
theorem ca61 (xs : List Int32) : ag xs (cs61 xs) (cs61 []) := ag.R (by decide) (ca60 xs)
set_option maxRecDepth 100000 in
theorem ca62 (xs : List Int32) : ag xs (cs62 xs) (cs62 []) := ag.R (by decide) (ca61 xs)
set_option maxRecDepth 100000 in
theorem ca63 (xs : List Int32) : ag xs (cs63 xs) (cs63 []) := ag.R (by decide) (ca62 xs)
set_option maxRecDepth 100000 in
theorem ca64 (xs : List Int32) : ag xs (cs64 xs) (cs64 []) := ag.N (ca63 xs)
set_option maxRecDepth 100000 in
theorem ca65 (xs : List Int32) : ag xs (cs65 xs) (cs65 []) := ag.N (ca64 xs)
set_option maxRecDepth 100000 in
theorem ca66 (xs : List Int32) : ag xs (cs66 xs) (cs66 []) := ag.N (ca65 xs)
set_option maxRecDepth 100000 in
theorem ca67 (xs : List Int32) : ag xs (cs67 xs) (cs67 []) := ag.R (by decide) (ca66 xs)
set_option maxRecDepth 100000 in
theorem ca68 (xs : List Int32) : ag xs (cs68 xs) (cs68 []) := ag.R (by decide) (ca67 xs)
set_option maxRecDepth 100000 in
theorem ca69 (xs : List Int32) : ag xs (cs69 xs) (cs69 []) := ag.N (ca68 xs)
set_option maxRecDepth 100000 in
theorem ca70 (xs : List Int32) : ag xs (cs70 xs) (cs70 []) := ag.R (by decide) (ca69 xs)
set_option maxRecDepth 100000 in
theorem ca71 (xs : List Int32) : ag xs (cs71 xs) (cs71 []) := ag.N (ca70 xs)
set_option maxRecDepth 100000 in
theorem ca72 (xs : List Int32) : ag xs (cs72 xs) (cs72 []) := ag.N (ca71 xs)
set_option maxRecDepth 100000 in
theorem ca73 (xs : List Int32) : ag xs (cs73 xs) (cs73 []) := ag.R (by decide) (ca72 xs)
set_option maxRecDepth 100000 in
theorem ca74 (xs : List Int32) : ag xs (cs74 xs) (cs74 []) := ag.N (ca73 xs)
set_option maxRecDepth 100000 in
theorem ca75 (xs : List Int32) : ag xs (cs75 xs) (cs75 []) := ag.R (by decide) (ca74 xs)
set_option maxRecDepth 100000 in
theorem ca76 (xs : List Int32) : ag xs (cs76 xs) (cs76 []) := ag.R (by decide) (ca75 xs)
set_option maxRecDepth 100000 in
theorem ca77 (xs : List Int32) : ag xs (cs77 xs) (cs77 []) := ag.N (ca76 xs)
set_option maxRecDepth 100000 in
theorem ca78 (xs : List Int32) : ag xs (cs78 xs) (cs78 []) := ag.N (ca77 xs)
set_option maxRecDepth 100000 in
theorem ca79 (xs : List Int32) : ag xs (cs79 xs) (cs79 []) := ag.R (by decide) (ca78 xs)
set_option maxRecDepth 100000 in
theorem ca80 (xs : List Int32) : ag xs (cs80 xs) (cs80 []) := ag.N (ca79 xs)
set_option maxRecDepth 100000 in
theorem ca81 (xs : List Int32) : ag xs (cs81 xs) (cs81 []) := ag.R (by decide) (ca80 xs)
set_option maxRecDepth 100000 in
theorem ca82 (xs : List Int32) : ag xs (cs82 xs) (cs82 []) := ag.N (ca81 xs)
set_option maxRecDepth 100000 in
theorem ca83 (xs : List Int32) : ag xs (cs83 xs) (cs83 []) := ag.R (by decide) (ca82 xs)
set_option maxRecDepth 100000 in
theorem ca84 (xs : List Int32) : ag xs (cs84 xs) (cs84 []) := ag.R (by decide) (ca83 xs)
set_option maxRecDepth 100000 in
theorem ca85 (xs : List Int32) : ag xs (cs85 xs) (cs85 []) := ag.R (by decide) (ca84 xs)
set_option maxRecDepth 100000 in
theorem ca86 (xs : List Int32) : ag xs (cs86 xs) (cs86 []) := ag.R (by decide) (ca85 xs)
set_option maxRecDepth 100000 in
theorem ca87 (xs : List Int32) : ag xs (cs87 xs) (cs87 []) := ag.R (by decide) (ca86 xs)
set_option maxRecDepth 100000 in
theorem ca88 (xs : List Int32) : ag xs (cs88 xs) (cs88 []) := ag.R (by decide) (ca87 xs)
set_option maxRecDepth 100000 in
theorem ca89 (xs : List Int32) : ag xs (cs89 xs) (cs89 []) := ag.N (ca88 xs)
set_option maxRecDepth 100000 in
theorem ca90 (xs : List Int32) : ag xs (cs90 xs) (cs90 []) := ag.N (ca89 xs)
set_option maxRecDepth 100000 in
theorem ca91 (xs : List Int32) : ag xs (cs91 xs) (cs91 []) := ag.R (by decide) (ca90 xs)
set_option maxRecDepth 100000 in
theorem ca92 (xs : List Int32) : ag xs (cs92 xs) (cs92 []) := ag.N (ca91 xs)
set_option maxRecDepth 100000 in
theorem ca93 (xs : List Int32) : ag xs (cs93 xs) (cs93 []) := ag.R (by decide) (ca92 xs)
set_option maxRecDepth 100000 in
theorem ca94 (xs : List Int32) : ag xs (cs94 xs) (cs94 []) := ag.N (ca93 xs)
set_option maxRecDepth 100000 in
theorem ca95 (xs : List Int32) : ag xs (cs95 xs) (cs95 []) := ag.R (by decide) (ca94 xs)
set_option maxRecDepth 100000 in
theorem ca96 (xs : List Int32) : ag xs (cs96 xs) (cs96 []) := ag.R (by decide) (ca95 xs)
set_option maxRecDepth 100000 in
theorem ca97 (xs : List Int32) : ag xs (cs97 xs) (cs97 []) := ag.R (by decide) (ca96 xs)
set_option maxRecDepth 100000 in
theorem ca98 (xs : List Int32) : ag xs (cs98 xs) (cs98 []) := ag.R (by decide) (ca97 xs)
set_option maxRecDepth 100000 in
theorem ca99 (xs : List Int32) : ag xs (cs99 xs) (cs99 []) := ag.N (ca98 xs)
set_option maxRecDepth 100000 in
theorem ca100 (xs : List Int32) : ag xs (cs100 xs) (cs100 []) := ag.N (ca99 xs)
set_option maxRecDepth 100000 in
theorem ca101 (xs : List Int32) : ag xs (cs101 xs) (cs101 []) := ag.R (by decide) (ca100 xs)
set_option maxRecDepth 100000 in
theorem ca102 (xs : List Int32) : ag xs (cs102 xs) (cs102 []) := ag.N (ca101 xs)
set_option maxRecDepth 100000 in
theorem ca103 (xs : List Int32) : ag xs (cs103 xs) (cs103 []) := ag.R (by decide) (ca102 xs)
set_option maxRecDepth 100000 in
theorem ca104 (xs : List Int32) : ag xs (cs104 xs) (cs104 []) := ag.N (ca103 xs)
set_option maxRecDepth 100000 in
theorem ca105 (xs : List Int32) : ag xs (cs105 xs) (cs105 []) := ag.R (by decide) (ca104 xs)
set_option maxRecDepth 100000 in
theorem ca106 (xs : List Int32) : ag xs (cs106 xs) (cs106 []) := ag.N (ca105 xs)
set_option maxRecDepth 100000 in
theorem ca107 (xs : List Int32) : ag xs (cs107 xs) (cs107 []) := ag.R (by decide) (ca106 xs)
set_option maxRecDepth 100000 in
theorem ca108 (xs : List Int32) : ag xs (cs108 xs) (cs108 []) := ag.N (ca107 xs)
set_option maxRecDepth 100000 in
theorem ca109 (xs : List Int32) : ag xs (cs109 xs) (cs109 []) := ag.R (by decide) (ca108 xs)
set_option maxRecDepth 100000 in
theorem ca110 (xs : List Int32) : ag xs (cs110 xs) (cs110 []) := ag.N (ca109 xs)
set_option maxRecDepth 100000 in
theorem ca111 (xs : List Int32) : ag xs (cs111 xs) (cs111 []) := ag.R (by decide) (ca110 xs)
set_option maxRecDepth 100000 in
theorem ca112 (xs : List Int32) : ag xs (cs112 xs) (cs112 []) := ag.N (ca111 xs)
set_option maxRecDepth 100000 in
theorem ca113 (xs : List Int32) : ag xs (cs113 xs) (cs113 []) := ag.R (by decide) (ca112 xs)
set_option maxRecDepth 100000 in
theorem ca114 (xs : List Int32) : ag xs (cs114 xs) (cs114 []) := ag.N (ca113 xs)
set_option maxRecDepth 100000 in
theorem ca115 (xs : List Int32) : ag xs (cs115 xs) (cs115 []) := ag.R (by decide) (ca114 xs)
set_option maxRecDepth 100000 in
theorem ca116 (xs : List Int32) : ag xs (cs116 xs) (cs116 []) := ag.N (ca115 xs)
set_option maxRecDepth 100000 in
theorem ca117 (xs : List Int32) : ag xs (cs117 xs) (cs117 []) := ag.R (by decide) (ca116 xs)
set_option maxRecDepth 100000 in
theorem ca118 (xs : List Int32) : ag xs (cs118 xs) (cs118 []) := ag.N (ca117 xs)
set_option maxRecDepth 100000 in
theorem ca119 (xs : List Int32) : ag xs (cs119 xs) (cs119 []) := ag.R (by decide) (ca118 xs)
set_option maxRecDepth 100000 in
theorem ca120 (xs : List Int32) : ag xs (cs120 xs) (cs120 []) := ag.N (ca119 xs)
set_option maxRecDepth 100000 in
theorem ca121 (xs : List Int32) : ag xs (cs121 xs) (cs121 []) := ag.R (by decide) (ca120 xs)
set_option maxRecDepth 100000 in
theorem ca122 (xs : List Int32) : ag xs (cs122 xs) (cs122 []) := ag.N (ca121 xs)
set_option maxRecDepth 100000 in
theorem ca123 (xs : List Int32) : ag xs (cs123 xs) (cs123 []) := ag.R (by decide) (ca122 xs)
set_option maxRecDepth 100000 in
theorem ca124 (xs : List Int32) : ag xs (cs124 xs) (cs124 []) := ag.N (ca123 xs)
set_option maxRecDepth 100000 in
theorem ca125 (xs : List Int32) : ag xs (cs125 xs) (cs125 []) := ag.R (by decide) (ca124 xs)
set_option maxRecDepth 100000 in
theorem ca126 (xs : List Int32) : ag xs (cs126 xs) (cs126 []) := ag.N (ca125 xs)
set_option maxRecDepth 100000 in
theorem ca127 (xs : List Int32) : ag xs (cs127 xs) (cs127 []) := ag.R (by decide) (ca126 xs)
set_option maxRecDepth 100000 in
theorem ca128 (xs : List Int32) : ag xs (cs128 xs) (cs128 []) := ag.N (ca127 xs)
set_option maxRecDepth 100000 in
theorem ca129 (xs : List Int32) : ag xs (cs129 xs) (cs129 []) := ag.R (by decide) (ca128 xs)
set_option maxRecDepth 100000 in
theorem ca130 (xs : List Int32) : ag xs (cs130 xs) (cs130 []) := ag.N (ca129 xs)
set_option maxRecDepth 100000 in
theorem ca131 (xs : List Int32) : ag xs (cs131 xs) (cs131 []) := ag.R (by decide) (ca130 xs)
set_option maxRecDepth 100000 in
theorem ca132 (xs : List Int32) : ag xs (cs132 xs) (cs132 []) := ag.N (ca131 xs)
set_option maxRecDepth 100000 in
theorem ca133 (xs : List Int32) : ag xs (cs133 xs) (cs133 []) := ag.R (by decide) (ca132 xs)
set_option maxRecDepth 100000 in
theorem ca134 (xs : List Int32) : ag xs (cs134 xs) (cs134 []) := ag.N (ca133 xs)
set_option maxRecDepth 100000 in
theorem ca135 (xs : List Int32) : ag xs (cs135 xs) (cs135 []) := ag.R (by decide) (ca134 xs)
set_option maxRecDepth 100000 in
theorem ca136 (xs : List Int32) : ag xs (cs136 xs) (cs136 []) := ag.N (ca135 xs)
set_option maxRecDepth 100000 in
theorem ca137 (xs : List Int32) : ag xs (cs137 xs) (cs137 []) := ag.R (by decide) (ca136 xs)
set_option maxRecDepth 100000 in
theorem ca138 (xs : List Int32) : ag xs (cs138 xs) (cs138 []) := ag.N (ca137 xs)
set_option maxRecDepth 100000 in
theorem ca139 (xs : List Int32) : ag xs (cs139 xs) (cs139 []) := ag.R (by decide) (ca138 xs)
set_option maxRecDepth 100000 in
theorem ca140 (xs : List Int32) : ag xs (cs140 xs) (cs140 []) := ag.N (ca139 xs)
set_option maxRecDepth 100000 in
theorem ca141 (xs : List Int32) : ag xs (cs141 xs) (cs141 []) := ag.R (by decide) (ca140 xs)
set_option maxRecDepth 100000 in
theorem ca142 (xs : List Int32) : ag xs (cs142 xs) (cs142 []) := ag.N (ca141 xs)
set_option maxRecDepth 100000 in
theorem ca143 (xs : List Int32) : ag xs (cs143 xs) (cs143 []) := ag.R (by decide) (ca142 xs)
set_option maxRecDepth 100000 in
theorem ca144 (xs : List Int32) : ag xs (cs144 xs) (cs144 []) := ag.N (ca143 xs)
set_option maxRecDepth 100000 in
theorem ca145 (xs : List Int32) : ag xs (cs145 xs) (cs145 []) := ag.R (by decide) (ca144 xs)
set_option maxRecDepth 100000 in
theorem ca146 (xs : List Int32) : ag xs (cs146 xs) (cs146 []) := ag.N (ca145 xs)
set_option maxRecDepth 100000 in
theorem ca147 (xs : List Int32) : ag xs (cs147 xs) (cs147 []) := ag.R (by decide) (ca146 xs)
set_option maxRecDepth 100000 in
theorem ca148 (xs : List Int32) : ag xs (cs148 xs) (cs148 []) := ag.N (ca147 xs)
set_option maxRecDepth 100000 in
theorem ca149 (xs : List Int32) : ag xs (cs149 xs) (cs149 []) := ag.R (by decide) (ca148 xs)
set_option maxRecDepth 100000 in
theorem ca150 (xs : List Int32) : ag xs (cs150 xs) (cs150 []) := ag.N (ca149 xs)
set_option maxRecDepth 100000 in
theorem ca151 (xs : List Int32) : ag xs (cs151 xs) (cs151 []) := ag.R (by decide) (ca150 xs)
set_option maxRecDepth 100000 in
theorem ca152 (xs : List Int32) : ag xs (cs152 xs) (cs152 []) := ag.N (ca151 xs)
abbrev csE (xs : List Int32) : aS := cs152 xs
set_option maxRecDepth 100000 in
theorem caE (xs : List Int32) : ag xs (csE xs) (csE []) := ca152 xs
end
section
/-! from the functions to zPure: the cells at the start, and what is left to show of the law's function -/
set_option maxRecDepth 100000 in
theorem fin_hp (xs : List Int32) : hOf zTy (cs0 xs) = fHp xs zTx := by
  have hl : 2 + 2 * zTx.length = zK := by decide
  unfold hOf fHp
  rw [hl]
  refine List.map_congr_left fun a ha => ?_
  have ha : a < 78 := List.mem_range.mp ha
  unfold aCell fCell
  have hT : sT (cs0 xs) a = zTt0 xs.length a := rfl
  rw [hT]
  by_cases h0 : a = 0
  · subst h0
    rw [if_pos rfl]
    show ((100 : Nat), (List.range xs.length).map fun k => Value.int (xs.getD k 0)) = _
    congr 1
    apply List.ext_getElem?
    intro j
    by_cases hj : j < xs.length
    · rw [List.getElem?_map, List.getElem?_range hj, List.getElem?_map, List.getElem?_eq_getElem hj]
      simp [List.getD, List.getElem?_eq_getElem hj]
    · rw [List.getElem?_eq_none (by simp; omega), List.getElem?_eq_none (by simp; omega)]
  · rw [if_neg h0]
    have e : zTt0 xs.length a = zTz.getD a (0, 0) := by unfold zTt0; rw [if_neg h0]
    rw [e]
    have hc : ∀ k, aSlot (aTy zTy (zTz.getD a (0, 0)).1 k) (cs0 xs) a k = if aTy zTy (zTz.getD a (0, 0)).1 k = 2 then .ref (a + 1) else if aTy zTy (zTz.getD a (0, 0)).1 k = 3 then .long 0 else .int (if a % 2 = 1 then 0 else (zTx.getD ((a - 2) / 2) ("", 0, [])).2.2.getD k 0) := by
      intro k
      unfold aSlot
      have : sI (cs0 xs) a k = if a % 2 = 1 then 0 else (zTx.getD ((a - 2) / 2) ("", 0, [])).2.2.getD k 0 := by
        show cCc xs a k = _
        unfold cCc
        rw [if_neg h0]
      rw [this]
      rfl
    simp only [hc]
    have key : ∀ a : Fin 78, a.val ≠ 0 → ((zTz.getD a.val (0, 0)).1, (List.range (zTz.getD a.val (0, 0)).2).map fun k => if aTy zTy (zTz.getD a.val (0, 0)).1 k = 2 then Value.ref (a.val + 1) else if aTy zTy (zTz.getD a.val (0, 0)).1 k = 3 then .long 0 else .int (if a.val % 2 = 1 then 0 else (zTx.getD ((a.val - 2) / 2) ("", 0, [])).2.2.getD k 0)) = (if a.val = 1 + 2 * zTx.length then ((99 : Nat), ([] : List Value)) else if a.val % 2 = 1 then (70, [.ref (a.val + 1), .int 0]) else (101, ((zTx.getD ((a.val - 2) / 2) ("", 0, [])).2.2).map .int)) := by decide +kernel
    exact key ⟨a, ha⟩ h0
set_option maxRecDepth 100000 in
theorem fin_ly (xs : List Int32) : Ly xs.length (cCc xs) (csE xs) := by
  obtain ⟨h1, h2, h3, h4, h5, h6, h7, h8⟩ := caE xs
  have hL : sL (csE xs) = 149 := h1.trans (by decide +kernel)
  have k1 : ∀ j : Fin 71, sT (csE []) (zK + j.val) = zTt.getD j.val (0, 0) := by decide +kernel
  have k2 : ∀ q ∈ zRt, q.1 ≠ 0 ∧ sR (csE []) q.1 q.2.1 = .ref q.2.2 := by decide +kernel
  have k3 : ∀ b : Fin 149, b.val ≠ 0 → (sT (csE []) b.val).1 = 1 → sT (csE []) b.val = (1, 2) ∧ sR (csE []) b.val 0 = .ref (b.val + 1) ∧ b.val + 1 < 149 ∧ (sT (csE []) (b.val + 1)).1 = 102 ∧ zK ≤ b.val := by decide +kernel
  have k4 : ∀ b : Fin 149, b.val ≠ 0 → (sT (csE []) b.val).1 = 3 → sT (csE []) b.val = (3, 3) ∧ sR (csE []) b.val 0 = .ref (b.val + 1) ∧ sR (csE []) b.val 1 = .ref (b.val + 2) ∧ b.val + 3 < 149 ∧ sT (csE []) (b.val + 1) = (100, 1408) ∧ sT (csE []) (b.val + 2) = (1, 2) ∧ sT (csE []) (b.val + 3) = (102, 256) ∧ zK ≤ b.val := by decide +kernel
  have k5 : ∀ b : Fin 149, b.val ≠ 0 → (sT (csE []) b.val).1 = 70 → sT (csE []) b.val = (70, 2) ∧ sR (csE []) b.val 0 = .ref (b.val + 1) ∧ b.val + 1 < 149 ∧ (sT (csE []) (b.val + 1)).1 = 101 ∧ b.val + 1 < zK := by decide +kernel
  have kz : ∀ b c, c ≠ 100 → aK (csE xs) b c → b < 149 ∧ b ≠ 0 ∧ (sT (csE []) b).1 = c := by
    rintro b c hc ⟨hb1, hb2⟩
    have hb0 : b ≠ 0 := by
      rintro rfl
      rw [h7 0 (by omega)] at hb2
      exact hc hb2.symm
    exact ⟨by omega, hb0, by rw [← h3 b hb0]; exact hb2⟩
  refine ⟨by rw [hL]; decide, by decide, fun j p hp => ?_, fun j q hq => ?_, fun b hb => ?_, fun b hb => ?_, fun b hb => ?_, h7, h8⟩
  · have hj : j < 71 := (List.getElem?_eq_some_iff.mp hp).1
    rw [h3 _ (by show 78 + j ≠ 0; omega), k1 ⟨j, hj⟩]
    simp [List.getD, hp]
  · obtain ⟨q1, q2⟩ := k2 q (List.mem_of_getElem? hq)
    rw [h4 _ _ q1]
    exact q2
  · obtain ⟨b1, b2, b3⟩ := kz b 1 (by decide) hb
    obtain ⟨g1, g2, g3, g4, g5⟩ := k3 ⟨b, b1⟩ b2 b3
    exact ⟨by rw [h3 b b2]; exact g1, by rw [h4 b _ b2]; exact g2, by rw [hL]; exact g3, by rw [h3 _ (by omega)]; exact g4, g5⟩
  · obtain ⟨b1, b2, b3⟩ := kz b 3 (by decide) hb
    obtain ⟨g1, g2, g3, g4, g5, g6, g7, g8⟩ := k4 ⟨b, b1⟩ b2 b3
    exact ⟨by rw [h3 b b2]; exact g1, by rw [h4 b _ b2]; exact g2, by rw [h4 b _ b2]; exact g3, by rw [hL]; exact g4, by rw [h3 _ (by omega)]; exact g5, by rw [h3 _ (by omega)]; exact g6, by rw [h3 _ (by omega)]; exact g7, g8⟩
  · obtain ⟨b1, b2, b3⟩ := kz b 70 (by decide) hb
    obtain ⟨g1, g2, g3, g4, g5⟩ := k5 ⟨b, b1⟩ b2 b3
    exact ⟨by rw [h3 b b2]; exact g1, by rw [h4 b _ b2]; exact g2, by rw [hL]; exact g3, by rw [h3 _ (by omega)]; exact g4, g5⟩
/-- what a state's cells weigh -/
def aSz (s : aS) : Nat := ((List.range (sL s)).map fun a => if 80 ≤ (sT s a).1 ∧ (sT s a).1 < 100 then 6 else (sT s a).2).sum
set_option maxRecDepth 100000 in
theorem aSz_eq (s : aS) : xsz (hOf zTy s) = aSz s := by
  unfold xsz aSz hOf
  rw [List.map_map]
  congr 1
  refine List.map_congr_left fun a _ => ?_
  show xwt (aCell zTy s a) = _
  unfold xwt
  rw [aCell_len]
  rfl
set_option maxRecDepth 100000 in
theorem zPure_of {N : Nat} (h : ∀ xs : List Int32, xs.length ≤ N → ∃ s', dm0 0 (csE xs) = some (1, s') ∧ sL s' ≤ 601000 ∧ aSz s' ≤ 7293000) : zPure N := by
  intro sio hsio xs hx
  obtain ⟨s', g1, g2, g3⟩ := h xs hx
  obtain ⟨c9, rfl⟩ : ∃ c9, sio = sv c9 := by
    rcases hsio with rfl | rfl
    · exact ⟨true, rfl⟩
    · exact ⟨false, rfl⟩
  have hq := (dt0 (sio := c9) (d := 1296 + 4) (by decide) (fin_ly xs) g1).2.2
  have hz := z_start (sio := c9) (d := 1296) xs hq
  obtain ⟨n, hn⟩ := hz
  refine ⟨n, 1300, _, by decide, by rw [← fin_hp]; exact hn, ?_, ?_⟩
  · rw [hOf_len]
    exact Nat.le_trans (Nat.sub_le _ _) (Nat.le_trans g2 (by decide))
  · rw [aSz_eq]
    exact Nat.le_trans (Nat.sub_le _ _) (Nat.le_trans g3 (by decide))
end
section
/-! small means for the functions: places read behind writes, numbers -/
set_option maxRecDepth 100000 in
theorem bu_some {α β : Type} (a : α) (f : α → Option β) : bu (some a) f = f a := rfl
set_option maxRecDepth 100000 in
theorem bv_some {α β γ : Type} (a : α) (b : β) (f : α → β → Option γ) : bv (some (a, b)) f = f a b := rfl
set_option maxRecDepth 100000 in
theorem nx_eq {α β : Type} (v : α) (f : α → Option β) : nx v f = f v := rfl
set_option maxRecDepth 100000 in
theorem vN_null {β : Type} (x : Option β) (f : Nat → Option β) : vN .null x f = x := rfl
set_option maxRecDepth 100000 in
theorem vN_ref {β : Type} (b : Nat) (x : Option β) (f : Nat → Option β) : vN (.ref b) x f = f b := rfl
set_option maxRecDepth 100000 in
theorem zN_l {β : Type} (v : Option Value) (f : Option Value → Option β) (g : Nat → Option β) : zN (.inl v) f g = f v := rfl
set_option maxRecDepth 100000 in
theorem zN_r {β : Type} (e : Nat) (f : Option Value → Option β) (g : Nat → Option β) : zN (.inr e) f g = g e := rfl
set_option maxRecDepth 100000 in
theorem vI_int {β : Type} (x : Int32) (f : Int32 → Option β) : vI (some (.int x)) f = f x := rfl
set_option maxRecDepth 100000 in
theorem vV_none {β : Type} (x : Option β) : vV none x = x := rfl
set_option maxRecDepth 100000 in
theorem sI_wI (s : aS) (a k : Nat) (v : Int32) (b j : Nat) : sI (wI s a k v) b j = if b = a ∧ j = k then v else sI s b j := rfl
set_option maxRecDepth 100000 in
theorem sI_wR (s : aS) (a k : Nat) (v : Value) (b j : Nat) : sI (wR s a k v) b j = sI s b j := rfl
set_option maxRecDepth 100000 in
theorem sI_wJ (s : aS) (a k : Nat) (v : Int64) (b j : Nat) : sI (wJ s a k v) b j = sI s b j := rfl
set_option maxRecDepth 100000 in
theorem sR_wI (s : aS) (a k : Nat) (v : Int32) (b j : Nat) : sR (wI s a k v) b j = sR s b j := rfl
set_option maxRecDepth 100000 in
theorem sR_wR (s : aS) (a k : Nat) (v : Value) (b j : Nat) : sR (wR s a k v) b j = if b = a ∧ j = k then v else sR s b j := rfl
set_option maxRecDepth 100000 in
theorem sR_wJ (s : aS) (a k : Nat) (v : Int64) (b j : Nat) : sR (wJ s a k v) b j = sR s b j := rfl
set_option maxRecDepth 100000 in
theorem sJ_wI (s : aS) (a k : Nat) (v : Int32) (b j : Nat) : sJ (wI s a k v) b j = sJ s b j := rfl
set_option maxRecDepth 100000 in
theorem sJ_wR (s : aS) (a k : Nat) (v : Value) (b j : Nat) : sJ (wR s a k v) b j = sJ s b j := rfl
set_option maxRecDepth 100000 in
theorem sJ_wJ (s : aS) (a k : Nat) (v : Int64) (b j : Nat) : sJ (wJ s a k v) b j = if b = a ∧ j = k then v else sJ s b j := rfl
set_option maxRecDepth 100000 in
theorem sT_wI (s : aS) (a k : Nat) (v : Int32) (b : Nat) : sT (wI s a k v) b = sT s b := rfl
set_option maxRecDepth 100000 in
theorem sT_wR (s : aS) (a k : Nat) (v : Value) (b : Nat) : sT (wR s a k v) b = sT s b := rfl
set_option maxRecDepth 100000 in
theorem sT_wJ (s : aS) (a k : Nat) (v : Int64) (b : Nat) : sT (wJ s a k v) b = sT s b := rfl
set_option maxRecDepth 100000 in
theorem sL_wI (s : aS) (a k : Nat) (v : Int32) : sL (wI s a k v) = sL s := rfl
set_option maxRecDepth 100000 in
theorem sL_wR (s : aS) (a k : Nat) (v : Value) : sL (wR s a k v) = sL s := rfl
set_option maxRecDepth 100000 in
theorem sL_wJ (s : aS) (a k : Nat) (v : Int64) : sL (wJ s a k v) = sL s := rfl
set_option maxRecDepth 100000 in
theorem sL_nw (s : aS) (c n : Nat) : sL (nw s c n) = sL s + 1 := rfl
set_option maxRecDepth 100000 in
theorem sT_nw {s : aS} {c n b : Nat} (h : b < sL s) : sT (nw s c n) b = sT s b := if_neg (by omega)
set_option maxRecDepth 100000 in
theorem sI_nw {s : aS} {c n b j : Nat} (h : b < sL s) : sI (nw s c n) b j = sI s b j := if_neg (by omega)
set_option maxRecDepth 100000 in
theorem sR_nw {s : aS} {c n b j : Nat} (h : b < sL s) : sR (nw s c n) b j = sR s b j := if_neg (by omega)
set_option maxRecDepth 100000 in
theorem sJ_nw {s : aS} {c n b j : Nat} (h : b < sL s) : sJ (nw s c n) b j = sJ s b j := if_neg (by omega)
set_option maxRecDepth 100000 in
theorem iLt {x y : Int32} : x < y ↔ x.toInt < y.toInt := Int32.lt_iff_toInt_lt
set_option maxRecDepth 100000 in
theorem iLe {x y : Int32} : x ≤ y ↔ x.toInt ≤ y.toInt := Int32.le_iff_toInt_le
set_option maxRecDepth 100000 in
theorem iEq {x y : Int32} : x = y ↔ x.toInt = y.toInt := Int32.toInt_inj.symm
set_option maxRecDepth 100000 in
theorem jN_eq (j : Int32) : jN j = j.toInt.toNat := rfl
set_option maxRecDepth 100000 in
theorem aB_iff {j : Int32} {n : Nat} : aB j n ↔ 0 ≤ j.toInt ∧ j.toInt < n := by
  unfold aB
  rw [iLt, jN_eq]
  show ¬ j.toInt < 0 ∧ _ ↔ _
  omega
set_option maxRecDepth 100000 in
theorem iRange (x : Int32) : -2147483648 ≤ x.toInt ∧ x.toInt ≤ 2147483647 := by
  have h1 := Int32.le_toInt x
  have h2 := Int32.toInt_lt x
  omega
set_option maxRecDepth 100000 in
theorem iAdd {x y : Int32} (h1 : -2147483648 ≤ x.toInt + y.toInt) (h2 : x.toInt + y.toInt ≤ 2147483647) : (x + y).toInt = x.toInt + y.toInt := by
  rw [Int32.toInt_add]
  exact Int.bmod_eq_of_le (by omega) (by omega)
set_option maxRecDepth 100000 in
theorem iSub {x y : Int32} (h1 : -2147483648 ≤ x.toInt - y.toInt) (h2 : x.toInt - y.toInt ≤ 2147483647) : (x - y).toInt = x.toInt - y.toInt := by
  rw [Int32.toInt_sub]
  exact Int.bmod_eq_of_le (by omega) (by omega)
set_option maxRecDepth 100000 in
theorem iMul {x y : Int32} (h1 : -2147483648 ≤ x.toInt * y.toInt) (h2 : x.toInt * y.toInt ≤ 2147483647) : (x * y).toInt = x.toInt * y.toInt := by
  rw [Int32.toInt_mul]
  exact Int.bmod_eq_of_le (by omega) (by omega)
set_option maxRecDepth 100000 in
theorem iOfNat {n : Nat} (h : n < 2147483648) : (Int32.ofNat n).toInt = n := Int32.toInt_ofNat_of_lt h
/-- cells and their weight -/
def wt (p : Nat × Nat) : Nat := if 80 ≤ p.1 ∧ p.1 < 100 then 6 else p.2
set_option maxRecDepth 100000 in
theorem aSz_nw (s : aS) (c n : Nat) : aSz (nw s c n) = aSz s + wt (c, n) := by
  show ((List.range (sL s + 1)).map _).sum = _
  rw [List.range_succ, List.map_append, List.sum_append]
  have h1 : (List.range (sL s)).map (fun a => if 80 ≤ (sT (nw s c n) a).1 ∧ (sT (nw s c n) a).1 < 100 then 6 else (sT (nw s c n) a).2) = (List.range (sL s)).map fun a => if 80 ≤ (sT s a).1 ∧ (sT s a).1 < 100 then 6 else (sT s a).2 := by
    refine List.map_congr_left fun a ha => ?_
    rw [sT_nw (List.mem_range.mp ha)]
  have h2 : sT (nw s c n) (sL s) = (c, n) := if_pos rfl
  rw [h1]
  simp only [List.map_cons, List.map_nil, List.sum_cons, List.sum_nil, h2]
  rfl
set_option maxRecDepth 100000 in
theorem aSz_wI (s : aS) (a k : Nat) (v : Int32) : aSz (wI s a k v) = aSz s := rfl
set_option maxRecDepth 100000 in
theorem aSz_wR (s : aS) (a k : Nat) (v : Value) : aSz (wR s a k v) = aSz s := rfl
set_option maxRecDepth 100000 in
theorem aSz_wJ (s : aS) (a k : Nat) (v : Int64) : aSz (wJ s a k v) = aSz s := rfl
set_option maxRecDepth 100000 in
theorem aSz_csE (xs : List Int32) : aSz (csE xs) ≤ xs.length + 30000 := by
  obtain ⟨h1, h2, h3, -, -, -, h7, -⟩ := caE xs
  have hL : sL (csE []) = 149 := by decide +kernel
  have hz : aSz (csE []) ≤ 30000 := by decide +kernel
  unfold aSz at hz ⊢
  rw [h1, hL, show (149 : Nat) = 148 + 1 from rfl, List.range_succ_eq_map, List.map_cons, List.sum_cons]
  rw [hL, show (149 : Nat) = 148 + 1 from rfl, List.range_succ_eq_map, List.map_cons, List.sum_cons] at hz
  have e : ((List.range 148).map Nat.succ).map (fun a => if 80 ≤ (sT (csE xs) a).1 ∧ (sT (csE xs) a).1 < 100 then 6 else (sT (csE xs) a).2) = ((List.range 148).map Nat.succ).map (fun a => if 80 ≤ (sT (csE []) a).1 ∧ (sT (csE []) a).1 < 100 then 6 else (sT (csE []) a).2) := by
    refine List.map_congr_left fun a ha => ?_
    obtain ⟨j, -, rfl⟩ := List.mem_map.mp ha
    rw [h3 (Nat.succ j) (Nat.succ_ne_zero j)]
  rw [e, h7 0 (by decide)]
  have : (if 80 ≤ (zTt0 xs.length 0).1 ∧ (zTt0 xs.length 0).1 < 100 then 6 else (zTt0 xs.length 0).2) = xs.length := rfl
  rw [this]
  omega
end
section
/-! type: the bytes of a word, in the one way and in the other -/
set_option maxRecDepth 100000 in
theorem ush {x : Int32} {a : UInt32} {b : Int32} {k : Nat} (hk : k ≤ 24) (ha : a.toNat = k) (hb : (b.toBitVec.smod 32).toNat = k) : ((x.toUInt32 >>> a).toInt32) &&& 255 = (x >>> b) &&& 255 := by
  apply Int32.toBitVec_inj.mp
  show (x.toBitVec >>> (a.toBitVec % 32)) &&& 255#32 = (BitVec.sshiftRight' x.toBitVec (b.toBitVec.smod 32)) &&& 255#32
  have h1 : (a.toBitVec % 32).toNat = k := by
    rw [BitVec.toNat_umod]
    show a.toNat % 32 = k
    omega
  rw [BitVec.ushiftRight_eq', BitVec.sshiftRight', h1, hb]
  generalize x.toBitVec = v
  ext i hi
  simp only [BitVec.getElem_and, BitVec.getElem_ushiftRight, BitVec.getElem_sshiftRight]
  by_cases h8 : i < 8
  · have : k + i < 32 := by omega
    simp [this]
  · have : (255#32)[i] = false := by
      rw [BitVec.getElem_eq_testBit_toNat]
      exact Nat.testBit_lt_two_pow (Nat.lt_of_lt_of_le (by decide : 255 < 2 ^ 8) (Nat.pow_le_pow_right (by decide) (by omega)))
    rw [this]
    simp
set_option maxRecDepth 100000 in
theorem and255 (x : Int32) : 0 ≤ (x &&& 255).toInt ∧ (x &&& 255).toInt ≤ 255 := by
  have h : (x &&& 255).toBitVec.toNat ≤ 255 := by
    show (x.toBitVec &&& 255#32).toNat ≤ 255
    rw [BitVec.toNat_and]
    exact Nat.and_le_right
  have e : (x &&& 255).toInt = ((x &&& 255).toBitVec.toNat : Int) := by
    show (x &&& 255).toBitVec.toInt = _
    rw [BitVec.toInt_eq_toNat_cond, if_pos (by omega)]
  omega
/-- a word's byte i -/
def by8 (x : Int32) (i : Nat) : Int32 := match i with
  | 0 => (x >>> 24) &&& 255
  | 1 => (x >>> 16) &&& 255
  | 2 => (x >>> 8) &&& 255
  | _ => (x >>> 0) &&& 255
set_option maxRecDepth 100000 in
theorem by8_r (x : Int32) (i : Nat) : 0 ≤ (by8 x i).toInt ∧ (by8 x i).toInt ≤ 255 := by
  unfold by8
  split <;> exact and255 _
set_option maxRecDepth 100000 in
/-- FormulaTrees' byte with x3 = 24 - 8 i -/
theorem byC0 (x : Int32) : ((x.toUInt32 >>> ((24 : Int32).toUInt32 &&& Int32.toUInt32 31)).toInt32) &&& 255 = by8 x 0 := ush (k := 24) (by decide) (by decide) (by decide)
set_option maxRecDepth 100000 in
theorem byC1 (x : Int32) : ((x.toUInt32 >>> ((16 : Int32).toUInt32 &&& Int32.toUInt32 31)).toInt32) &&& 255 = by8 x 1 := ush (k := 16) (by decide) (by decide) (by decide)
set_option maxRecDepth 100000 in
theorem byC2 (x : Int32) : ((x.toUInt32 >>> ((8 : Int32).toUInt32 &&& Int32.toUInt32 31)).toInt32) &&& 255 = by8 x 2 := ush (k := 8) (by decide) (by decide) (by decide)
set_option maxRecDepth 100000 in
theorem byC3 (x : Int32) : ((x.toUInt32 >>> ((0 : Int32).toUInt32 &&& Int32.toUInt32 31)).toInt32) &&& 255 = by8 x 3 := ush (k := 0) (by decide) (by decide) (by decide)
/-- is byte b one that may not be typed -/
abbrev badB (b : Int32) : Prop := ¬ b = 0 ∧ (b < 32 ∨ 126 < b)
/-- one that is not nothing -/
def one8 (b : Int32) : Nat := if b = 0 then 0 else 1
/-- are bytes i .. 3 all right, and how many are there -/
def okF (x : Int32) : Nat → Nat → Prop
  | 0, _ => True
  | n + 1, i => ¬ badB (by8 x i) ∧ okF x n (i + 1)
def cnF (x : Int32) : Nat → Nat → Nat
  | 0, _ => 0
  | n + 1, i => one8 (by8 x i) + cnF x n (i + 1)
set_option maxRecDepth 100000 in
theorem cnF_le (x : Int32) : ∀ n i, cnF x n i ≤ n
  | 0, _ => Nat.le_refl _
  | n + 1, i => by
    have := cnF_le x n (i + 1)
    have : one8 (by8 x i) ≤ 1 := by unfold one8; split <;> decide
    show one8 (by8 x i) + cnF x n (i + 1) ≤ n + 1
    omega
set_option maxRecDepth 100000 in
/-- one round of FormulaTrees' first loop -/
theorem d27_step {n : Nat} {x c y : Int32} {s : aS} {b : Int32} (hy : ¬ y < 0) (hb : ((x.toUInt32 >>> (y.toUInt32 &&& Int32.toUInt32 31)).toInt32) &&& 255 = b) : dm27_4 (n + 1) x c y s = if badB b then some (.inr 0, nw s 80 0) else dm27_4 n x (c + (if b = 0 then 0 else 1)) (y + (-8)) s := by
  rw [dm27_4, if_neg hy, hb]
  unfold dm27_25 dm27_31 dm27_20
  have hd : (126 < b) = ¬ b ≤ 126 := by rw [iLt, iLe]; exact propext (by omega)
  by_cases h0 : b = 0
  · simp [h0]
  · by_cases h1 : b < 32
    · simp [h0, h1]
    · by_cases h2 : b ≤ 126
      · simp [h0, h1, h2, hd]
      · simp [h0, h1, h2, hd]
set_option maxRecDepth 100000 in
theorem nonneg_nat {x : Int32} (h : 0 ≤ x.toInt) : (x.toBitVec.toNat : Int) = x.toInt := by
  show _ = x.toBitVec.toInt
  rw [BitVec.toInt_eq_toNat_cond]
  split
  · rfl
  · rename_i hh
    have : x.toBitVec.toInt = x.toInt := rfl
    rw [← this, BitVec.toInt_eq_toNat_cond, if_neg hh] at h
    have := x.toBitVec.isLt
    omega
set_option maxRecDepth 100000 in
theorem i2c_id {x : Int32} (h : 0 ≤ x.toInt ∧ x.toInt ≤ 65535) : (x.toUInt32 % 65536).toInt32 = x := by
  have hn := nonneg_nat h.1
  apply Int32.toBitVec_inj.mp
  apply BitVec.eq_of_toNat_eq
  show (x.toBitVec % 65536#32).toNat = _
  rw [BitVec.toNat_umod]
  show x.toBitVec.toNat % 65536 = _
  omega
set_option maxRecDepth 100000 in
theorem nC_id {x : Int32} (h : 0 ≤ x.toInt ∧ x.toInt ≤ 65535) : nC x = x := by
  have hn := nonneg_nat h.1
  unfold nC
  apply Int32.toBitVec_inj.mp
  apply BitVec.eq_of_toNat_eq
  show ((x.toBitVec.setWidth 16).setWidth 32).toNat = _
  rw [BitVec.toNat_setWidth, BitVec.toNat_setWidth]
  omega
set_option maxRecDepth 100000 in
/-- a letter put behind letters that lie at b with room b + 1 -/
theorem d29 {b m : Nat} {x : Int32} {s : aS} (hx : 0 ≤ x.toInt ∧ x.toInt ≤ 65535) (hT : (sT s (b + 1)).2 = m) (hm : m < 2147483648) (h0 : 0 ≤ (sI s b 1).toInt) (h1 : (sI s b 1).toInt < m) : dm29 b x s = some (wI (wI s (b + 1) (sI s b 1).toInt.toNat x) b 1 (sI s b 1 + 1)) := by
  unfold dm29
  rw [hT, if_neg (by rw [iLe, iOfNat hm]; omega), if_pos (aB_iff.mpr ⟨h0, h1⟩)]
  rw [i2c_id hx, nC_id hx]
  simp only [nx_eq, sI_wI, jN_eq]
  rw [if_neg (by omega)]
end
section
/-! a new object: each call, with no sheets, no formulas and no text -/
def Fr (s : aS) : Prop := sI s 79 1 = 0 ∧ sI s 81 2 = 0 ∧ (∀ k, k < 8 → sI s 101 k = -1) ∧ sI s 121 1 = 0 ∧ sI s 121 3 = 0 ∧ ∀ k, k < 8 → sI s 125 k = 0
set_option maxRecDepth 100000 in
theorem Fr.c1 {s : aS} (h : Fr s) : sI s 79 1 = 0 := h.1
set_option maxRecDepth 100000 in
theorem Fr.c2 {s : aS} (h : Fr s) : sI s 81 2 = 0 := h.2.1
set_option maxRecDepth 100000 in
theorem Fr.c3 {s : aS} (h : Fr s) : ∀ k, k < 8 → sI s 101 k = -1 := h.2.2.1
set_option maxRecDepth 100000 in
theorem Fr.m1 {s : aS} (h : Fr s) : sI s 121 1 = 0 := h.2.2.2.1
set_option maxRecDepth 100000 in
theorem Fr.m3 {s : aS} (h : Fr s) : sI s 121 3 = 0 := h.2.2.2.2.1
set_option maxRecDepth 100000 in
theorem Fr.m5 {s : aS} (h : Fr s) : ∀ k, k < 8 → sI s 125 k = 0 := h.2.2.2.2.2
set_option maxRecDepth 100000 in
theorem i_ge {x : Int32} (h : ¬ x < 0) : (0 : Int32) ≤ x := by rw [iLe]; rw [iLt] at h; show (0 : Int) ≤ _; have : ¬ x.toInt < 0 := h; omega
set_option maxRecDepth 100000 in
theorem f40 {s : aS} (h : Fr s) (x : Int32) : dm40 x s = some 0 := by
  unfold dm40
  by_cases h0 : x < 0
  · rw [if_pos h0]
  · rw [if_neg h0, h.c2, if_pos (i_ge h0)]
set_option maxRecDepth 100000 in
theorem f54 {s : aS} (h : Fr s) (x : Int32) : dm54 x s = some .null := by
  unfold dm54 dm55
  by_cases h0 : x < 0
  · simp [h0, bu_some, bv_some, nx_eq, vN_null, zN_l, zN_r, vI_int, vV_none, sI_wI]
  · by_cases h1 : 8 ≤ x
    · simp [h0, h1, bu_some, bv_some, nx_eq, vN_null, zN_l, zN_r, vI_int, vV_none, sI_wI]
    · have hb : aB x 8 := by
        rw [aB_iff]
        rw [iLe] at h1
        rw [iLt] at h0
        have h0 : ¬ x.toInt < 0 := h0
        have h1 : ¬ (8 : Int) ≤ x.toInt := h1
        omega
      have hk : sI s 101 (jN x) = -1 := h.c3 _ hb.2
      rw [if_neg h0, if_neg h1]
      simp only [bu_some]
      rw [if_neg (by decide), if_pos hb, if_pos hk]
set_option maxRecDepth 100000 in
theorem f3 {s : aS} (h : Fr s) (x : Int32) : dm3 x s = some (1, nw s 82 0) := by
  unfold dm3 dm51
  rw [f40 h]
  rfl
set_option maxRecDepth 100000 in
theorem f4 {s : aS} (h : Fr s) (x : Int32) : dm4 x s = some (1, nw s 82 0) := by
  unfold dm4 dm52
  rw [f40 h]
  rfl
set_option maxRecDepth 100000 in
theorem f5 {s : aS} (h : Fr s) (x y : Int32) : dm5 x y s = some (1, nw s 82 0) := by
  unfold dm5 dm62 dm55
  rw [f40 h]
  by_cases h0 : x < 0
  · rw [if_pos h0]; rfl
  · by_cases h1 : 8 ≤ x
    · rw [if_neg h0, if_pos h1]; rfl
    · rw [if_neg h0, if_neg h1]; rfl
set_option maxRecDepth 100000 in
theorem f6 {s : aS} (h : Fr s) (x y z u v : Int32) : dm6 x y z u v s = some (1, nw s 82 0) := by
  unfold dm6 dm125
  rw [f54 h]
  simp only [bu_some, vN_null]
  unfold dm55
  by_cases h0 : v < 0
  · rw [if_pos h0]; rfl
  · by_cases h1 : 8 ≤ v
    · rw [if_neg h0, if_pos h1]; rfl
    · rw [if_neg h0, if_neg h1]; rfl
set_option maxRecDepth 100000 in
theorem f7 {s : aS} (h : Fr s) (x y z u : Int32) : dm7 x y z u s = some (1, nw s 82 0) := by
  unfold dm7 dm133
  rw [f40 h]
  rfl
set_option maxRecDepth 100000 in
theorem f8 {s : aS} (h : Fr s) (x : Int32) : dm8 x s = some (1, nw s 82 0) := by
  unfold dm8 dm137
  rw [f54 h]
  rfl
set_option maxRecDepth 100000 in
theorem f9 {s : aS} (h : Fr s) (x y : Int32) : dm9 x y s = some (1, nw s 82 0) := by
  unfold dm9 dm138
  rw [f54 h]
  rfl
set_option maxRecDepth 100000 in
theorem f10 {s : aS} (h : Fr s) (x : Int32) : dm10 x s = some (1, nw s 82 0) := by
  unfold dm10 dm159
  rw [f54 h]
  rfl
set_option maxRecDepth 100000 in
theorem f11 {s : aS} (h : Fr s) (x y z : Int32) : dm11 x y z s = some (1, nw s 82 0) := by
  unfold dm11 dm160
  rw [f54 h]
  rfl
set_option maxRecDepth 100000 in
theorem f12 {s : aS} (h : Fr s) (x y z : Int32) : dm12 x y z s = some (1, nw s 82 0) := by
  unfold dm12 dm162
  rw [f54 h]
  rfl
set_option maxRecDepth 100000 in
theorem f13 {s : aS} (h : Fr s) (x y : Int32) : dm13 x y s = some (1, nw s 82 0) := by
  unfold dm13 dm163
  rw [f54 h, f54 h]
  rfl
set_option maxRecDepth 100000 in
theorem f15 {s : aS} (h : Fr s) (x y : Int32) : dm15 x y s = some (1, nw s 82 0) := by
  unfold dm15 dm169
  rw [f40 h]
  rfl
set_option maxRecDepth 100000 in
theorem f2 {s : aS} (h : Fr s) : dm2 s = some (1, nw s 80 0) := by
  unfold dm2 dm30 dm31 dm32 dm36 dm28
  rw [dm32_2, h.c2, if_pos (by decide)]
  simp only [bu_some]
  rw [h.c1, if_pos (by decide)]
  unfold dm36_11 dm36_12
  rw [dm36_15, if_pos (by decide)]
  unfold dm36_33
  rfl
/-! the reference -/
set_option maxRecDepth 100000 in
theorem g181 {s : aS} (h : Fr s) (x : Int32) : dm181 x s = some 1 := by
  unfold dm181 dm181_6
  by_cases h0 : x < 0
  · rw [if_pos h0]
  · rw [if_neg h0, h.m3, if_neg h0]
set_option maxRecDepth 100000 in
theorem g175 {s : aS} (h : Fr s) : dm175 s = some 0 := by
  unfold dm175 dm175_23 dm175_24
  rw [h.m1, if_pos (by decide), dm175_27, h.m1, if_pos (by decide)]
  rfl
set_option maxRecDepth 100000 in
theorem g225 {s : aS} (h : Fr s) (x : Int32) : dm225 x s = some 1 := by
  unfold dm225 dm225_10
  by_cases h0 : x < 0
  · rw [if_pos h0]
  · by_cases h1 : 7 < x
    · rw [if_neg h0, if_pos h1]
    · have hb : aB x 8 := by
        rw [aB_iff]
        rw [iLt] at h0 h1
        have h0 : ¬ x.toInt < 0 := h0
        have h1 : ¬ (7 : Int) < x.toInt := h1
        omega
      rw [if_neg h0, if_neg h1, if_pos hb, h.m5 _ hb.2, if_pos rfl]
set_option maxRecDepth 100000 in
theorem g174 {s : aS} (h : Fr s) : dm174 s = some (0, wI s 121 0 1) := by
  unfold dm174 dm174_12 dm174_21
  rw [g175 h]
  simp [bu_some, bv_some, nx_eq, vN_null, zN_l, zN_r, vI_int, vV_none, sI_wI]
set_option maxRecDepth 100000 in
theorem g180 {s : aS} (h : Fr s) (x : Int32) : dm180 x s = some (wI s 121 0 1) := by
  unfold dm180 dm180_6 dm180_18 dm180_36
  rw [g175 h, g181 h]
  simp [bu_some, bv_some, nx_eq, vN_null, zN_l, zN_r, vI_int, vV_none, sI_wI]
set_option maxRecDepth 100000 in
theorem g182 {s : aS} (h : Fr s) (x : Int32) : dm182 x s = some (wI s 121 0 1) := by
  unfold dm182 dm182_8
  rw [g181 h]
  simp [bu_some, bv_some, nx_eq, vN_null, zN_l, zN_r, vI_int, vV_none, sI_wI]
set_option maxRecDepth 100000 in
theorem g184_13 {s : aS} (x y : Int32) : dm184_13 x y 1 s = some (0, wI s 121 0 1) := by
  unfold dm184_13
  rw [nx_eq]
  exact if_neg (show ¬ (1 : Int32) ≤ 0 by decide)
set_option maxRecDepth 100000 in
theorem g184 {s : aS} (h : Fr s) (x y : Int32) : dm184 x y s = some (0, wI s 121 0 1) := by
  unfold dm184 dm184_10
  rw [g181 h, g184_13]
  by_cases h0 : x < 0
  · rw [if_pos h0]
  · by_cases h1 : 7 < x
    · rw [if_neg h0, if_pos h1]
    · rw [if_neg h0, if_neg h1]
      rfl
set_option maxRecDepth 100000 in
theorem g224 {s : aS} (h : Fr s) (x y z u v : Int32) : dm224 x y z u v s = some (wI s 121 0 1) := by
  have e1 : dm224_30 x y z u v s = some (wI s 121 0 1) := by
    unfold dm224_30 dm224_37
    simp [bu_some, bv_some, nx_eq, vN_null, zN_l, zN_r, vI_int, vV_none, sI_wI]
  have e : ∀ w, dm224_15 x y z u v w s = some (wI s 121 0 1) := by
    intro w
    unfold dm224_15
    rw [g225 h]
    by_cases h0 : v < 0
    · rw [if_pos h0, e1]
    · by_cases h1 : 7 < v
      · rw [if_neg h0, if_pos h1, e1]
      · rw [if_neg h0, if_neg h1]
        simp only [bu_some]
        rw [if_neg (by decide), e1]
  unfold dm224 dm224_12
  simp only [e, ite_self]
set_option maxRecDepth 100000 in
theorem g228 {s : aS} (h : Fr s) (x y z u : Int32) : dm228 x y z u s = some (0, wI s 121 0 1) := by
  have e : ∀ w, dm228_5 x y z u w s = some (0, wI s 121 0 1) := by
    intro w
    unfold dm228_5
    rw [g181 h]
    unfold dm228_26
    simp [bu_some, bv_some, nx_eq, vN_null, zN_l, zN_r, vI_int, vV_none, sI_wI]
  unfold dm228
  simp only [e, ite_self]
set_option maxRecDepth 100000 in
theorem g231 {s : aS} (h : Fr s) (x : Int32) : dm231 x s = some (wI s 121 0 1) := by
  unfold dm231 dm231_8
  rw [g225 h]
  simp [bu_some, bv_some, nx_eq, vN_null, zN_l, zN_r, vI_int, vV_none, sI_wI]
set_option maxRecDepth 100000 in
theorem g232 {s : aS} (h : Fr s) (x y : Int32) : dm232 x y s = some (0, wI s 121 0 1) := by
  unfold dm232 dm232_8
  rw [g225 h]
  simp [bu_some, bv_some, nx_eq, vN_null, zN_l, zN_r, vI_int, vV_none, sI_wI]
set_option maxRecDepth 100000 in
theorem g243 {s : aS} (h : Fr s) (x : Int32) : dm243 x s = some (0, wI s 121 0 1) := by
  unfold dm243 dm243_8
  rw [g225 h]
  simp [bu_some, bv_some, nx_eq, vN_null, zN_l, zN_r, vI_int, vV_none, sI_wI]
set_option maxRecDepth 100000 in
theorem g244 {s : aS} (h : Fr s) (x y z : Int32) : dm244 x y z s = some (0, wI s 121 0 1) := by
  unfold dm244 dm244_13 dm244_23
  rw [g225 h]
  simp [bu_some, bv_some, nx_eq, vN_null, zN_l, zN_r, vI_int, vV_none, sI_wI]
set_option maxRecDepth 100000 in
theorem g246 {s : aS} (h : Fr s) (x y z : Int32) : dm246 x y z s = some (0, wI s 121 0 1) := by
  unfold dm246 dm246_13 dm246_16
  rw [g225 h]
  simp [bu_some, bv_some, nx_eq, vN_null, zN_l, zN_r, vI_int, vV_none, sI_wI]
set_option maxRecDepth 100000 in
theorem g248 {s : aS} (h : Fr s) (x y : Int32) : dm248 x y s = some (0, wI s 121 0 1) := by
  unfold dm248 dm248_9 dm248_12
  rw [g225 h, g225 h]
  simp [bu_some, bv_some, nx_eq, vN_null, zN_l, zN_r, vI_int, vV_none, sI_wI]
set_option maxRecDepth 100000 in
theorem g250 {s : aS} (h : Fr s) (x y : Int32) : dm250 x y s = some (0, wI s 121 0 1) := by
  unfold dm250 dm250_8
  rw [g181 h]
  simp [bu_some, bv_some, nx_eq, vN_null, zN_l, zN_r, vI_int, vV_none, sI_wI]
/-! count: 0 sheets, no formula, no homes -/
set_option maxRecDepth 100000 in
theorem f168 {s : aS} (h : Fr s) : dm168 s = some 0 := by
  have e : ∀ k, k < 8 → sI s 101 k = -1 := h.c3
  unfold dm168
  have st : ∀ (n : Nat) (i : Int32), aB i 8 → dm168_4 (n + 1) 0 i s = dm168_4 n 0 (i + 1) s := by
    intro n i hi
    have h8 : ¬ 8 ≤ i := by
      rw [iLe]
      have := aB_iff.mp hi
      show ¬ (8 : Int) ≤ _
      omega
    rw [dm168_4, if_neg h8, if_pos hi, e _ hi.2, if_pos rfl]
    rfl
  rw [st 4999 0 (by decide), st 4998 _ (by decide), st 4997 _ (by decide), st 4996 _ (by decide), st 4995 _ (by decide), st 4994 _ (by decide), st 4993 _ (by decide), st 4992 _ (by decide), dm168_4, if_pos (by decide)]
set_option maxRecDepth 100000 in
theorem g249_43 {s : aS} (h : Fr s) : dm249_43 5000 0 0 (wI s 121 0 0) = some (0, wI s 121 0 0) := by
  have e : ∀ k, k < 8 → sI (wI s 121 0 0) 125 k = 0 := h.m5
  have st : ∀ (n : Nat) (i : Int32), aB i 8 → dm249_43 (n + 1) 0 i (wI s 121 0 0) = dm249_43 n 0 (i + 1) (wI s 121 0 0) := by
    intro n i hi
    have h8 : ¬ 8 ≤ i := by
      rw [iLe]
      have := aB_iff.mp hi
      show ¬ (8 : Int) ≤ _
      omega
    rw [dm249_43, if_neg h8, if_pos hi, e _ hi.2, if_pos rfl]
    rfl
  rw [st 4999 0 (by decide), st 4998 _ (by decide), st 4997 _ (by decide), st 4996 _ (by decide), st 4995 _ (by decide), st 4994 _ (by decide), st 4993 _ (by decide), st 4992 _ (by decide), dm249_43, if_pos (by decide)]
set_option maxRecDepth 100000 in
theorem f14 {s : aS} (h : Fr s) (x : Int32) : (dm14 x s = some (1, nw s 80 0) ∧ ∀ s', Fr s' → dm249 x s' = some (0, wI s' 121 0 1)) ∨ ∃ r : Int32, dm14 x s = some (0, wJ s 148 0 r.toInt64) ∧ ∀ s', Fr s' → dm249 x s' = some (r, wI s' 121 0 0) := by
  by_cases h0 : x < 0
  · left
    refine ⟨?_, fun s' h' => ?_⟩
    · unfold dm14 dm166 dm166_5
      rw [if_pos h0]
      rfl
    · unfold dm249 dm249_6 dm249_9
      rw [if_pos h0]
      rfl
  · by_cases h9 : x ≤ 9
    · right
      by_cases hx0 : x = 0
      · subst hx0
        refine ⟨0, ?_, fun s' h' => ?_⟩
        · unfold dm14 dm166 dm167
          rw [if_neg (by decide), if_pos (by decide), if_pos rfl, h.c2]
          rfl
        · unfold dm249 dm249_9
          rw [if_neg (by decide), if_pos (by decide)]
          simp [bu_some, bv_some, nx_eq, vN_null, zN_l, zN_r, vI_int, vV_none, sI_wI, h'.m3]
      · by_cases hx1 : x = 1
        · subst hx1
          refine ⟨0, ?_, fun s' h' => ?_⟩
          · unfold dm14 dm166
            rw [if_neg (by decide), if_pos (by decide), if_neg (by decide), if_pos rfl, f168 h]
            rfl
          · unfold dm249 dm249_9
            rw [if_neg (by decide), if_pos (by decide)]
            simp only [nx_eq, sI_wI, and_self, if_true]
            rw [if_pos (by decide), if_neg (by decide), if_pos (by decide)]
            exact g249_43 h'
        · have hx : 2 ≤ x.toInt ∧ x.toInt ≤ 9 := by
            rw [iEq] at hx0 hx1
            rw [iLt] at h0
            rw [iLe] at h9
            have a1 : ¬ x.toInt < 0 := h0
            have a2 : x.toInt ≤ 9 := h9
            have a3 : ¬ x.toInt = 0 := hx0
            have a4 : ¬ x.toInt = 1 := hx1
            omega
          have hs : (x - 2).toInt = x.toInt - 2 := iSub (y := 2) (by show _ ≤ x.toInt - 2; omega) (by show x.toInt - 2 ≤ _; omega)
          have hb : aB (x - 2) 8 := by rw [aB_iff, hs]; omega
          refine ⟨-1, ?_, fun s' h' => ?_⟩
          · unfold dm14 dm166
            rw [if_neg h0, if_pos h9, if_neg hx0, if_neg hx1, if_pos hb, h.c3 _ hb.2]
            rfl
          · unfold dm249 dm249_9
            rw [if_neg h0, if_pos h9]
            simp only [nx_eq, sI_wI, and_self, if_true]
            have n1 : ¬ x ≤ 1 := by rw [iLe]; show ¬ x.toInt ≤ 1; omega
            rw [if_pos (by decide), if_neg hx0, if_neg n1, if_pos hb]
            simp [bu_some, bv_some, nx_eq, vN_null, zN_l, zN_r, vI_int, vV_none, sI_wI, h'.m5 _ hb.2]
    · left
      refine ⟨?_, fun s' h' => ?_⟩
      · unfold dm14 dm166 dm166_5
        rw [if_neg h0, if_neg h9]
        rfl
      · unfold dm249 dm249_6 dm249_9
        rw [if_neg h0, if_neg h9]
        rfl
end
section
/-! what changes: only the cells that A allows; and type as a whole -/
def ch (A : Nat → Nat → Prop) (s s' : aS) : Prop := sL s' = sL s ∧ (∀ a, sT s' a = sT s a) ∧ ∀ a k, ¬ A a k → sI s' a k = sI s a k ∧ sR s' a k = sR s a k ∧ sJ s' a k = sJ s a k
set_option maxRecDepth 100000 in
theorem ch.refl (A : Nat → Nat → Prop) (s : aS) : ch A s s := ⟨rfl, fun _ => rfl, fun _ _ _ => ⟨rfl, rfl, rfl⟩⟩
set_option maxRecDepth 100000 in
theorem ch.trans {A : Nat → Nat → Prop} {s s1 s2 : aS} (h : ch A s s1) (g : ch A s1 s2) : ch A s s2 := ⟨g.1.trans h.1, fun a => (g.2.1 a).trans (h.2.1 a), fun a k ha => ⟨(g.2.2 a k ha).1.trans (h.2.2 a k ha).1, (g.2.2 a k ha).2.1.trans (h.2.2 a k ha).2.1, (g.2.2 a k ha).2.2.trans (h.2.2 a k ha).2.2⟩⟩
set_option maxRecDepth 100000 in
theorem ch.mono {A B : Nat → Nat → Prop} {s s1 : aS} (h : ch A s s1) (hAB : ∀ a k, A a k → B a k) : ch B s s1 := ⟨h.1, h.2.1, fun a k ha => h.2.2 a k fun q => ha (hAB a k q)⟩
set_option maxRecDepth 100000 in
theorem ch.wI {A : Nat → Nat → Prop} {s s1 : aS} {a k : Nat} {v : Int32} (h : ch A s s1) (ha : A a k) : ch A s (wI s1 a k v) := ⟨h.1, h.2.1, fun b j hb => ⟨(if_neg (fun (e : b = a ∧ j = k) => hb (by rw [e.1, e.2]; exact ha))).trans (h.2.2 b j hb).1, (h.2.2 b j hb).2⟩⟩
set_option maxRecDepth 100000 in
theorem ch.wR {A : Nat → Nat → Prop} {s s1 : aS} {a k : Nat} {v : Value} (h : ch A s s1) (ha : A a k) : ch A s (wR s1 a k v) := ⟨h.1, h.2.1, fun b j hb => ⟨(h.2.2 b j hb).1, (if_neg (fun (e : b = a ∧ j = k) => hb (by rw [e.1, e.2]; exact ha))).trans (h.2.2 b j hb).2.1, (h.2.2 b j hb).2.2⟩⟩
set_option maxRecDepth 100000 in
theorem ch.i {A : Nat → Nat → Prop} {s s1 : aS} (h : ch A s s1) {a k : Nat} (ha : ¬ A a k) : sI s1 a k = sI s a k := (h.2.2 a k ha).1
/-- letters at b, in the room b + 1 -/
def LT (s : aS) (b : Nat) (t : List Int32) : Prop := sI s b 1 = Int32.ofNat t.length ∧ ∀ j (h : j < t.length), sI s (b + 1) j = t[j]
set_option maxRecDepth 100000 in
theorem LT.n {s : aS} {b : Nat} {t : List Int32} (h : LT s b t) : sI s b 1 = Int32.ofNat t.length := h.1
set_option maxRecDepth 100000 in
theorem LT.c {s : aS} {b : Nat} {t : List Int32} (h : LT s b t) : ∀ j (h : j < t.length), sI s (b + 1) j = t[j] := h.2
set_option maxRecDepth 100000 in
theorem LT.of {A : Nat → Nat → Prop} {s s1 : aS} {b : Nat} {t : List Int32} (h : LT s b t) (g : ch A s s1) (h1 : ¬ A b 1) (h2 : ∀ j, ¬ A (b + 1) j) : LT s1 b t := ⟨(g.i h1).trans h.n, fun j hj => (g.i (h2 j)).trans (h.c j hj)⟩
set_option maxRecDepth 100000 in
theorem ofNat_succ {n : Nat} (h : n < 2147483647) : Int32.ofNat n + 1 = Int32.ofNat (n + 1) := by
  apply Int32.toInt_inj.mp
  rw [iAdd (y := 1) (by rw [iOfNat (by omega)]; show _ ≤ (n : Int) + 1; omega) (by rw [iOfNat (by omega)]; show (n : Int) + 1 ≤ _; omega), iOfNat (by omega), iOfNat (by omega)]
  show (n : Int) + 1 = ((n + 1 : Nat) : Int)
  omega
set_option maxRecDepth 100000 in
theorem LT.add {s : aS} {b m : Nat} {t : List Int32} {x : Int32} (h : LT s b t) (hT : (sT s (b + 1)).2 = m) (hm : m < 2147483647) (hl : t.length < m) (hx : 0 ≤ x.toInt ∧ x.toInt ≤ 65535) : ∃ s', dm29 b x s = some s' ∧ LT s' b (t ++ [x]) ∧ ch (fun a k => (a = b ∧ k = 1) ∨ a = b + 1) s s' := by
  have hn : (sI s b 1).toInt = t.length := by rw [h.n, iOfNat (by omega)]
  refine ⟨_, d29 hx hT (by omega) (by omega) (by omega), ⟨?_, fun j hj => ?_⟩, ((ch.refl _ s).wI (Or.inr rfl)).wI (Or.inl ⟨rfl, rfl⟩)⟩
  · rw [sI_wI, if_pos ⟨rfl, rfl⟩, h.n, ofNat_succ (by omega), List.length_append]
    rfl
  · rw [sI_wI, if_neg (by omega), sI_wI, hn]
    rw [List.length_append] at hj
    have hj : j < t.length + 1 := hj
    by_cases e : j = t.length
    · rw [if_pos ⟨rfl, by omega⟩]
      subst e
      rw [List.getElem_append_right (Nat.le_refl _)]
      simp
    · rw [if_neg (by omega), h.c j (by omega), List.getElem_append_left]
/-- the bytes of a word from i on that are not nothing -/
def nzF (x : Int32) : Nat → Nat → List Int32
  | 0, _ => []
  | n + 1, i => (if by8 x i = 0 then [] else [by8 x i]) ++ nzF x n (i + 1)
set_option maxRecDepth 100000 in
theorem nzF_len (x : Int32) : ∀ n i, (nzF x n i).length = cnF x n i
  | 0, _ => rfl
  | n + 1, i => by
    show ((if by8 x i = 0 then [] else [by8 x i]) ++ nzF x n (i + 1)).length = one8 (by8 x i) + cnF x n (i + 1)
    rw [List.length_append, nzF_len x n (i + 1)]
    unfold one8
    split <;> rfl
/-- a text's characters -/
def okT (t : List Int32) : Prop := ∀ x ∈ t, 32 ≤ x.toInt ∧ x.toInt ≤ 126
set_option maxRecDepth 100000 in
theorem nzF_ok (x : Int32) : ∀ n i, okF x n i → okT (nzF x n i)
  | 0, _, _ => fun x hx => by cases hx
  | n + 1, i, h => by
    obtain ⟨h1, h2⟩ := h
    intro y hy
    rcases List.mem_append.mp hy with hy | hy
    · split at hy
      · cases hy
      · rename_i h0
        have e : y = by8 x i := List.mem_singleton.mp hy
        subst e
        have a1 : ¬ by8 x i < 32 := fun q => h1 ⟨h0, Or.inl q⟩
        have a2 : ¬ 126 < by8 x i := fun q => h1 ⟨h0, Or.inr q⟩
        rw [iLt] at a1 a2
        have a1 : ¬ (by8 x i).toInt < 32 := a1
        have a2 : ¬ (126 : Int) < (by8 x i).toInt := a2
        omega
    · exact nzF_ok x n (i + 1) h2 y hy
set_option maxRecDepth 100000 in
/-- FormulaTrees' second loop: one round -/
theorem d27b {n : Nat} {x y b : Int32} {s : aS} (hy : ¬ y < 0) (hb : ((x.toUInt32 >>> (y.toUInt32 &&& Int32.toUInt32 31)).toInt32) &&& 255 = b) : dm27_49 (n + 1) x y s = if b = 0 then dm27_49 n x (y + (-8)) s else bu (dm29 79 b s) fun s8 => dm27_49 n x (y + (-8)) s8 := by
  rw [dm27_49, if_neg hy, hb]
  rfl
set_option maxRecDepth 100000 in
theorem d27c {n : Nat} {x y : Int32} {i m : Nat} {s : aS} {t : List Int32} (h : LT s 79 t) (hT : (sT s 80).2 = 256) (hy : ¬ y < 0) (hb : ((x.toUInt32 >>> (y.toUInt32 &&& Int32.toUInt32 31)).toInt32) &&& 255 = by8 x i) (hl : (t ++ nzF x (m + 1) i).length ≤ 256) : ∃ s' t', dm27_49 (n + 1) x y s = dm27_49 n x (y + (-8)) s' ∧ LT s' 79 t' ∧ (sT s' 80).2 = 256 ∧ ch (fun a k => (a = 79 ∧ k = 1) ∨ a = 79 + 1) s s' ∧ t' ++ nzF x m (i + 1) = t ++ nzF x (m + 1) i := by
  rw [d27b hy hb]
  by_cases h0 : by8 x i = 0
  · refine ⟨s, t, by rw [if_pos h0], h, hT, ch.refl _ s, ?_⟩
    show _ = t ++ ((if by8 x i = 0 then [] else [by8 x i]) ++ nzF x m (i + 1))
    rw [if_pos h0]
    rfl
  · have e : t ++ nzF x (m + 1) i = (t ++ [by8 x i]) ++ nzF x m (i + 1) := by
      show t ++ ((if by8 x i = 0 then [] else [by8 x i]) ++ nzF x m (i + 1)) = _
      rw [if_neg h0, List.append_assoc]
    have hb8 := by8_r x i
    obtain ⟨s', g1, g2, g3⟩ := h.add (m := 256) hT (by decide) (by rw [e] at hl; simp only [List.length_append, List.length_cons, List.length_nil] at hl; omega) (x := by8 x i) ⟨hb8.1, by omega⟩
    refine ⟨s', t ++ [by8 x i], by rw [if_neg h0, g1]; rfl, g2, by rw [g3.2.1]; exact hT, g3, e.symm⟩
set_option maxRecDepth 100000 in
/-- FormulaTrees' first loop, with the count as a number -/
theorem d27s {n k : Nat} {x y : Int32} {s : aS} {b : Int32} (hk : k < 1000) (hy : ¬ y < 0) (hb : ((x.toUInt32 >>> (y.toUInt32 &&& Int32.toUInt32 31)).toInt32) &&& 255 = b) (hn : ¬ badB b) : dm27_4 (n + 1) x (Int32.ofNat k) y s = dm27_4 n x (Int32.ofNat (k + one8 b)) (y + (-8)) s := by
  rw [d27_step hy hb, if_neg hn]
  have e : Int32.ofNat k + (if b = 0 then 0 else 1) = Int32.ofNat (k + one8 b) := by
    unfold one8
    by_cases h0 : b = 0
    · rw [if_pos h0, if_pos h0]
      apply Int32.toInt_inj.mp
      rw [iAdd (y := 0) (by rw [iOfNat (by omega)]; show _ ≤ (k : Int) + 0; omega) (by rw [iOfNat (by omega)]; show (k : Int) + 0 ≤ _; omega), iOfNat (by omega), iOfNat (by omega)]
      show (k : Int) + 0 = ((k + 0 : Nat) : Int)
      omega
    · rw [if_neg h0, if_neg h0]
      exact ofNat_succ (by omega)
  rw [e]
set_option maxRecDepth 100000 in
theorem t27a (x : Int32) (s : aS) : (okF x 4 0 ∧ dm27 x s = dm27_4 4996 x (Int32.ofNat (cnF x 4 0)) (-8) s) ∨ (¬ okF x 4 0 ∧ dm27 x s = some (.inr 0, nw s 80 0)) := by
  unfold dm27
  have z : (0 : Int32) = Int32.ofNat 0 := rfl
  have y1 : (24 : Int32) + (-8) = 16 := by decide
  have y2 : (16 : Int32) + (-8) = 8 := by decide
  have y3 : (8 : Int32) + (-8) = 0 := by decide
  have y4 : (0 : Int32) + (-8) = -8 := by decide
  have o1 : ∀ i, one8 (by8 x i) ≤ 1 := fun i => by unfold one8; split <;> decide
  by_cases b0 : badB (by8 x 0)
  · exact Or.inr ⟨fun h => h.1 b0, by rw [d27_step (n := 4999) (by decide) (byC0 x), if_pos b0]⟩
  · by_cases b1 : badB (by8 x 1)
    · refine Or.inr ⟨fun h => h.2.1 b1, ?_⟩
      rw [z, d27s (n := 4999) (by decide) (by decide) (byC0 x) b0, y1, d27_step (n := 4998) (by decide) (byC1 x), if_pos b1]
    · by_cases b2 : badB (by8 x 2)
      · refine Or.inr ⟨fun h => h.2.2.1 b2, ?_⟩
        rw [z, d27s (n := 4999) (by decide) (by decide) (byC0 x) b0, y1, d27s (n := 4998) (by have := o1 0; omega) (by decide) (byC1 x) b1, y2, d27_step (n := 4997) (by decide) (byC2 x), if_pos b2]
      · by_cases b3 : badB (by8 x 3)
        · refine Or.inr ⟨fun h => h.2.2.2.1 b3, ?_⟩
          rw [z, d27s (n := 4999) (by decide) (by decide) (byC0 x) b0, y1, d27s (n := 4998) (by have := o1 0; omega) (by decide) (byC1 x) b1, y2, d27s (n := 4997) (by have := o1 0; have := o1 1; omega) (by decide) (byC2 x) b2, y3, d27_step (n := 4996) (by decide) (byC3 x), if_pos b3]
        · refine Or.inl ⟨⟨b0, b1, b2, b3, trivial⟩, ?_⟩
          rw [z, d27s (n := 4999) (by decide) (by decide) (byC0 x) b0, y1, d27s (n := 4998) (by have := o1 0; omega) (by decide) (byC1 x) b1, y2, d27s (n := 4997) (by have := o1 0; have := o1 1; omega) (by decide) (byC2 x) b2, y3, d27s (n := 4996) (by have := o1 0; have := o1 1; have := o1 2; omega) (by decide) (byC3 x) b3, y4]
          have : 0 + one8 (by8 x 0) + one8 (by8 x 1) + one8 (by8 x 2) + one8 (by8 x 3) = cnF x 4 0 := by
            show _ = one8 (by8 x 0) + (one8 (by8 x 1) + (one8 (by8 x 2) + (one8 (by8 x 3) + 0)))
            omega
          rw [this]
set_option maxRecDepth 100000 in
/-- a text with what is typed behind it -/
theorem t27 {x : Int32} {s : aS} {t : List Int32} (h : LT s 79 t) (hT : (sT s 80).2 = 256) (hl : t.length ≤ 256) :
    (¬ okF x 4 0 ∧ dm27 x s = some (.inr 0, nw s 80 0)) ∨
    (okF x 4 0 ∧ 256 < t.length + cnF x 4 0 ∧ dm27 x s = some (.inr 1, nw s 81 0)) ∨
    (okF x 4 0 ∧ t.length + cnF x 4 0 ≤ 256 ∧ ∃ s', dm27 x s = some (.inl (some (.int (Int32.ofNat (t ++ nzF x 4 0).length))), s') ∧ LT s' 79 (t ++ nzF x 4 0) ∧ ch (fun a k => (a = 79 ∧ k = 1) ∨ a = 79 + 1) s s') := by
  rcases t27a x s with ⟨ho, e⟩ | ⟨ho, e⟩
  · right
    have hc := cnF_le x 4 0
    have hle : Int32.ofNat t.length + Int32.ofNat (cnF x 4 0) ≤ 256 ↔ t.length + cnF x 4 0 ≤ 256 := by
      have e1 : (Int32.ofNat t.length).toInt = t.length := iOfNat (by omega)
      have e2 : (Int32.ofNat (cnF x 4 0)).toInt = cnF x 4 0 := iOfNat (by omega)
      rw [iLe, iAdd (by omega) (by omega), e1, e2]
      show (t.length : Int) + (cnF x 4 0 : Int) ≤ 256 ↔ _
      omega
    rw [e, dm27_4, if_pos (by decide)]
    unfold dm28
    simp only [bu_some]
    rw [h.n]
    by_cases hb : t.length + cnF x 4 0 ≤ 256
    · right
      refine ⟨ho, hb, ?_⟩
      rw [if_pos (hle.mpr hb)]
      have hL : (t ++ nzF x 4 0).length ≤ 256 := by rw [List.length_append, nzF_len]; exact hb
      obtain ⟨s1, t1, a1, a2, a3, a4, a5⟩ := d27c (n := 4999) (i := 0) (m := 3) h hT (y := 24) (by decide) (byC0 x) hL
      obtain ⟨s2, t2, b1, b2, b3, b4, b5⟩ := d27c (n := 4998) (i := 1) (m := 2) a2 a3 (y := 16) (by decide) (byC1 x) (by rw [a5]; exact hL)
      obtain ⟨s3, t3, c1, c2, c3, c4, c5⟩ := d27c (n := 4997) (i := 2) (m := 1) b2 b3 (y := 8) (by decide) (byC2 x) (by rw [b5, a5]; exact hL)
      obtain ⟨s4, t4, d1, d2, d3, d4, d5⟩ := d27c (n := 4996) (i := 3) (m := 0) c2 c3 (y := 0) (by decide) (byC3 x) (by rw [c5, b5, a5]; exact hL)
      have et : t4 = t ++ nzF x 4 0 := by
        rw [← a5, ← b5, ← c5, ← d5]
        exact (List.append_nil t4).symm
      refine ⟨s4, ?_, et ▸ d2, ((a4.trans b4).trans c4).trans d4⟩
      rw [a1, show (24 : Int32) + (-8) = 16 by decide, b1, show (16 : Int32) + (-8) = 8 by decide, c1, show (8 : Int32) + (-8) = 0 by decide, d1, show (0 : Int32) + (-8) = -8 by decide, dm27_49, if_pos (by decide)]
      unfold dm28
      simp only [bu_some]
      rw [d2.n, et]
    · left
      refine ⟨ho, by omega, ?_⟩
      rw [if_neg (fun q => hb (hle.mp q))]
  · exact Or.inl ⟨ho, e⟩
end
section
/-! the reference's type -/
def MT (s : aS) (t : List Int32) : Prop := sI s 121 1 = Int32.ofNat t.length ∧ ∀ j (h : j < t.length), sI s 122 j = t[j]
set_option maxRecDepth 100000 in
theorem MT.of {A : Nat → Nat → Prop} {s s1 : aS} {t : List Int32} (h : MT s t) (g : ch A s s1) (h1 : ¬ A 121 1) (h2 : ∀ j, ¬ A 122 j) : MT s1 t := ⟨(g.i h1).trans h.1, fun j hj => (g.i (h2 j)).trans (h.2 j hj)⟩
set_option maxRecDepth 100000 in
theorem byM0 (x : Int32) : (x >>> ((24 - (8 * (0 : Int32))) &&& 31)) &&& 255 = by8 x 0 := by
  rw [show ((24 - (8 * (0 : Int32))) &&& 31 : Int32) = 24 by decide]
  rfl
set_option maxRecDepth 100000 in
theorem byM1 (x : Int32) : (x >>> ((24 - (8 * (1 : Int32))) &&& 31)) &&& 255 = by8 x 1 := by
  rw [show ((24 - (8 * (1 : Int32))) &&& 31 : Int32) = 16 by decide]
  rfl
set_option maxRecDepth 100000 in
theorem byM2 (x : Int32) : (x >>> ((24 - (8 * (2 : Int32))) &&& 31)) &&& 255 = by8 x 2 := by
  rw [show ((24 - (8 * (2 : Int32))) &&& 31 : Int32) = 8 by decide]
  rfl
set_option maxRecDepth 100000 in
theorem byM3 (x : Int32) : (x >>> ((24 - (8 * (3 : Int32))) &&& 31)) &&& 255 = by8 x 3 := by
  rw [show ((24 - (8 * (3 : Int32))) &&& 31 : Int32) = 0 by decide]
  rfl
set_option maxRecDepth 100000 in
theorem le0_iff {b : Int32} (h : 0 ≤ b.toInt) : b ≤ 0 ↔ b = 0 := by
  rw [iLe, iEq]
  show b.toInt ≤ 0 ↔ b.toInt = 0
  omega
def nxF (f e : Int32) : Int32 := if f = 0 then e else 1
def bad8 (b : Int32) : Int32 := if badB b then 1 else 0
set_option maxRecDepth 100000 in
theorem d172s {n c : Nat} {x f i b : Int32} {s : aS} (hc : c < 1000) (hi : ¬ 4 ≤ i) (hb : ((x >>> ((24 - (8 * i)) &&& 31)) &&& 255) = b) (h0 : 0 ≤ b.toInt) : dm172_6 (n + 1) x (Int32.ofNat c) f i s = dm172_6 n x (Int32.ofNat (c + one8 b)) (nxF f (bad8 b)) (i + 1) s := by
  rw [dm172_6, if_neg hi, hb]
  unfold nxF bad8 dm172_26 dm172_39 dm172_37 dm172_40 one8
  have hz0 := le0_iff h0
  have hd : (126 < b) = ¬ b ≤ 126 := by rw [iLt, iLe]; exact propext (by omega)
  by_cases hz : b = 0
  · by_cases hf : f = 0
    · rw [if_pos (hz0.mpr hz), if_pos hf, if_pos (hz0.mpr hz), if_pos hz, if_pos hf, if_neg (fun q => q.1 hz)]
      rfl
    · rw [if_pos (hz0.mpr hz), if_neg hf, if_pos hz, if_neg hf]
      rfl
  · rw [if_neg (fun q => hz (hz0.mp q)), ofNat_succ (by omega), if_neg hz]
    by_cases hf : f = 0
    · rw [if_pos hf, if_neg (fun q => hz (hz0.mp q)), if_pos hf]
      by_cases h1 : b < 32
      · rw [if_pos h1, if_pos ⟨hz, Or.inl h1⟩]
      · by_cases h2 : b ≤ 126
        · rw [if_neg h1, if_pos h2, if_neg]
          rintro ⟨-, q | q⟩
          · exact h1 q
          · rw [hd] at q; exact q h2
        · rw [if_neg h1, if_neg h2, if_pos ⟨hz, Or.inr (by rw [hd]; exact h2)⟩]
    · rw [if_neg hf, if_neg hf]
set_option maxRecDepth 100000 in
theorem t172a (x : Int32) (s : aS) : (okF x 4 0 ∧ dm172 x s = dm172_6 4996 x (Int32.ofNat (cnF x 4 0)) 0 4 s) ∨ (¬ okF x 4 0 ∧ dm172 x s = dm172_6 4996 x (Int32.ofNat (cnF x 4 0)) 1 4 s) := by
  have z : (0 : Int32) = Int32.ofNat 0 := rfl
  have o1 : ∀ i, one8 (by8 x i) ≤ 1 := fun i => by unfold one8; split <;> decide
  have a0 := o1 0
  have a1 := o1 1
  have a2 := o1 2
  have hc : 0 + one8 (by8 x 0) + one8 (by8 x 1) + one8 (by8 x 2) + one8 (by8 x 3) = cnF x 4 0 := by
    show _ = one8 (by8 x 0) + (one8 (by8 x 1) + (one8 (by8 x 2) + (one8 (by8 x 3) + 0)))
    omega
  have E : dm172 x s = dm172_6 4996 x (Int32.ofNat (cnF x 4 0)) (nxF (nxF (nxF (nxF 0 (bad8 (by8 x 0))) (bad8 (by8 x 1))) (bad8 (by8 x 2))) (bad8 (by8 x 3))) 4 s := by
    have e1 : dm172_6 5000 x (Int32.ofNat 0) 0 0 s = _ := d172s (n := 4999) (by decide) (by decide) (byM0 x) (by8_r x 0).1
    have e2 := d172s (n := 4998) (c := 0 + one8 (by8 x 0)) (f := nxF 0 (bad8 (by8 x 0))) (s := s) (by omega) (by decide) (byM1 x) (by8_r x 1).1
    have e3 := d172s (n := 4997) (c := 0 + one8 (by8 x 0) + one8 (by8 x 1)) (f := nxF (nxF 0 (bad8 (by8 x 0))) (bad8 (by8 x 1))) (s := s) (by omega) (by decide) (byM2 x) (by8_r x 2).1
    have e4 := d172s (n := 4996) (c := 0 + one8 (by8 x 0) + one8 (by8 x 1) + one8 (by8 x 2)) (f := nxF (nxF (nxF 0 (bad8 (by8 x 0))) (bad8 (by8 x 1))) (bad8 (by8 x 2))) (s := s) (by omega) (by decide) (byM3 x) (by8_r x 3).1
    rw [show (3 : Int32) + 1 = 4 by decide, hc] at e4
    rw [show (2 : Int32) + 1 = 3 by decide] at e3
    rw [show (1 : Int32) + 1 = 2 by decide] at e2
    rw [show (0 : Int32) + 1 = 1 by decide] at e1
    exact e1.trans (e2.trans (e3.trans e4))
  have q : ∀ i, (¬ badB (by8 x i) ∧ bad8 (by8 x i) = 0) ∨ (badB (by8 x i) ∧ bad8 (by8 x i) = 1) := fun i => by
    by_cases hq : badB (by8 x i)
    · exact Or.inr ⟨hq, if_pos hq⟩
    · exact Or.inl ⟨hq, if_neg hq⟩
  rcases q 0 with ⟨b0, e0⟩ | ⟨b0, e0⟩ <;> rcases q 1 with ⟨b1, e1⟩ | ⟨b1, e1⟩ <;> rcases q 2 with ⟨b2, e2⟩ | ⟨b2, e2⟩ <;> rcases q 3 with ⟨b3, e3⟩ | ⟨b3, e3⟩ <;> rw [e0, e1, e2, e3] at E
  · exact Or.inl ⟨⟨b0, b1, b2, b3, trivial⟩, E⟩
  all_goals
    right
    refine ⟨?_, E⟩
    rintro ⟨h0, h1, h2, h3, -⟩
    first
      | exact h0 b0
      | exact h1 b1
      | exact h2 b2
      | exact h3 b3
set_option maxRecDepth 100000 in
/-- the reference's second loop: one round -/
theorem d172c {n m i : Nat} {x y : Int32} {s : aS} {t : List Int32} (h : MT s t) (hy : ¬ 4 ≤ y) (hb : ((x >>> ((24 - (8 * y)) &&& 31)) &&& 255) = by8 x i) (hl : (t ++ nzF x (m + 1) i).length ≤ 256) : ∃ s' t', dm172_65 (n + 1) x y s = dm172_65 n x (y + 1) s' ∧ MT s' t' ∧ ch (fun a k => (a = 121 ∧ k = 1) ∨ a = 122) s s' ∧ t' ++ nzF x m (i + 1) = t ++ nzF x (m + 1) i := by
  rw [dm172_65, if_neg hy, hb]
  have hz0 := le0_iff (by8_r x i).1
  unfold dm172_92
  by_cases h0 : by8 x i = 0
  · refine ⟨s, t, by rw [if_pos (hz0.mpr h0)], h, ch.refl _ s, ?_⟩
    show _ = t ++ ((if by8 x i = 0 then [] else [by8 x i]) ++ nzF x m (i + 1))
    rw [if_pos h0]
    rfl
  · have e : t ++ nzF x (m + 1) i = (t ++ [by8 x i]) ++ nzF x m (i + 1) := by
      show t ++ ((if by8 x i = 0 then [] else [by8 x i]) ++ nzF x m (i + 1)) = _
      rw [if_neg h0, List.append_assoc]
    have hl2 : t.length < 256 := by rw [e] at hl; simp only [List.length_append, List.length_cons, List.length_nil] at hl; omega
    have hn : (sI s 121 1).toInt = t.length := by rw [h.1, iOfNat (by omega)]
    refine ⟨_, t ++ [by8 x i], by rw [if_neg (fun q => h0 (hz0.mp q)), if_pos (aB_iff.mpr ⟨by omega, by omega⟩)]; rfl, ⟨?_, fun j hj => ?_⟩, ((ch.refl _ s).wI (Or.inr rfl)).wI (Or.inl ⟨rfl, rfl⟩), e.symm⟩
    · rw [sI_wI, if_pos ⟨rfl, rfl⟩, sI_wI, if_neg (by omega), h.1, ofNat_succ (by omega), List.length_append]
      rfl
    · rw [sI_wI, if_neg (by omega), sI_wI, jN_eq, hn]
      rw [List.length_append] at hj
      have hj : j < t.length + 1 := hj
      by_cases e : j = t.length
      · rw [if_pos ⟨rfl, by omega⟩]
        subst e
        rw [List.getElem_append_right (Nat.le_refl _)]
        simp
      · rw [if_neg (by omega), h.2 j (by omega), List.getElem_append_left]
set_option maxRecDepth 100000 in
theorem t172 {x : Int32} {s : aS} {t : List Int32} (h : MT s t) (hl : t.length ≤ 256) :
    (¬ okF x 4 0 ∧ dm172 x s = some (0, wI s 121 0 1)) ∨
    (okF x 4 0 ∧ 256 < t.length + cnF x 4 0 ∧ dm172 x s = some (0, wI s 121 0 2)) ∨
    (okF x 4 0 ∧ t.length + cnF x 4 0 ≤ 256 ∧ ∃ s', dm172 x s = some (Int32.ofNat (t ++ nzF x 4 0).length, s') ∧ MT s' (t ++ nzF x 4 0) ∧ sI s' 121 0 = 0 ∧ ch (fun a k => (a = 121 ∧ k < 2) ∨ a = 122) s s') := by
  rcases t172a x s with ⟨ho, e⟩ | ⟨ho, e⟩
  · right
    have hc := cnF_le x 4 0
    have hle : Int32.ofNat t.length + Int32.ofNat (cnF x 4 0) ≤ 256 ↔ t.length + cnF x 4 0 ≤ 256 := by
      have e1 : (Int32.ofNat t.length).toInt = t.length := iOfNat (by omega)
      have e2 : (Int32.ofNat (cnF x 4 0)).toInt = cnF x 4 0 := iOfNat (by omega)
      rw [iLe, iAdd (by omega) (by omega), e1, e2]
      show (t.length : Int) + (cnF x 4 0 : Int) ≤ 256 ↔ _
      omega
    rw [e, dm172_6, if_pos (by decide), if_pos rfl, h.1]
    unfold dm172_57
    by_cases hb : t.length + cnF x 4 0 ≤ 256
    · right
      refine ⟨ho, hb, ?_⟩
      rw [if_pos (hle.mpr hb)]
      have hL : (t ++ nzF x 4 0).length ≤ 256 := by rw [List.length_append, nzF_len]; exact hb
      have h1 : MT (wI s 121 0 0) t := ⟨h.1, h.2⟩
      obtain ⟨s1, t1, a1, a2, a4, a5⟩ := d172c (n := 4999) (i := 0) (m := 3) h1 (y := 0) (by decide) (byM0 x) hL
      obtain ⟨s2, t2, b1, b2, b4, b5⟩ := d172c (n := 4998) (i := 1) (m := 2) a2 (y := 1) (by decide) (byM1 x) (by rw [a5]; exact hL)
      obtain ⟨s3, t3, c1, c2, c4, c5⟩ := d172c (n := 4997) (i := 2) (m := 1) b2 (y := 2) (by decide) (byM2 x) (by rw [b5, a5]; exact hL)
      obtain ⟨s4, t4, d1, d2, d4, d5⟩ := d172c (n := 4996) (i := 3) (m := 0) c2 (y := 3) (by decide) (byM3 x) (by rw [c5, b5, a5]; exact hL)
      have et : t4 = t ++ nzF x 4 0 := by
        rw [← a5, ← b5, ← c5, ← d5]
        exact (List.append_nil t4).symm
      have hch := ((a4.trans b4).trans c4).trans d4
      refine ⟨s4, ?_, et ▸ d2, (hch.i (by omega)).trans rfl, (((ch.refl (fun a k => (a = 121 ∧ k < 2) ∨ a = 122) s).wI (Or.inl ⟨rfl, by omega⟩)).trans (hch.mono fun a k q => by omega))⟩
      rw [nx_eq, if_pos (show sI (wI s 121 0 0) 121 0 ≤ 0 from (by decide : (0 : Int32) ≤ 0))]
      rw [a1, show (0 : Int32) + 1 = 1 by decide, b1, show (1 : Int32) + 1 = 2 by decide, c1, show (2 : Int32) + 1 = 3 by decide, d1, show (3 : Int32) + 1 = 4 by decide, dm172_65, if_pos (by decide), d2.1, et]
    · left
      refine ⟨ho, by omega, ?_⟩
      rw [if_neg (fun q => hb (hle.mp q)), nx_eq]
      exact if_neg (show ¬ (2 : Int32) ≤ 0 by decide)
  · refine Or.inl ⟨ho, ?_⟩
    rw [e, dm172_6, if_pos (by decide), if_neg (by decide)]
    unfold dm172_57
    rw [nx_eq]
    exact if_neg (show ¬ (1 : Int32) ≤ 0 by decide)
end
section
/-! letters read, great letters, names compared -/
def gr (x : Int32) : Int32 := if x < 97 then x else if 122 < x then x else x - 32
set_option maxRecDepth 100000 in
theorem d178 (x : Int32) : dm178 x = some (gr x) := by
  unfold dm178 gr
  split
  · rfl
  · split <;> rfl
set_option maxRecDepth 100000 in
theorem d35 (x : Int32) : dm35 x = some (gr x) := by
  unfold dm35 gr
  have e : (x - 97) + 65 = x - 32 := by
    rw [Int32.sub_eq_add_neg, Int32.sub_eq_add_neg, Int32.add_assoc]
    rfl
  split
  · rfl
  · split
    · rfl
    · rw [e]
set_option maxRecDepth 100000 in
theorem d34 {s : aS} {b i : Nat} {t : List Int32} (h : LT s b t) (hT : t.length ≤ (sT s (b + 1)).2) (hm : t.length < 2147483648) (hi : i < 2147483648) : dm34 b (Int32.ofNat i) s = some (t.getD i (-1)) := by
  have e1 : (Int32.ofNat i).toInt = i := iOfNat hi
  have e2 : (Int32.ofNat t.length).toInt = t.length := iOfNat hm
  unfold dm34
  rw [if_neg (by rw [iLt, e1]; show ¬ (i : Int) < 0; omega), h.n]
  by_cases hl : t.length ≤ i
  · rw [if_pos (by rw [iLe, e1, e2]; omega)]
    simp [List.getD, List.getElem?_eq_none hl]
  · rw [if_neg (by rw [iLe, e1, e2]; omega), if_pos (by rw [aB_iff, e1]; omega), jN_eq, e1, h.c _ (by omega)]
    simp [List.getD, List.getElem?_eq_getElem (by omega : i < t.length)]
/-- the same letters, small and great ones being no matter -/
def lk (t u : List Int32) : Prop := t.map gr = u.map gr
set_option maxRecDepth 100000 in
theorem lk_dec (t u : List Int32) : lk t u ∨ ¬ lk t u := Classical.em _
set_option maxRecDepth 100000 in
noncomputable def b01 (p : Prop) : Int32 := @ite _ p (Classical.propDecidable p) 1 0
set_option maxRecDepth 100000 in
theorem b01_t {p : Prop} (h : p) : b01 p = 1 := by unfold b01; exact if_pos h
set_option maxRecDepth 100000 in
theorem b01_f {p : Prop} (h : ¬ p) : b01 p = 0 := by unfold b01; exact if_neg h
set_option maxRecDepth 100000 in
theorem b01_c {p q : Prop} (h : p ↔ q) : b01 p = b01 q := by rw [propext h]
set_option maxRecDepth 100000 in
theorem d33l {s : aS} {b c : Nat} {t u : List Int32} (h : LT s b t) (g : LT s c u) (hT : t.length ≤ (sT s (b + 1)).2) (hU : u.length ≤ (sT s (c + 1)).2) (he : t.length = u.length) (hm : t.length < 1000000) : ∀ (m i n : Nat), i + m = t.length → m < n → dm33_11 n b c 1 (Int32.ofNat i) s = some (b01 ((t.drop i).map gr = (u.drop i).map gr)) := by
  intro m
  induction m with
  | zero =>
    intro i n hi hn
    obtain ⟨n, rfl⟩ : ∃ k, n = k + 1 := ⟨n - 1, by omega⟩
    rw [dm33_11, h.n, if_pos (by rw [iLe, iOfNat (by omega), iOfNat (by omega)]; omega), if_pos (Or.inr rfl), b01_t]
    rw [List.drop_eq_nil_of_le (by omega), List.drop_eq_nil_of_le (by omega)]
  | succ m ih =>
    intro i n hi hn
    obtain ⟨n, rfl⟩ : ∃ k, n = k + 1 := ⟨n - 1, by omega⟩
    have h1 : i < t.length := by omega
    have h2 : i < u.length := by omega
    rw [dm33_11, h.n, if_neg (by rw [iLe, iOfNat (by omega), iOfNat (by omega)]; omega), if_neg (by decide), d34 h hT (by omega) (by omega), d34 g hU (by omega) (by omega)]
    simp only [bu_some, d35]
    unfold dm33_29
    rw [ofNat_succ (by omega)]
    have e1 : t.getD i (-1) = t[i] := by simp [List.getD, List.getElem?_eq_getElem h1]
    have e2 : u.getD i (-1) = u[i] := by simp [List.getD, List.getElem?_eq_getElem h2]
    rw [e1, e2, List.drop_eq_getElem_cons h1, List.drop_eq_getElem_cons h2, List.map_cons, List.map_cons]
    by_cases hq : gr t[i] = gr u[i]
    · rw [if_pos hq, ih (i + 1) n (by omega) (by omega)]
      congr 1
      refine b01_c ⟨fun q => by rw [hq, q], fun q => (List.cons.inj q).2⟩
    · rw [if_neg hq, b01_f (fun q => hq (List.cons.inj q).1)]
      obtain ⟨n, rfl⟩ : ∃ k, n = k + 1 := ⟨n - 1, by omega⟩
      rw [dm33_11]
      split
      · rw [if_pos (Or.inl rfl)]
      · rw [if_pos rfl, if_pos (Or.inl rfl)]
set_option maxRecDepth 100000 in
theorem d33 {s : aS} {b c : Nat} {t u : List Int32} (h : LT s b t) (g : LT s c u) (hT : t.length ≤ (sT s (b + 1)).2) (hU : u.length ≤ (sT s (c + 1)).2) (hm : t.length < 4000) (hu : u.length < 1000000) : dm33 b c s = some (b01 (lk t u)) := by
  unfold dm33 dm28 dm33_8
  simp only [bu_some]
  rw [h.n, g.n]
  by_cases he : t.length = u.length
  · rw [if_pos (by rw [he]), show (0 : Int32) = Int32.ofNat 0 from rfl, d33l h g hT hU he (by omega) t.length 0 5000 (by omega) (by omega)]
    rfl
  · rw [if_neg, dm33_11, b01_f]
    · split
      · rw [if_pos (Or.inl rfl)]
      · rw [if_pos rfl, if_pos (Or.inl rfl)]
    · intro q
      exact he (by have := congrArg List.length q; simpa using this)
    · intro q
      have := congrArg Int32.toInt q
      rw [iOfNat (by omega), iOfNat (by omega)] at this
      omega
end
section
/-! the sheets' names, in both; the first that is like a text -/
def nsOk (ns : List (List Int32)) : Prop := ns.length ≤ 8 ∧ ∀ n ∈ ns, 1 ≤ n.length ∧ n.length ≤ 31 ∧ okT n
def SC (s : aS) (ns : List (List Int32)) : Prop := sI s 81 2 = Int32.ofNat ns.length ∧ ∀ i (h : i < ns.length), LT s (84 + 2 * i) ns[i]
def SM (s : aS) (ns : List (List Int32)) : Prop := sI s 121 3 = Int32.ofNat ns.length ∧ ∀ i (h : i < ns.length), sI s 123 i = Int32.ofNat ns[i].length ∧ ∀ j (g : j < ns[i].length), sI s 124 (32 * i + j) = ns[i][j]
/-- the rooms of the names -/
def RC (s : aS) : Prop := (sT s 80).2 = 256 ∧ ∀ i, i < 8 → (sT s (85 + 2 * i)).2 = 31
set_option maxRecDepth 100000 in
theorem RC.of {A : Nat → Nat → Prop} {s s1 : aS} (h : RC s) (g : ch A s s1) : RC s1 := ⟨by rw [g.2.1]; exact h.1, fun i hi => by rw [g.2.1]; exact h.2 i hi⟩
set_option maxRecDepth 100000 in
theorem RC.ly {tt : Nat} {cc : Nat → Nat → Int32} {s : aS} (h : Ly tt cc s) : RC s := by
  refine ⟨by rw [h.T (a := 80) (p := (102, 256)) 2 rfl rfl], fun i hi => ?_⟩
  match i, hi with
  | 0, _ => rw [h.T (a := 85) (p := (102, 31)) 7 rfl rfl]
  | 1, _ => rw [h.T (a := 87) (p := (102, 31)) 9 rfl rfl]
  | 2, _ => rw [h.T (a := 89) (p := (102, 31)) 11 rfl rfl]
  | 3, _ => rw [h.T (a := 91) (p := (102, 31)) 13 rfl rfl]
  | 4, _ => rw [h.T (a := 93) (p := (102, 31)) 15 rfl rfl]
  | 5, _ => rw [h.T (a := 95) (p := (102, 31)) 17 rfl rfl]
  | 6, _ => rw [h.T (a := 97) (p := (102, 31)) 19 rfl rfl]
  | 7, _ => rw [h.T (a := 99) (p := (102, 31)) 21 rfl rfl]
set_option maxRecDepth 100000 in
noncomputable def fndF (t : List Int32) : List (List Int32) → Nat → Int32
  | [], _ => -1
  | n :: r, i => if b01 (lk n t) = 0 then fndF t r (i + 1) else Int32.ofNat i
set_option maxRecDepth 100000 in
theorem jN_of {i : Nat} (h : i < 2147483648) : jN (Int32.ofNat i) = i := by rw [jN_eq, iOfNat h]; omega
set_option maxRecDepth 100000 in
theorem d32l {s : aS} {b : Nat} {t : List Int32} {ns : List (List Int32)} (hs : SC s ns) (hr : RC s) (ho : nsOk ns) (h : LT s b t) (hT : t.length ≤ (sT s (b + 1)).2) (hm : t.length < 1000000) : ∀ (m i n : Nat), i + m = ns.length → m < n → dm32_2 n b (Int32.ofNat i) s = some (fndF t (ns.drop i) i) := by
  intro m
  induction m with
  | zero =>
    intro i n hi hn
    obtain ⟨n, rfl⟩ : ∃ k, n = k + 1 := ⟨n - 1, by omega⟩
    have h8 := ho.1
    rw [dm32_2, hs.1, if_pos (by rw [iLe, iOfNat (by omega), iOfNat (by omega)]; omega), List.drop_eq_nil_of_le (by omega)]
    rfl
  | succ m ih =>
    intro i n hi hn
    obtain ⟨n, rfl⟩ : ∃ k, n = k + 1 := ⟨n - 1, by omega⟩
    have h8 := ho.1
    have h1 : i < ns.length := by omega
    have hn1 := ho.2 _ (List.getElem_mem h1)
    rw [dm32_2, hs.1, if_neg (by rw [iLe, iOfNat (by omega), iOfNat (by omega)]; omega), if_pos (by rw [aB_iff, iOfNat (by omega)]; omega), jN_of (by omega), d33 (hs.2 i h1) h (by rw [show 84 + 2 * i + 1 = 85 + 2 * i by omega, hr.2 i (by omega)]; omega) hT (by omega) hm]
    simp only [bu_some]
    rw [ofNat_succ (by omega), ih (i + 1) n (by omega) (by omega), List.drop_eq_getElem_cons h1]
    show _ = some (if b01 (lk ns[i] t) = 0 then fndF t (ns.drop (i + 1)) (i + 1) else Int32.ofNat i)
    split <;> rfl
set_option maxRecDepth 100000 in
theorem d32 {s : aS} {b : Nat} {t : List Int32} {ns : List (List Int32)} (hs : SC s ns) (hr : RC s) (ho : nsOk ns) (h : LT s b t) (hT : t.length ≤ (sT s (b + 1)).2) (hm : t.length < 1000000) : dm32 b s = some (fndF t ns 0) := by
  unfold dm32
  have h8 := ho.1
  have := d32l hs hr ho h hT hm ns.length 0 5000 (by omega) (by omega)
  rw [List.drop_zero] at this
  exact this
set_option maxRecDepth 100000 in
theorem iLin {i j : Nat} (hi : i < 1000) (hj : j < 100000) : (32 * Int32.ofNat i) + Int32.ofNat j = Int32.ofNat (32 * i + j) := by
  have e1 : (Int32.ofNat i).toInt = i := iOfNat (by omega)
  have e2 : (Int32.ofNat j).toInt = j := iOfNat (by omega)
  have e3 : (32 * Int32.ofNat i).toInt = 32 * i := by
    rw [iMul (x := 32) (by rw [e1]; show _ ≤ (32 : Int) * i; omega) (by rw [e1]; show (32 : Int) * i ≤ _; omega), e1]
    rfl
  apply Int32.toInt_inj.mp
  rw [iAdd (by rw [e3, e2]; omega) (by rw [e3, e2]; omega), e3, e2, iOfNat (by omega)]
  omega
set_option maxRecDepth 100000 in
theorem iSum {i j : Nat} (hi : i < 1000000) (hj : j < 1000000) : Int32.ofNat i + Int32.ofNat j = Int32.ofNat (i + j) := by
  have e1 : (Int32.ofNat i).toInt = i := iOfNat (by omega)
  have e2 : (Int32.ofNat j).toInt = j := iOfNat (by omega)
  apply Int32.toInt_inj.mp
  rw [iAdd (by rw [e1, e2]; omega) (by rw [e1, e2]; omega), e1, e2, iOfNat (by omega)]
  omega
/-- letters that lie in a row from a place on -/
def RW (s : aS) (b o : Nat) (u : List Int32) : Prop := o + u.length ≤ (sT s b).2 ∧ ∀ j (h : j < u.length), sI s b (o + j) = u[j]
set_option maxRecDepth 100000 in
theorem d177i {s : aS} {b o i : Nat} {u n9 : List Int32} {k2 : Nat → Int32 → Int32 → Int32 → aS → Option Int32} (hu : RW s b o u) (ho : o + u.length < 100000) (hi : i < 8) (hn : ∀ j (g : j < n9.length), sI s 124 (32 * i + j) = n9[j]) (he : n9.length = u.length) (h31 : n9.length ≤ 31) : ∀ (m j n : Nat), j + m = u.length → m + 1 < n → dm177_18 k2 n b (Int32.ofNat o) (Int32.ofNat u.length) (Int32.ofNat i) 1 (Int32.ofNat j) s = dm177_45 k2 b (Int32.ofNat o) (Int32.ofNat u.length) (Int32.ofNat i) (b01 ((n9.drop j).map gr = (u.drop j).map gr)) s := by
  intro m
  induction m with
  | zero =>
    intro j n hj hn9
    obtain ⟨n, rfl⟩ : ∃ k, n = k + 1 := ⟨n - 1, by omega⟩
    rw [dm177_18, if_pos (by rw [iLe, iOfNat (by omega), iOfNat (by omega)]; omega), b01_t]
    rw [List.drop_eq_nil_of_le (by omega), List.drop_eq_nil_of_le (by omega)]
  | succ m ih =>
    intro j n hj hn9
    obtain ⟨n, rfl⟩ : ∃ k, n = k + 1 := ⟨n - 1, by omega⟩
    have h1 : j < n9.length := by omega
    have h2 : j < u.length := by omega
    have hb := hu.1
    rw [dm177_18, if_neg (by rw [iLe, iOfNat (by omega), iOfNat (by omega)]; omega), if_neg (by decide), iLin (by omega) (by omega), iSum (by omega) (by omega), if_pos (by rw [aB_iff, iOfNat (by omega)]; omega), jN_of (i := 32 * i + j) (by omega), hn j h1]
    simp only [bu_some, d178]
    rw [if_pos (by rw [aB_iff, iOfNat (by omega)]; omega), jN_of (by omega), hu.2 j h2]
    unfold dm177_42
    rw [ofNat_succ (by omega), List.drop_eq_getElem_cons h1, List.drop_eq_getElem_cons h2, List.map_cons, List.map_cons]
    by_cases hq : gr n9[j] = gr u[j]
    · rw [if_pos hq, ih (j + 1) n (by omega) (by omega)]
      congr 1
      exact b01_c ⟨fun q => by rw [hq, q], fun q => (List.cons.inj q).2⟩
    · rw [if_neg hq, b01_f (fun q => hq (List.cons.inj q).1)]
      obtain ⟨n, rfl⟩ : ∃ k, n = k + 1 := ⟨n - 1, by omega⟩
      rw [dm177_18]
      split
      · rfl
      · rw [if_pos rfl]
set_option maxRecDepth 100000 in
theorem d177l {s : aS} {b o : Nat} {u : List Int32} {ns : List (List Int32)} (hs : SM s ns) (ho : nsOk ns) (hu : RW s b o u) (hb : o + u.length < 4000) : ∀ (m i n : Nat), i + m = ns.length → m < n → dm177_2 n b (Int32.ofNat o) (Int32.ofNat u.length) (Int32.ofNat i) s = some (fndF u (ns.drop i) i) := by
  intro m
  induction m with
  | zero =>
    intro i n hi hn
    obtain ⟨n, rfl⟩ : ∃ k, n = k + 1 := ⟨n - 1, by omega⟩
    have h8 := ho.1
    rw [dm177_2, hs.1, if_pos (by rw [iLe, iOfNat (by omega), iOfNat (by omega)]; omega), List.drop_eq_nil_of_le (by omega)]
    rfl
  | succ m ih =>
    intro i n hi hn
    obtain ⟨n, rfl⟩ : ∃ k, n = k + 1 := ⟨n - 1, by omega⟩
    have h8 := ho.1
    have h1 : i < ns.length := by omega
    have hn1 := ho.2 _ (List.getElem_mem h1)
    obtain ⟨g1, g2⟩ := hs.2 i h1
    rw [dm177_2, hs.1, if_neg (by rw [iLe, iOfNat (by omega), iOfNat (by omega)]; omega), if_pos (by rw [aB_iff, iOfNat (by omega)]; omega), jN_of (by omega), g1, List.drop_eq_getElem_cons h1]
    unfold dm177_15
    have key : ∀ x : Int32, x = b01 (lk ns[i] u) → dm177_45 (dm177_2 n) b (Int32.ofNat o) (Int32.ofNat u.length) (Int32.ofNat i) x s = some (fndF u (ns[i] :: ns.drop (i + 1)) i) := by
      intro x hx
      unfold dm177_45
      rw [ofNat_succ (by omega), ih (i + 1) n (by omega) (by omega), hx]
      show _ = some (if b01 (lk ns[i] u) = 0 then fndF u (ns.drop (i + 1)) (i + 1) else Int32.ofNat i)
      split <;> rfl
    by_cases he : ns[i].length = u.length
    · rw [if_pos (by rw [he]), show (0 : Int32) = Int32.ofNat 0 from rfl, d177i hu (by omega) (by omega) g2 he hn1.2.1 u.length 0 5000 (by omega) (by omega)]
      exact key _ (by rw [List.drop_zero, List.drop_zero]; rfl)
    · rw [if_neg (fun q => by have := congrArg Int32.toInt q; rw [iOfNat (by omega), iOfNat (by omega)] at this; omega)]
      have hf : b01 (lk ns[i] u) = 0 := b01_f fun q => he (by have := congrArg List.length q; simpa using this)
      have : dm177_18 (dm177_2 n) 5000 b (Int32.ofNat o) (Int32.ofNat u.length) (Int32.ofNat i) 0 0 s = dm177_45 (dm177_2 n) b (Int32.ofNat o) (Int32.ofNat u.length) (Int32.ofNat i) 0 s := by
        rw [dm177_18]
        split
        · rfl
        · rw [if_pos rfl]
      rw [this]
      exact key 0 hf.symm
set_option maxRecDepth 100000 in
theorem d177 {s : aS} {b o : Nat} {u : List Int32} {ns : List (List Int32)} (hs : SM s ns) (ho : nsOk ns) (hu : RW s b o u) (hb : o + u.length < 4000) : dm177 b (Int32.ofNat o) (Int32.ofNat u.length) s = some (fndF u ns 0) := by
  unfold dm177
  have h8 := ho.1
  have := d177l hs ho hu hb ns.length 0 5000 (by omega) (by omega)
  rw [List.drop_zero] at this
  exact this
end
section
/-! is a text a name -/
def nmL : List Int32 := [58, 92, 47, 63, 42, 91, 93]
/-- the text of the characters that no name has, in cells 5 and 6 -/
def FB (s : aS) : Prop := sI s 5 1 = 0 ∧ (sT s 6).2 = 7 ∧ ∀ j (h : j < nmL.length), sI s 6 j = nmL[j]
set_option maxRecDepth 100000 in
theorem FB.ly {tt : Nat} {xs : List Int32} {s : aS} (h : Ly tt (cCc xs) s) : FB s := by
  refine ⟨?_, ?_, fun j hj => ?_⟩
  · rw [h.2.2.2.2.2.2.2.2 5 1 (by decide)]
    rfl
  · rw [h.lowT (a := 6) (by decide)]
    rfl
  · rw [h.2.2.2.2.2.2.2.2 6 j (by decide)]
    have hj : j < 7 := hj
    match j, hj with
    | 0, _ => rfl
    | 1, _ => rfl
    | 2, _ => rfl
    | 3, _ => rfl
    | 4, _ => rfl
    | 5, _ => rfl
    | 6, _ => rfl
set_option maxRecDepth 100000 in
theorem FB.of {A : Nat → Nat → Prop} {s s1 : aS} (h : FB s) (g : ch A s s1) (h1 : ∀ a k, A a k → 78 ≤ a) : FB s1 := ⟨(g.i fun q => by have := h1 _ _ q; omega).trans h.1, by rw [g.2.1]; exact h.2.1, fun j hj => (g.i fun q => by have := h1 _ _ q; omega).trans (h.2.2 j hj)⟩
set_option maxRecDepth 100000 in
theorem i8_id {x : Int32} (h : 0 ≤ x.toInt ∧ x.toInt ≤ 127) : x.toInt8.toInt32 = x := by
  apply Int32.toInt_inj.mp
  rw [Int8.toInt_toInt32, Int32.toInt_toInt8]
  exact Int.bmod_eq_of_le (by omega) (by omega)
set_option maxRecDepth 100000 in
theorem d258l {s : aS} {x : Int32} (hf : FB s) : ∀ (m i n : Nat), i + m = 7 → m < n → ∃ r : Int32, dm258_5 n 6 (Int32.ofNat 7) x (Int32.ofNat i) s = some r ∧ (0 ≤ r ↔ x ∈ nmL.drop i) := by
  intro m
  induction m with
  | zero =>
    intro i n hi hn
    obtain ⟨n, rfl⟩ : ∃ k, n = k + 1 := ⟨n - 1, by omega⟩
    refine ⟨-1, by rw [dm258_5, if_pos (by rw [iLe, iOfNat (by omega), iOfNat (by omega)]; omega)], ?_⟩
    rw [List.drop_eq_nil_of_le (by show 7 ≤ i; omega)]
    exact ⟨fun q => absurd q (by decide), fun q => by cases q⟩
  | succ m ih =>
    intro i n hi hn
    obtain ⟨n, rfl⟩ : ∃ k, n = k + 1 := ⟨n - 1, by omega⟩
    have hj : i < nmL.length := by show i < 7; omega
    rw [dm258_5, if_neg (by rw [iLe, iOfNat (by omega), iOfNat (by omega)]; omega), if_pos (by rw [aB_iff, iOfNat (by omega), hf.2.1]; omega), jN_of (by omega), hf.2.2 i hj, List.drop_eq_getElem_cons hj]
    by_cases hq : nmL[i] = x
    · rw [if_pos hq]
      refine ⟨_, rfl, fun _ => by rw [← hq]; exact List.mem_cons_self, fun _ => ?_⟩
      rw [iLe, iOfNat (by omega)]
      show (0 : Int) ≤ i
      omega
    · rw [if_neg hq, ofNat_succ (by omega)]
      obtain ⟨r, r1, r2⟩ := ih (i + 1) n (by omega) (by omega)
      refine ⟨r, r1, r2.trans ⟨fun q => List.mem_cons_of_mem _ q, fun q => ?_⟩⟩
      rcases List.mem_cons.mp q with q | q
      · exact absurd q.symm hq
      · exact q
set_option maxRecDepth 100000 in
theorem d251 {s : aS} {x : Int32} (hf : FB s) (hx : 0 ≤ x.toInt ∧ x.toInt ≤ 126) : ∃ r : Int32, dm251 5 x s = some r ∧ (0 ≤ r ↔ x ∈ nmL) := by
  obtain ⟨r, r1, r2⟩ := d258l (x := x) hf 7 0 5000 (by omega) (by omega)
  refine ⟨r, ?_, r2⟩
  unfold dm251 dm252 dm253 dm254 dm255 dm256 dm257 dm258
  rw [hf.1, if_pos rfl, if_pos (by decide)]
  simp only [bu_some]
  rw [if_neg (by decide), hf.2.1, if_neg (by rw [iLt]; show ¬ x.toInt < 0; omega), if_neg (by rw [iLt]; show ¬ (255 : Int) < x.toInt; omega)]
  simp only [bu_some]
  rw [if_neg (by decide), i8_id (by omega)]
  rw [show (if (0 : Int32) < 0 then (0 : Int32) else 0) = Int32.ofNat 0 by decide, show (if Int32.ofNat 7 < Int32.ofNat 7 >>> (0 &&& 31) then Int32.ofNat 7 else Int32.ofNat 7 >>> (0 &&& 31)) = Int32.ofNat 7 by decide, if_pos (by decide), r1]
  rfl
/-- a name: 1 to 31 characters, none of those, and no ' first or last -/
def nmP (t : List Int32) : Prop := 1 ≤ t.length ∧ t.length ≤ 31 ∧ (∀ x ∈ t, x ∉ nmL) ∧ t.getD 0 (-1) ≠ 39 ∧ t.getD (t.length - 1) (-1) ≠ 39
set_option maxRecDepth 100000 in
theorem d36f {s : aS} {b : Nat} {t : List Int32} (h : LT s b t) (hT : t.length ≤ (sT s (b + 1)).2) (hm : t.length < 1000) (h1 : 1 ≤ t.length) {p : Prop} : dm36_33 b (Int32.ofNat t.length) (b01 p) s = some (b01 (p ∧ t.getD 0 (-1) ≠ 39 ∧ t.getD (t.length - 1) (-1) ≠ 39)) := by
  unfold dm36_33
  by_cases hp : p
  · rw [b01_t hp, if_neg (by decide), show (0 : Int32) = Int32.ofNat 0 from rfl, d34 h hT (by omega) (by omega)]
    simp only [bu_some]
    by_cases h39 : t.getD 0 (-1) = 39
    · rw [if_pos h39, b01_f (fun q => q.2.1 h39)]
      rfl
    · rw [if_neg h39]
      have e : Int32.ofNat t.length - 1 = Int32.ofNat (t.length - 1) := by
        apply Int32.toInt_inj.mp
        rw [iSub (y := 1) (by rw [iOfNat (by omega)]; show _ ≤ (t.length : Int) - 1; omega) (by rw [iOfNat (by omega)]; show (t.length : Int) - 1 ≤ _; omega), iOfNat (by omega), iOfNat (by omega)]
        show (t.length : Int) - 1 = ((t.length - 1 : Nat) : Int)
        omega
      rw [e, d34 h hT (by omega) (by omega)]
      simp only [bu_some]
      by_cases h38 : t.getD (t.length - 1) (-1) = 39
      · rw [if_pos h38, b01_f (fun q => q.2.2 h38)]
        rfl
      · rw [if_neg h38, b01_t ⟨hp, h39, h38⟩]
  · rw [b01_f hp, if_pos rfl, b01_f (fun q => hp q.1)]
set_option maxRecDepth 100000 in
theorem d36l {s : aS} {b : Nat} {t : List Int32} (h : LT s b t) (hT : t.length ≤ (sT s (b + 1)).2) (hm : t.length < 1000) (h1 : 1 ≤ t.length) (hf : FB s) (ho : okT t) : ∀ (m i n : Nat) (p : Prop), i + m = t.length → m + 1 < n → ∃ q : Prop, (q ↔ p ∧ ∀ x ∈ t.drop i, x ∉ nmL) ∧ dm36_15 n b (Int32.ofNat t.length) (b01 p) (Int32.ofNat i) s = some (b01 (q ∧ t.getD 0 (-1) ≠ 39 ∧ t.getD (t.length - 1) (-1) ≠ 39)) := by
  intro m
  induction m with
  | zero =>
    intro i n p hi hn
    obtain ⟨n, rfl⟩ : ∃ k, n = k + 1 := ⟨n - 1, by omega⟩
    refine ⟨p, ?_, ?_⟩
    · rw [List.drop_eq_nil_of_le (by omega)]
      exact ⟨fun q => ⟨q, fun x hx => by cases hx⟩, fun q => q.1⟩
    · rw [dm36_15, if_pos (by rw [iLe, iOfNat (by omega), iOfNat (by omega)]; omega), d36f h hT hm h1]
  | succ m ih =>
    intro i n p hi hn
    obtain ⟨n, rfl⟩ : ∃ k, n = k + 1 := ⟨n - 1, by omega⟩
    have hl : i < t.length := by omega
    by_cases hp : p
    · have e1 : t.getD i (-1) = t[i] := by simp [List.getD, List.getElem?_eq_getElem hl]
      have hx := ho _ (List.getElem_mem hl)
      obtain ⟨r, r1, r2⟩ := d251 (x := t[i]) hf ⟨by omega, by omega⟩
      rw [dm36_15, if_neg (by rw [iLe, iOfNat (by omega), iOfNat (by omega)]; omega), b01_t hp, if_neg (by decide), d34 h hT (by omega) (by omega)]
      simp only [bu_some]
      rw [e1, i2c_id (by omega), r1]
      simp only [bu_some]
      unfold dm36_30
      rw [ofNat_succ (by omega), List.drop_eq_getElem_cons hl]
      by_cases hr : 0 ≤ r
      · obtain ⟨q, q1, q2⟩ := ih (i + 1) n False (by omega) (by omega)
        rw [b01_f id] at q2
        rw [if_pos hr, q2]
        exact ⟨q, ⟨fun z => absurd (q1.mp z).1 id, fun z => absurd (r2.mp hr) (z.2 _ List.mem_cons_self)⟩, rfl⟩
      · obtain ⟨q, q1, q2⟩ := ih (i + 1) n True (by omega) (by omega)
        rw [b01_t trivial] at q2
        rw [if_neg hr, q2]
        refine ⟨q, ⟨fun z => ⟨hp, fun x hx => ?_⟩, fun z => q1.mpr ⟨trivial, fun x hx => z.2 x (List.mem_cons_of_mem _ hx)⟩⟩, rfl⟩
        rcases List.mem_cons.mp hx with rfl | hx
        · exact fun y => hr (r2.mpr y)
        · exact (q1.mp z).2 x hx
    · refine ⟨p, ⟨fun q => absurd q hp, fun q => q.1⟩, ?_⟩
      rw [dm36_15]
      split
      · rw [d36f h hT hm h1]
      · rw [if_pos (b01_f hp), d36f h hT hm h1]
set_option maxRecDepth 100000 in
theorem d36 {s : aS} {b : Nat} {t : List Int32} (h : LT s b t) (hT : t.length ≤ (sT s (b + 1)).2) (hm : t.length < 1000) (hf : FB s) (ho : okT t) : dm36 b s = some (b01 (nmP t)) := by
  unfold dm36 dm28 dm36_11 dm36_12
  simp only [bu_some]
  rw [h.n]
  have e : (Int32.ofNat t.length).toInt = t.length := iOfNat (by omega)
  by_cases h1 : 1 ≤ t.length
  · rw [if_neg (by rw [iLt, e]; show ¬ (t.length : Int) < 1; omega)]
    by_cases h2 : t.length ≤ 31
    · rw [if_neg (by rw [iLt, e]; show ¬ (31 : Int) < t.length; omega)]
      obtain ⟨q, q1, q2⟩ := d36l h hT hm h1 hf ho t.length 0 5000 True (by omega) (by omega)
      rw [b01_t trivial] at q2
      rw [show (0 : Int32) = Int32.ofNat 0 from rfl, q2]
      congr 1
      rw [List.drop_zero] at q1
      exact b01_c ⟨fun z => ⟨h1, h2, (q1.mp z.1).2, z.2⟩, fun z => ⟨q1.mpr ⟨trivial, z.2.2.1⟩, z.2.2.2⟩⟩
    · rw [if_pos (by rw [iLt, e]; show (31 : Int) < t.length; omega)]
      obtain ⟨q, q1, q2⟩ := d36l h hT hm h1 hf ho t.length 0 5000 False (by omega) (by omega)
      rw [b01_f id] at q2
      rw [show Int32.ofNat 0 = 0 from rfl] at q2
      rw [q2]
      congr 1
      exact b01_c ⟨fun z => absurd (q1.mp z.1).1 id, fun z => absurd z.2.1 h2⟩
  · rw [if_pos (by rw [iLt, e]; show (t.length : Int) < 1; omega), dm36_15, if_pos (by rw [iLe, e]; show (t.length : Int) ≤ 0; omega)]
    unfold dm36_33
    rw [if_pos rfl, b01_f (fun z => h1 z.1)]
end
section
/-! the reference's isName -/
set_option maxRecDepth 100000 in
theorem d176 {s : aS} {t : List Int32} {i : Nat} (h : MT s t) (hl : t.length ≤ 256) (hi : i < 100000) : dm176 (Int32.ofNat i) s = some (t.getD i 0) := by
  unfold dm176
  rw [h.1]
  by_cases hq : t.length ≤ i
  · rw [if_pos (by rw [iLe, iOfNat (by omega), iOfNat (by omega)]; omega)]
    simp [List.getD, List.getElem?_eq_none hq]
  · rw [if_neg (by rw [iLe, iOfNat (by omega), iOfNat (by omega)]; omega), if_pos (by rw [aB_iff, iOfNat (by omega)]; omega), jN_of (by omega), h.2 i (by omega)]
    simp [List.getD, List.getElem?_eq_getElem (by omega : i < t.length)]
set_option maxRecDepth 100000 in
theorem d175l {s : aS} {t : List Int32} (h : MT s t) (hl : t.length ≤ 256) : ∀ (m i n : Nat) (p : Prop), i + m = t.length → m + 1 < n → dm175_27 n (b01 p) (Int32.ofNat i) s = some (b01 (p ∧ ∀ x ∈ t.drop i, x ∉ nmL)) := by
  intro m
  have b0 : ∀ p : Prop, b01 p = 0 ∨ b01 p = 1 := fun p => by
    by_cases hp : p
    · exact Or.inr (b01_t hp)
    · exact Or.inl (b01_f hp)
  induction m with
  | zero =>
    intro i n p hi hn
    obtain ⟨n, rfl⟩ : ∃ k, n = k + 1 := ⟨n - 1, by omega⟩
    rw [dm175_27, h.1, if_pos (by rw [iLe, iOfNat (by omega), iOfNat (by omega)]; omega), if_pos (b0 p), List.drop_eq_nil_of_le (by omega)]
    congr 1
    exact b01_c ⟨fun q => ⟨q, fun x hx => by cases hx⟩, fun q => q.1⟩
  | succ m ih =>
    intro i n p hi hn
    obtain ⟨n, rfl⟩ : ∃ k, n = k + 1 := ⟨n - 1, by omega⟩
    have hq : i < t.length := by omega
    by_cases hp : p
    · rw [dm175_27, h.1, if_neg (by rw [iLe, iOfNat (by omega), iOfNat (by omega)]; omega), b01_t hp, if_neg (by decide), if_pos (by rw [aB_iff, iOfNat (by omega)]; omega), jN_of (by omega), h.2 i hq]
      unfold dm175_61 dm175_62
      rw [ofNat_succ (by omega), List.drop_eq_getElem_cons hq]
      have hF := ih (i + 1) n False (by omega) (by omega)
      have hT := ih (i + 1) n True (by omega) (by omega)
      rw [b01_f id] at hF
      rw [b01_t trivial] at hT
      have hbad : t[i] ∈ nmL → some (b01 (False ∧ ∀ x ∈ t.drop (i + 1), x ∉ nmL)) = some (b01 (p ∧ ∀ x ∈ t[i] :: t.drop (i + 1), x ∉ nmL)) := fun z => by
        congr 1
        exact b01_c ⟨fun q => absurd q.1 id, fun q => absurd z (q.2 _ List.mem_cons_self)⟩
      rw [hF, hT]
      by_cases c1 : t[i] = 58
      · rw [if_pos c1]; exact hbad (by rw [c1]; decide)
      · rw [if_neg c1]
        by_cases c2 : t[i] = 92
        · rw [if_pos c2]; exact hbad (by rw [c2]; decide)
        · rw [if_neg c2]
          by_cases c3 : t[i] = 47
          · rw [if_pos c3]; exact hbad (by rw [c3]; decide)
          · rw [if_neg c3]
            by_cases c4 : t[i] = 63
            · rw [if_pos c4]; exact hbad (by rw [c4]; decide)
            · rw [if_neg c4]
              by_cases c5 : t[i] = 42
              · rw [if_pos c5]; exact hbad (by rw [c5]; decide)
              · rw [if_neg c5]
                by_cases c6 : t[i] = 91
                · rw [if_pos c6]; exact hbad (by rw [c6]; decide)
                · rw [if_neg c6]
                  by_cases c7 : t[i] = 93
                  · rw [if_pos c7]; exact hbad (by rw [c7]; decide)
                  · rw [if_neg c7]
                    congr 1
                    refine b01_c ⟨fun q => ⟨hp, fun x hx => ?_⟩, fun q => ⟨trivial, fun x hx => q.2 x (List.mem_cons_of_mem _ hx)⟩⟩
                    rcases List.mem_cons.mp hx with rfl | hx
                    · intro z
                      simp [nmL] at z
                      rcases z with z | z | z | z | z | z | z
                      · exact c1 z
                      · exact c2 z
                      · exact c3 z
                      · exact c4 z
                      · exact c5 z
                      · exact c6 z
                      · exact c7 z
                    · exact q.2 x hx
    · have e : b01 (p ∧ ∀ x ∈ t.drop i, x ∉ nmL) = 0 := b01_f fun q => hp q.1
      rw [e, dm175_27, b01_f hp]
      split
      · rw [if_pos (Or.inl rfl)]
      · rw [if_pos rfl, if_pos (Or.inl rfl)]
set_option maxRecDepth 100000 in
theorem d175 {s : aS} {t : List Int32} (h : MT s t) (hl : t.length ≤ 256) : dm175 s = some (b01 (nmP t)) := by
  have e : (Int32.ofNat t.length).toInt = t.length := iOfNat (by omega)
  have z : ∀ p : Prop, ¬ p → dm175_23 s = some (b01 p) := by
    intro p hp
    unfold dm175_23 dm175_24
    have := d175l h hl t.length 0 5000 False (by omega) (by omega)
    rw [b01_f id] at this
    rw [show (0 : Int32) = Int32.ofNat 0 from rfl] at this ⊢
    rw [this]
    congr 1
    exact b01_c ⟨fun q => absurd q.1 id, fun q => absurd q hp⟩
  unfold dm175
  rw [h.1]
  by_cases h1 : 1 ≤ t.length
  · rw [if_neg (by rw [iLt, e]; show ¬ (t.length : Int) < 1; omega)]
    by_cases h2 : t.length ≤ 31
    · rw [if_neg (by rw [iLt, e]; show ¬ (31 : Int) < t.length; omega), show dm176 0 s = dm176 (Int32.ofNat 0) s from rfl, d176 h hl (by omega)]
      simp only [bu_some]
      have g0 : t.getD 0 0 = t.getD 0 (-1) := by simp [List.getD, List.getElem?_eq_getElem (by omega : 0 < t.length)]
      have g1 : t.getD (t.length - 1) 0 = t.getD (t.length - 1) (-1) := by simp [List.getD, List.getElem?_eq_getElem (by omega : t.length - 1 < t.length)]
      rw [g0]
      by_cases h3 : t.getD 0 (-1) = 39
      · rw [if_pos h3]
        exact z _ fun q => q.2.2.2.1 h3
      · rw [if_neg h3]
        have es : Int32.ofNat t.length - 1 = Int32.ofNat (t.length - 1) := by
          apply Int32.toInt_inj.mp
          rw [iSub (y := 1) (by rw [e]; show _ ≤ (t.length : Int) - 1; omega) (by rw [e]; show (t.length : Int) - 1 ≤ _; omega), e, iOfNat (by omega)]
          show (t.length : Int) - 1 = ((t.length - 1 : Nat) : Int)
          omega
        rw [es, d176 h hl (by omega)]
        simp only [bu_some]
        rw [g1]
        by_cases h4 : t.getD (t.length - 1) (-1) = 39
        · rw [if_pos h4]
          exact z _ fun q => q.2.2.2.2 h4
        · rw [if_neg h4]
          unfold dm175_24
          have := d175l h hl t.length 0 5000 True (by omega) (by omega)
          rw [b01_t trivial] at this
          rw [show (0 : Int32) = Int32.ofNat 0 from rfl, this]
          congr 1
          rw [List.drop_zero]
          exact b01_c ⟨fun q => ⟨h1, h2, q.2, h3, h4⟩, fun q => ⟨trivial, q.2.2.1⟩⟩
    · rw [if_pos (by rw [iLt, e]; show (31 : Int) < t.length; omega)]
      exact z _ fun q => h2 q.2.1
  · rw [if_pos (by rw [iLt, e]; show (t.length : Int) < 1; omega)]
    exact z _ fun q => h1 q.1
end
section
/-! signs, words, texts of their own -/
def isL (x : Int32) : Prop := (65 ≤ x.toInt ∧ x.toInt ≤ 90) ∨ (97 ≤ x.toInt ∧ x.toInt ≤ 122)
def isD (x : Int32) : Prop := 48 ≤ x.toInt ∧ x.toInt ≤ 57
def bW (x : Int32) : Prop := isL x ∨ x = 95
def gW (x : Int32) : Prop := isL x ∨ isD x ∨ x = 95 ∨ x = 46
set_option maxRecDepth 100000 in
theorem d45 (x : Int32) : dm45 x = some (b01 (isL x)) := by
  unfold dm45 dm45_6 dm45_12
  have l1 : x < 65 ↔ x.toInt < 65 := iLt
  have l2 : x ≤ 90 ↔ x.toInt ≤ 90 := iLe
  have l3 : x < 97 ↔ x.toInt < 97 := iLt
  have l4 : 122 < x ↔ 122 < x.toInt := iLt
  by_cases h1 : x < 65
  · rw [if_pos h1, if_pos (l3.mpr (by have := l1.mp h1; omega)), b01_f]
    unfold isL
    have := l1.mp h1
    omega
  · rw [if_neg h1]
    have h1 : ¬ x.toInt < 65 := fun q => h1 (l1.mpr q)
    by_cases h2 : x ≤ 90
    · rw [if_pos h2, b01_t]
      exact Or.inl ⟨by omega, l2.mp h2⟩
    · rw [if_neg h2]
      have h2 : ¬ x.toInt ≤ 90 := fun q => h2 (l2.mpr q)
      by_cases h3 : x < 97
      · rw [if_pos h3, b01_f]
        unfold isL
        have := l3.mp h3
        omega
      · rw [if_neg h3]
        have h3 : ¬ x.toInt < 97 := fun q => h3 (l3.mpr q)
        by_cases h4 : 122 < x
        · rw [if_pos h4, b01_f]
          unfold isL
          have := l4.mp h4
          omega
        · rw [if_neg h4, b01_t]
          have h4 : ¬ 122 < x.toInt := fun q => h4 (l4.mpr q)
          exact Or.inr ⟨by omega, by omega⟩
set_option maxRecDepth 100000 in
theorem d47 (x : Int32) : dm47 x = some (b01 (isD x)) := by
  unfold dm47
  have l1 : x < 48 ↔ x.toInt < 48 := iLt
  have l2 : 57 < x ↔ 57 < x.toInt := iLt
  by_cases h1 : x < 48
  · rw [if_pos h1, b01_f]
    unfold isD
    have := l1.mp h1
    omega
  · rw [if_neg h1]
    have h1 : ¬ x.toInt < 48 := fun q => h1 (l1.mpr q)
    by_cases h2 : 57 < x
    · rw [if_pos h2, b01_f]
      unfold isD
      have := l2.mp h2
      omega
    · rw [if_neg h2, b01_t]
      have h2 : ¬ 57 < x.toInt := fun q => h2 (l2.mpr q)
      exact ⟨by omega, by omega⟩
set_option maxRecDepth 100000 in
theorem d44 (x : Int32) : dm44 x = some (b01 (bW x)) := by
  unfold dm44 dm44_6
  rw [d45]
  simp only [bu_some]
  by_cases h1 : isL x
  · rw [b01_t h1, if_neg (by decide), b01_t (show bW x from Or.inl h1)]
  · rw [b01_f h1, if_pos rfl]
    by_cases h2 : x = 95
    · rw [if_pos h2, b01_t (show bW x from Or.inr h2)]
    · rw [if_neg h2, b01_f (p := bW x)]
      rintro (q | q)
      · exact h1 q
      · exact h2 q
set_option maxRecDepth 100000 in
theorem d46 (x : Int32) : dm46 x = some (b01 (gW x)) := by
  unfold dm46 dm46_12
  rw [d45, d47]
  simp only [bu_some]
  by_cases h1 : isL x
  · rw [b01_t h1, if_neg (by decide), b01_t (show gW x from Or.inl h1)]
  · rw [b01_f h1, if_pos rfl]
    by_cases h2 : isD x
    · rw [b01_t h2, if_neg (by decide), b01_t (show gW x from Or.inr (Or.inl h2))]
    · rw [b01_f h2, if_pos rfl]
      by_cases h3 : x = 95
      · rw [if_pos h3, b01_t (show gW x from Or.inr (Or.inr (Or.inl h3)))]
      · rw [if_neg h3]
        by_cases h4 : x = 46
        · rw [if_pos h4, b01_t (show gW x from Or.inr (Or.inr (Or.inr h4)))]
        · rw [if_neg h4, b01_f]
          rintro (q | q | q | q)
          · exact h1 q
          · exact h2 q
          · exact h3 q
          · exact h4 q
set_option maxRecDepth 100000 in
/-- how many from the first on are such -/
noncomputable def cntF (p : Int32 → Prop) : List Int32 → Nat
  | [] => 0
  | x :: r => if b01 (p x) = 0 then 0 else cntF p r + 1
set_option maxRecDepth 100000 in
theorem cntF_le (p : Int32 → Prop) : ∀ t, cntF p t ≤ t.length
  | [] => Nat.le_refl _
  | x :: r => by
    have := cntF_le p r
    show (if b01 (p x) = 0 then 0 else cntF p r + 1) ≤ r.length + 1
    split <;> omega
set_option maxRecDepth 100000 in
theorem b01_ne {p : Prop} : b01 p = 0 ↔ ¬ p := by
  by_cases h : p
  · rw [b01_t h]; exact ⟨fun q => absurd q (by decide), fun q => absurd h q⟩
  · rw [b01_f h]; exact ⟨fun _ => h, fun _ => rfl⟩
set_option maxRecDepth 100000 in
theorem d43l {s : aS} {b : Nat} {t : List Int32} (h : LT s b t) (hT : t.length ≤ (sT s (b + 1)).2) (hm : t.length < 1000000) : ∀ (m i n : Nat), i + m = t.length → m < n → dm43_7 n b (Int32.ofNat i) s = some (Int32.ofNat (i + cntF gW (t.drop i))) := by
  intro m
  induction m with
  | zero =>
    intro i n hi hn
    obtain ⟨n, rfl⟩ : ∃ k, n = k + 1 := ⟨n - 1, by omega⟩
    rw [dm43_7, h.n, if_pos (by rw [iLe, iOfNat (by omega), iOfNat (by omega)]; omega), List.drop_eq_nil_of_le (by omega)]
    rfl
  | succ m ih =>
    intro i n hi hn
    obtain ⟨n, rfl⟩ : ∃ k, n = k + 1 := ⟨n - 1, by omega⟩
    have h1 : i < t.length := by omega
    have e1 : t.getD i (-1) = t[i] := by simp [List.getD, List.getElem?_eq_getElem h1]
    rw [dm43_7, h.n, if_neg (by rw [iLe, iOfNat (by omega), iOfNat (by omega)]; omega), d34 h hT (by omega) (by omega)]
    simp only [bu_some, d46]
    rw [e1, List.drop_eq_getElem_cons h1, ofNat_succ (by omega), ih (i + 1) n (by omega) (by omega)]
    show _ = some (Int32.ofNat (i + (if b01 (gW t[i]) = 0 then 0 else cntF gW (t.drop (i + 1)) + 1)))
    split
    · rfl
    · rw [show i + 1 + cntF gW (t.drop (i + 1)) = i + (cntF gW (t.drop (i + 1)) + 1) by omega]
set_option maxRecDepth 100000 in
/-- where a word that begins at i ends -/
noncomputable def wEnd (t : List Int32) (i : Nat) : Nat := if b01 (bW (t.getD i (-1))) = 0 then i else i + cntF gW (t.drop i)
set_option maxRecDepth 100000 in
theorem d43 {s : aS} {b i : Nat} {t : List Int32} (h : LT s b t) (hT : t.length ≤ (sT s (b + 1)).2) (hm : t.length < 4000) (hi : i ≤ t.length) : dm43 b (Int32.ofNat i) s = some (Int32.ofNat (wEnd t i)) := by
  unfold dm43 wEnd
  rw [d34 h hT (by omega) (by omega)]
  simp only [bu_some, d44]
  rw [d43l h hT (by omega) (t.length - i) i 5000 (by omega) (by omega)]
  split <;> rfl
set_option maxRecDepth 100000 in
theorem d50b {s : aS} {b i : Nat} {t : List Int32} (h : LT s b t) (hT : t.length ≤ (sT s (b + 1)).2) (hm : t.length < 4000) (hi : i ≤ t.length) : ∀ (m j n : Nat), j + m = t.length → m < n → dm50_15 n b (Int32.ofNat i) (Int32.ofNat j) s = dm50_26 b (Int32.ofNat i) (Int32.ofNat (j + cntF isD (t.drop j))) s := by
  intro m
  induction m with
  | zero =>
    intro j n hj hn
    obtain ⟨n, rfl⟩ : ∃ k, n = k + 1 := ⟨n - 1, by omega⟩
    rw [dm50_15]
    unfold dm28
    simp only [bu_some]
    rw [h.n, if_pos (by rw [iLe, iOfNat (by omega), iOfNat (by omega)]; omega), List.drop_eq_nil_of_le (by omega)]
    rfl
  | succ m ih =>
    intro j n hj hn
    obtain ⟨n, rfl⟩ : ∃ k, n = k + 1 := ⟨n - 1, by omega⟩
    have h1 : j < t.length := by omega
    have e1 : t.getD j (-1) = t[j] := by simp [List.getD, List.getElem?_eq_getElem h1]
    rw [dm50_15]
    unfold dm28
    simp only [bu_some]
    rw [h.n, if_neg (by rw [iLe, iOfNat (by omega), iOfNat (by omega)]; omega), d34 h hT (by omega) (by omega)]
    simp only [bu_some, d47]
    rw [e1, List.drop_eq_getElem_cons h1, ofNat_succ (by omega), ih (j + 1) n (by omega) (by omega)]
    show _ = dm50_26 b (Int32.ofNat i) (Int32.ofNat (j + (if b01 (isD t[j]) = 0 then 0 else cntF isD (t.drop (j + 1)) + 1))) s
    split
    · rfl
    · rw [show j + 1 + cntF isD (t.drop (j + 1)) = j + (cntF isD (t.drop (j + 1)) + 1) by omega]
set_option maxRecDepth 100000 in
theorem d50a {s : aS} {b : Nat} {t : List Int32} (h : LT s b t) (hT : t.length ≤ (sT s (b + 1)).2) (hm : t.length < 4000) : ∀ (m j n : Nat), j + m = t.length → m < n → dm50_2 n b (Int32.ofNat j) s = dm50_13 b (Int32.ofNat (j + cntF isL (t.drop j))) s := by
  intro m
  induction m with
  | zero =>
    intro j n hj hn
    obtain ⟨n, rfl⟩ : ∃ k, n = k + 1 := ⟨n - 1, by omega⟩
    rw [dm50_2]
    unfold dm28
    simp only [bu_some]
    rw [h.n, if_pos (by rw [iLe, iOfNat (by omega), iOfNat (by omega)]; omega), List.drop_eq_nil_of_le (by omega)]
    rfl
  | succ m ih =>
    intro j n hj hn
    obtain ⟨n, rfl⟩ : ∃ k, n = k + 1 := ⟨n - 1, by omega⟩
    have h1 : j < t.length := by omega
    have e1 : t.getD j (-1) = t[j] := by simp [List.getD, List.getElem?_eq_getElem h1]
    rw [dm50_2]
    unfold dm28
    simp only [bu_some]
    rw [h.n, if_neg (by rw [iLe, iOfNat (by omega), iOfNat (by omega)]; omega), d34 h hT (by omega) (by omega)]
    simp only [bu_some, d45]
    rw [e1, List.drop_eq_getElem_cons h1, ofNat_succ (by omega), ih (j + 1) n (by omega) (by omega)]
    show _ = dm50_13 b (Int32.ofNat (j + (if b01 (isL t[j]) = 0 then 0 else cntF isL (t.drop (j + 1)) + 1))) s
    split
    · rfl
    · rw [show j + 1 + cntF isL (t.drop (j + 1)) = j + (cntF isL (t.drop (j + 1)) + 1) by omega]
/-- one to three letters, then digits alone -/
def likeCell (t : List Int32) : Prop := 1 ≤ cntF isL t ∧ cntF isL t ≤ 3 ∧ 0 < cntF isD (t.drop (cntF isL t)) ∧ cntF isL t + cntF isD (t.drop (cntF isL t)) = t.length
set_option maxRecDepth 100000 in
theorem d50 {s : aS} {b : Nat} {t : List Int32} (h : LT s b t) (hT : t.length ≤ (sT s (b + 1)).2) (hm : t.length < 4000) : dm50 b s = some (b01 (likeCell t)) := by
  have a := d50a h hT hm t.length 0 5000 (by omega) (by omega)
  rw [List.drop_zero, Nat.zero_add] at a
  have hl := cntF_le isL t
  have hd := cntF_le isD (t.drop (cntF isL t))
  rw [List.length_drop] at hd
  unfold dm50
  rw [show (0 : Int32) = Int32.ofNat 0 from rfl, a]
  unfold dm50_13
  rw [d50b h hT hm hl (t.length - cntF isL t) _ 5000 (by omega) (by omega)]
  unfold dm50_26 dm28
  simp only [bu_some]
  have e1 : (Int32.ofNat (cntF isL t)).toInt = cntF isL t := iOfNat (by omega)
  have e2 : (Int32.ofNat (cntF isL t + cntF isD (t.drop (cntF isL t)))).toInt = ((cntF isL t + cntF isD (t.drop (cntF isL t)) : Nat) : Int) := iOfNat (by omega)
  have e3 : (Int32.ofNat t.length).toInt = t.length := iOfNat (by omega)
  rw [h.n]
  unfold likeCell
  by_cases c1 : 1 ≤ cntF isL t
  · rw [if_neg (by rw [iLt, e1]; show ¬ (cntF isL t : Int) < 1; omega)]
    by_cases c2 : cntF isL t ≤ 3
    · rw [if_neg (by rw [iLt, e1]; show ¬ (3 : Int) < cntF isL t; omega)]
      by_cases c3 : 0 < cntF isD (t.drop (cntF isL t))
      · rw [if_neg (by rw [iLe, e1, e2]; omega)]
        by_cases c4 : cntF isL t + cntF isD (t.drop (cntF isL t)) = t.length
        · rw [if_pos (by rw [c4]), b01_t ⟨c1, c2, c3, c4⟩]
        · rw [if_neg (by rw [iEq, e2, e3]; omega), b01_f (fun q => c4 q.2.2.2)]
      · rw [if_pos (by rw [iLe, e1, e2]; omega), b01_f (fun q => c3 q.2.2.1)]
    · rw [if_pos (by rw [iLt, e1]; show (3 : Int) < cntF isL t; omega), b01_f (fun q => c2 q.2.1)]
  · rw [if_pos (by rw [iLt, e1]; show (cntF isL t : Int) < 1; omega), b01_f (fun q => c1 q.1)]
end
section
/-! texts of its own: lengths, characters, spelling -/
def ST (s : aS) (a : Nat) (u : List Int32) : Prop := sI s a 1 = 0 ∧ (sT s (a + 1)).2 = u.length ∧ ∀ j (h : j < u.length), sI s (a + 1) j = u[j]
set_option maxRecDepth 100000 in
theorem ST.ly {tt : Nat} {xs : List Int32} {s : aS} (h : Ly tt (cCc xs) s) (k : Nat) (hk : k < 38) : ST s (2 * k + 1) (zTx.getD k ("", 0, [])).2.2 := by
  have key : ∀ k : Fin 38, zTz.getD (2 * k.val + 2) (0, 0) = (101, (zTx.getD k.val ("", 0, [])).2.2.length) := by decide +kernel
  have h78 : zK = 78 := rfl
  refine ⟨?_, ?_, fun j hj => ?_⟩
  · rw [h.2.2.2.2.2.2.2.2 (2 * k + 1) 1 (by omega)]
    unfold cCc
    rw [if_neg (by omega), if_pos (by omega)]
  · rw [h.lowT (a := 2 * k + 1 + 1) (by omega)]
    unfold zTt0
    rw [if_neg (by omega), key ⟨k, hk⟩]
  · rw [h.2.2.2.2.2.2.2.2 (2 * k + 1 + 1) j (by omega)]
    unfold cCc
    rw [if_neg (by omega), if_neg (by omega), show (2 * k + 1 + 1 - 2) / 2 = k by omega]
    generalize (zTx.getD k ("", 0, [])).2.2 = l at hj ⊢
    simp [List.getD, List.getElem?_eq_getElem hj]
set_option maxRecDepth 100000 in
theorem ST.of {A : Nat → Nat → Prop} {s s1 : aS} {a : Nat} {u : List Int32} (h : ST s a u) (ha : a + 1 < 78) (g : ch A s s1) (h1 : ∀ a k, A a k → 78 ≤ a) : ST s1 a u := ⟨(g.i fun q => by have := h1 _ _ q; omega).trans h.1, by rw [g.2.1]; exact h.2.1, fun j hj => (g.i fun q => by have := h1 _ _ q; omega).trans (h.2.2 j hj)⟩
set_option maxRecDepth 100000 in
theorem d254 {s : aS} {a : Nat} {u : List Int32} (h : ST s a u) (hm : u.length < 1000000) : dm254 a s = some (Int32.ofNat u.length) := by
  unfold dm254 dm255
  rw [h.1, if_pos (by decide)]
  simp only [bu_some]
  rw [h.2.1]
  have : Int32.ofNat u.length >>> ((0 : Int32) &&& 31) = Int32.ofNat u.length := by
    rw [show ((0 : Int32) &&& 31) = 0 by decide]
    apply Int32.toBitVec_inj.mp
    rw [Int32.toBitVec_shiftRight]
    show BitVec.sshiftRight' (Int32.ofNat u.length).toBitVec (BitVec.smod 0#32 32#32) = _
    rw [show BitVec.smod 0#32 32#32 = 0#32 by decide, BitVec.sshiftRight', show (0#32).toNat = 0 from rfl, BitVec.sshiftRight_zero]
  rw [this]
set_option maxRecDepth 100000 in
theorem and255_id {x : Int32} (h : 0 ≤ x.toInt ∧ x.toInt ≤ 255) : x &&& 255 = x := by
  have hn := nonneg_nat h.1
  apply Int32.toBitVec_inj.mp
  apply BitVec.eq_of_toNat_eq
  show (x.toBitVec &&& 255#32).toNat = _
  rw [BitVec.toNat_and]
  show x.toBitVec.toNat &&& (2 ^ 8 - 1) = _
  rw [Nat.and_two_pow_sub_one_eq_mod]
  omega
set_option maxRecDepth 100000 in
theorem d259 {s : aS} {a j : Nat} {u : List Int32} (h : ST s a u) (hm : u.length < 1000000) (hj : j < u.length) (hx : 0 ≤ (u[j]).toInt ∧ (u[j]).toInt ≤ 127) : dm259 a (Int32.ofNat j) s = some (u[j], s) := by
  have e1 : (Int32.ofNat j).toInt = j := iOfNat (by omega)
  unfold dm259 dm253 dm260 dm261 dm262
  rw [h.1, if_pos rfl]
  simp only [bu_some]
  rw [if_neg (by decide), h.2.1, if_neg (by rw [iLt, e1]; show ¬ (j : Int) < 0; omega), if_pos (by rw [iLt, e1, iOfNat (by omega)]; omega)]
  simp only [bu_some]
  rw [h.2.1, if_pos (by rw [aB_iff, e1]; omega), jN_of (by omega), h.2.2 j hj, and255_id (by omega), i2c_id (by omega)]
  have c : 0 ≤ u[j] ∧ u[j] ≤ 65535 := by
    rw [iLe, iLe]
    show (0 : Int) ≤ _ ∧ _ ≤ (65535 : Int)
    omega
  rw [if_pos c]
  simp only [bv_some]
  rw [if_pos c]
/-- do the letters from o on spell the first m of u -/
def spQ (t u : List Int32) (o m j : Nat) : Prop := ∀ k, j ≤ k → k < m → gr (t.getD (o + k) (-1)) = u.getD k 0
set_option maxRecDepth 100000 in
theorem d49l {s : aS} {b a o m : Nat} {t u : List Int32} (h : LT s b t) (hT : t.length ≤ (sT s (b + 1)).2) (hm : t.length < 100000) (g : ST s a u) (hu : u.length < 100000) (hmu : m ≤ u.length) (ho : o < 100000) (hx : ∀ x ∈ u, 0 ≤ x.toInt ∧ x.toInt ≤ 127) : ∀ (q j n : Nat), j + q = m → q + 1 < n → dm49_10 n b a (Int32.ofNat m) (Int32.ofNat o) 1 (Int32.ofNat j) s = some (b01 (spQ t u o m j), s) := by
  intro q
  induction q with
  | zero =>
    intro j n hj hn
    obtain ⟨n, rfl⟩ : ∃ k, n = k + 1 := ⟨n - 1, by omega⟩
    rw [dm49_10, if_pos (by rw [iLe, iOfNat (by omega), iOfNat (by omega)]; omega), if_pos (Or.inr rfl), b01_t]
    intro k h1 h2
    omega
  | succ q ih =>
    intro j n hj hn
    obtain ⟨n, rfl⟩ : ∃ k, n = k + 1 := ⟨n - 1, by omega⟩
    have h1 : j < u.length := by omega
    have e1 : u.getD j 0 = u[j] := by simp [List.getD, List.getElem?_eq_getElem h1]
    rw [dm49_10, if_neg (by rw [iLe, iOfNat (by omega), iOfNat (by omega)]; omega), if_neg (by decide), iSum (by omega) (by omega), d34 h hT (by omega) (by omega)]
    simp only [bu_some, d35]
    rw [d259 g (by omega) h1 (hx _ (List.getElem_mem h1))]
    simp only [bv_some]
    unfold dm49_28
    rw [ofNat_succ (by omega)]
    by_cases hq : gr (t.getD (o + j) (-1)) = u[j]
    · rw [if_pos hq, ih (j + 1) n (by omega) (by omega)]
      congr 2
      refine b01_c ⟨fun z k k1 k2 => ?_, fun z k k1 k2 => z k (by omega) k2⟩
      by_cases hk : k = j
      · subst hk; rw [e1]; exact hq
      · exact z k (by omega) k2
    · rw [if_neg hq, b01_f (fun z => hq (by rw [← e1]; exact z j (Nat.le_refl _) (by omega)))]
      obtain ⟨n, rfl⟩ : ∃ k, n = k + 1 := ⟨n - 1, by omega⟩
      rw [dm49_10]
      split
      · rw [if_pos (Or.inl rfl)]
      · rw [if_pos rfl, if_pos (Or.inl rfl)]
set_option maxRecDepth 100000 in
theorem d49 {s : aS} {b a o m : Nat} {t u : List Int32} (h : LT s b t) (hT : t.length ≤ (sT s (b + 1)).2) (hm : t.length < 100000) (g : ST s a u) (hu : u.length < 4000) (hmu : m ≤ u.length) (ho : o < 100000) (hx : ∀ x ∈ u, 0 ≤ x.toInt ∧ x.toInt ≤ 127) : dm49 b a (Int32.ofNat m) (Int32.ofNat o) s = some (b01 (spQ t u o m 0), s) := by
  unfold dm49 dm49_7
  rw [d254 g (by omega)]
  simp only [bu_some]
  rw [if_neg (by rw [iLt, iOfNat (by omega), iOfNat (by omega)]; omega)]
  exact d49l h hT hm g (by omega) hmu ho hx m 0 5000 (by omega) (by omega)
/-- TRUE and FALSE -/
def trL : List Int32 := [84, 82, 85, 69]
def faL : List Int32 := [70, 65, 76, 83, 69]
def TF (s : aS) : Prop := ST s 11 trL ∧ ST s 13 faL
set_option maxRecDepth 100000 in
theorem TF.ly {tt : Nat} {xs : List Int32} {s : aS} (h : Ly tt (cCc xs) s) : TF s := ⟨ST.ly h 5 (by decide), ST.ly h 6 (by decide)⟩
set_option maxRecDepth 100000 in
theorem TF.of {A : Nat → Nat → Prop} {s s1 : aS} (h : TF s) (g : ch A s s1) (h1 : ∀ a k, A a k → 78 ≤ a) : TF s1 := ⟨h.1.of (by decide) g h1, h.2.of (by decide) g h1⟩
set_option maxRecDepth 100000 in
/-- is what stands from o to e one of them: 1, 0, or neither -/
noncomputable def trI (t : List Int32) (o e : Nat) : Int32 := if e = o + 4 ∧ b01 (spQ t trL o 4 0) = 1 then 1 else if e = o + 5 ∧ b01 (spQ t faL o 5 0) = 1 then 0 else -1
set_option maxRecDepth 100000 in
theorem b01_01 (p : Prop) : b01 p = 0 ∨ b01 p = 1 := by
  by_cases h : p
  · exact Or.inr (b01_t h)
  · exact Or.inl (b01_f h)
set_option maxRecDepth 100000 in
theorem d48 {s : aS} {b o e : Nat} {t : List Int32} (h : LT s b t) (hT : t.length ≤ (sT s (b + 1)).2) (hm : t.length < 100000) (g : TF s) (ho : o < 100000) (he : e < 100000) : dm48 b (Int32.ofNat o) (Int32.ofNat e) s = some (trI t o e, s) := by
  have e1 : (Int32.ofNat o).toInt = o := iOfNat (by omega)
  have e2 : (Int32.ofNat e).toInt = e := iOfNat (by omega)
  have e3 : (Int32.ofNat e - Int32.ofNat o).toInt = (e : Int) - o := by rw [iSub (by omega) (by omega), e1, e2]
  have c4 : Int32.ofNat e - Int32.ofNat o = 4 ↔ e = o + 4 := by
    rw [iEq, e3]
    show (e : Int) - o = 4 ↔ _
    omega
  have c5 : Int32.ofNat e - Int32.ofNat o = 5 ↔ e = o + 5 := by
    rw [iEq, e3]
    show (e : Int) - o = 5 ↔ _
    omega
  have q4 : dm49 b 11 4 (Int32.ofNat o) s = some (b01 (spQ t trL o 4 0), s) := d49 (m := 4) h hT hm g.1 (by decide) (by decide) ho (by decide)
  have q5 : dm49 b 13 5 (Int32.ofNat o) s = some (b01 (spQ t faL o 5 0), s) := d49 (m := 5) h hT hm g.2 (by decide) (by decide) ho (by decide)
  have z5 : dm48_13 b (Int32.ofNat o) (Int32.ofNat e) s = some (if e = o + 5 ∧ b01 (spQ t faL o 5 0) = 1 then 0 else -1, s) := by
    unfold dm48_13
    by_cases h5 : e = o + 5
    · rw [if_pos (c5.mpr h5), q5]
      simp only [bv_some]
      rcases b01_01 (spQ t faL o 5 0) with z | z
      · rw [z, if_pos rfl, if_neg (fun q => absurd q.2 (by decide))]
      · rw [z, if_neg (by decide), if_pos ⟨h5, rfl⟩]
    · rw [if_neg (fun q => h5 (c5.mp q)), if_neg (fun q => h5 q.1)]
  unfold dm48 trI
  by_cases h4 : e = o + 4
  · rw [if_pos (c4.mpr h4), q4]
    simp only [bv_some]
    rcases b01_01 (spQ t trL o 4 0) with z | z
    · rw [z, if_pos rfl, z5, if_neg (show ¬ (e = o + 4 ∧ (0 : Int32) = 1) from fun q => absurd q.2 (by decide))]
    · rw [z, if_neg (by decide), if_pos ⟨h4, rfl⟩]
  · rw [if_neg (fun q => h4 (c4.mp q)), z5, if_neg (show ¬ (e = o + 4 ∧ b01 (spQ t trL o 4 0) = 1) from fun q => h4 q.1)]
/-- is a name written in quotes -/
def qtP (t : List Int32) : Prop := wEnd t 0 ≠ t.length ∨ trI t 0 t.length ≠ -1 ∨ likeCell t
set_option maxRecDepth 100000 in
theorem wEnd_le {t : List Int32} {i : Nat} (h : i ≤ t.length) : wEnd t i ≤ t.length := by
  unfold wEnd
  have := cntF_le gW (t.drop i)
  rw [List.length_drop] at this
  split <;> omega
set_option maxRecDepth 100000 in
theorem d42 {s : aS} {b : Nat} {t : List Int32} (h : LT s b t) (hT : t.length ≤ (sT s (b + 1)).2) (hm : t.length < 4000) (g : TF s) : dm42 b s = some (b01 (qtP t), s) := by
  have hw := wEnd_le (Nat.zero_le t.length)
  unfold dm42 dm28 dm42_11 dm42_23
  simp only [bu_some]
  rw [show (0 : Int32) = Int32.ofNat 0 from rfl, d43 h hT hm (Nat.zero_le _), h.n]
  simp only [bu_some]
  by_cases h1 : wEnd t 0 = t.length
  · rw [if_pos (by rw [h1]), if_neg (by decide), d48 h hT (by omega) g (by omega) (by omega)]
    simp only [bv_some]
    by_cases h2 : trI t 0 t.length = -1
    · rw [if_pos h2, d50 h hT hm]
      simp only [bu_some]
      by_cases h3 : likeCell t
      · rw [b01_t h3, if_neg (by decide), b01_t (show qtP t from Or.inr (Or.inr h3))]
      · rw [b01_f h3, if_pos (show (0 : Int32) = Int32.ofNat 0 from rfl), b01_f (p := qtP t)]
        · rfl
        · rintro (q | q | q)
          · exact q h1
          · exact q h2
          · exact h3 q
    · rw [if_neg h2, b01_t (show qtP t from Or.inr (Or.inl h2))]
  · rw [if_neg (by rw [iEq, iOfNat (by omega), iOfNat (by omega)]; omega), if_pos trivial, b01_t (show qtP t from Or.inl h1)]
end
section
/-! a name is given: letters copied, quotes noted -/
set_option maxRecDepth 100000 in
theorem d41l {s0 : aS} {b0 b1 m : Nat} {u : List Int32} (hd : b0 ≠ b1 ∧ b0 + 1 ≠ b1 ∧ b0 ≠ b1 + 1) (hb : (sT s0 (b0 + 1)).2 = m) (hb1 : u.length ≤ (sT s0 (b1 + 1)).2) (hm : m < 100000) (hu : u.length ≤ m) (ho : okT u) : ∀ (q i n : Nat) (s : aS), i + q = u.length → q < n → LT s b0 (u.take i) → LT s b1 u → ch (fun a k => (a = b0 ∧ k = 1) ∨ a = b0 + 1) s0 s → ∃ s', dm41_4 n b0 b1 (Int32.ofNat i) s = some s' ∧ LT s' b0 u ∧ ch (fun a k => (a = b0 ∧ k = 1) ∨ a = b0 + 1) s0 s' := by
  intro q
  induction q with
  | zero =>
    intro i n s hi hn h0 h1 hc
    obtain ⟨n, rfl⟩ : ∃ k, n = k + 1 := ⟨n - 1, by omega⟩
    rw [dm41_4]
    unfold dm28
    simp only [bu_some]
    rw [h1.n, if_pos (by rw [iLe, iOfNat (by omega), iOfNat (by omega)]; omega)]
    rw [List.take_of_length_le (by omega)] at h0
    exact ⟨s, rfl, h0, hc⟩
  | succ q ih =>
    intro i n s hi hn h0 h1 hc
    obtain ⟨n, rfl⟩ : ∃ k, n = k + 1 := ⟨n - 1, by omega⟩
    have hl : i < u.length := by omega
    have e1 : u.getD i (-1) = u[i] := by simp [List.getD, List.getElem?_eq_getElem hl]
    have hx := ho _ (List.getElem_mem hl)
    rw [dm41_4]
    unfold dm28
    simp only [bu_some]
    rw [h1.n, if_neg (by rw [iLe, iOfNat (by omega), iOfNat (by omega)]; omega), d34 h1 (by rw [hc.2.1]; exact hb1) (by omega) (by omega)]
    simp only [bu_some]
    rw [e1]
    obtain ⟨s1, g1, g2, g3⟩ := h0.add (m := m) (x := u[i]) (by rw [hc.2.1]; exact hb) (by omega) (by rw [List.length_take]; omega) (by omega)
    rw [g1]
    simp only [bu_some]
    rw [ofNat_succ (by omega)]
    refine ih (i + 1) n s1 (by omega) (by omega) ?_ (h1.of g3 (by omega) (by omega)) (hc.trans g3)
    rw [List.take_succ_eq_append_getElem hl]
    exact g2
set_option maxRecDepth 100000 in
theorem d41 {s : aS} {b0 b1 m : Nat} {u : List Int32} (h : LT s b1 u) (hd : b0 ≠ b1 ∧ b0 + 1 ≠ b1 ∧ b0 ≠ b1 + 1) (hb : (sT s (b0 + 1)).2 = m) (hb1 : u.length ≤ (sT s (b1 + 1)).2) (hm : m < 4000) (hu : u.length ≤ m) (ho : okT u) : ∃ s', dm41 b0 b1 s = some s' ∧ LT s' b0 u ∧ ch (fun a k => (a = b0 ∧ k = 1) ∨ a = b0 + 1) s s' := by
  unfold dm41 dm26
  simp only [nx_eq, bu_some]
  have hc : ch (fun a k => (a = b0 ∧ k = 1) ∨ a = b0 + 1) s (wI s b0 1 0) := (ch.refl _ s).wI (Or.inl ⟨rfl, rfl⟩)
  refine d41l hd hb hb1 (by omega) hu ho u.length 0 5000 _ (by omega) (by omega) ⟨?_, fun j hj => by cases hj⟩ (h.of hc (by omega) (by omega)) hc
  rw [sI_wI, if_pos ⟨rfl, rfl⟩]
  rfl
/-- names and their quotes -/
def SQ (s : aS) (ns : List (List Int32)) : Prop := SC s ns ∧ ∀ i (h : i < ns.length), sI s 83 i = b01 (qtP ns[i])
set_option maxRecDepth 100000 in
theorem b01_and (p : Prop) : b01 p &&& 1 = b01 p := by
  rcases b01_01 p with h | h <;> rw [h] <;> rfl
set_option maxRecDepth 100000 in
theorem d40 {s : aS} {ns : List (List Int32)} (h : SC s ns) (ho : ns.length ≤ 8) (x : Int32) : dm40 x s = some (b01 (0 ≤ x.toInt ∧ x.toInt < ns.length)) := by
  unfold dm40
  rw [h.1]
  have l1 : x < 0 ↔ x.toInt < 0 := iLt
  have l2 : Int32.ofNat ns.length ≤ x ↔ (ns.length : Int) ≤ x.toInt := by rw [iLe, iOfNat (by omega)]
  by_cases h1 : x < 0
  · rw [if_pos h1, b01_f]
    have := l1.mp h1
    omega
  · rw [if_neg h1]
    have h1 : ¬ x.toInt < 0 := fun q => h1 (l1.mpr q)
    by_cases h2 : Int32.ofNat ns.length ≤ x
    · rw [if_pos h2, b01_f]
      have := l2.mp h2
      omega
    · rw [if_neg h2, b01_t]
      have h2 : ¬ (ns.length : Int) ≤ x.toInt := fun q => h2 (l2.mpr q)
      omega
set_option maxRecDepth 100000 in
/-- name number i becomes u; which letters u are stands elsewhere -/
theorem d39 {s : aS} {i b2 n9 : Nat} {u : List Int32} (hn : sI s 81 2 = Int32.ofNat n9) (hi : i < n9) (h8 : n9 ≤ 8) (hr : RC s) (g : TF s) (h : LT s b2 u) (hu : u.length ≤ 31) (ho : okT u) (h2 : u.length ≤ (sT s (b2 + 1)).2) (hd : 84 + 2 * i ≠ b2 ∧ 84 + 2 * i + 1 ≠ b2 ∧ 84 + 2 * i ≠ b2 + 1) : ∃ s', dm39 (Int32.ofNat i) b2 s = some s' ∧ LT s' (84 + 2 * i) u ∧ sI s' 83 i = b01 (qtP u) ∧ ch (fun a k => (a = 84 + 2 * i ∧ k = 1) ∨ a = 84 + 2 * i + 1 ∨ (a = 83 ∧ k = i)) s s' := by
  have e1 : (Int32.ofNat i).toInt = i := iOfNat (by omega)
  obtain ⟨s1, g1, g2, g3⟩ := d41 (b0 := 84 + 2 * i) (m := 31) h hd (by rw [show 84 + 2 * i + 1 = 85 + 2 * i by omega]; exact hr.2 i (by omega)) h2 (by decide) hu ho
  have hl : LT s1 b2 u := h.of g3 (by omega) (by omega)
  have hq := d42 hl (by rw [g3.2.1]; exact h2) (by omega) (g.of g3 (by omega))
  refine ⟨wI s1 83 i (b01 (qtP u)), ?_, ?_, ?_, ?_⟩
  · unfold dm39 dm40
    rw [hn, if_neg (by rw [iLt, e1]; show ¬ (i : Int) < 0; omega), if_neg (by rw [iLe, e1, iOfNat (by omega)]; omega)]
    simp only [bu_some]
    have ej : jN (Int32.ofNat i) = i := jN_of (by omega)
    have gj : dm41 (84 + 2 * jN (Int32.ofNat i)) b2 s = some s1 := by rw [ej]; exact g1
    rw [if_neg (by decide), if_pos (by rw [aB_iff, e1]; omega), gj]
    simp only [bu_some]
    rw [hq]
    simp only [bv_some, nx_eq]
    rw [if_pos (by rw [aB_iff, e1]; omega), b01_and, ej]
  · exact ⟨(sI_wI _ _ _ _ _ _).trans ((if_neg (by omega)).trans g2.n), fun j hj => (sI_wI _ _ _ _ _ _).trans ((if_neg (by omega)).trans (g2.c j hj))⟩
  · rw [sI_wI, if_pos ⟨rfl, rfl⟩]
  · exact (g3.mono fun a k q => by omega).wI (Or.inr (Or.inr ⟨rfl, rfl⟩))
set_option maxRecDepth 100000 in
theorem d31 {s : aS} {t : List Int32} {ns : List (List Int32)} (hs : SC s ns) (hr : RC s) (hn : nsOk ns) (hf : FB s) (h : LT s 79 t) (hl : t.length ≤ 256) (ho : okT t) (x : Int32) : dm31 79 x s = some (b01 (nmP t ∧ (fndF t ns 0 = -1 ∨ fndF t ns 0 = x))) := by
  unfold dm31 dm31_13
  rw [d32 hs hr hn h (by rw [show 79 + 1 = 80 from rfl, hr.1]; exact hl) (by omega), d36 h (by rw [show 79 + 1 = 80 from rfl, hr.1]; exact hl) (by omega) hf ho]
  simp only [bu_some]
  by_cases h1 : nmP t
  · rw [b01_t h1, if_neg (by decide)]
    by_cases h2 : fndF t ns 0 = -1
    · rw [if_pos h2, b01_t ⟨h1, Or.inl h2⟩]
    · rw [if_neg h2]
      by_cases h3 : fndF t ns 0 = x
      · rw [if_pos h3, b01_t ⟨h1, Or.inr h3⟩]
      · rw [if_neg h3, b01_f]
        rintro ⟨-, q | q⟩
        · exact h2 q
        · exact h3 q
  · rw [b01_f h1, if_pos rfl, b01_f (fun q => h1 q.1)]
set_option maxRecDepth 100000 in
/-- a new sheet -/
theorem SQ.up {s s' : aS} {ns : List (List Int32)} {i : Nat} {u : List Int32} (h : SQ s ns) (hi : i < ns.length) (hu : LT s' (84 + 2 * i) u) (hq : sI s' 83 i = b01 (qtP u)) (hc : ch (fun a k => (a = 84 + 2 * i ∧ k = 1) ∨ a = 84 + 2 * i + 1 ∨ (a = 83 ∧ k = i)) s s') : SQ s' (ns.set i u) := by
  refine ⟨⟨?_, fun j hj => ?_⟩, fun j hj => ?_⟩
  · rw [hc.i (by omega), h.1.1, List.length_set]
  · rw [List.length_set] at hj
    by_cases e : j = i
    · subst e
      rw [List.getElem_set_self]
      exact hu
    · rw [List.getElem_set_ne (fun q => e q.symm)]
      exact (h.1.2 j hj).of hc (by omega) (by omega)
  · rw [List.length_set] at hj
    by_cases e : j = i
    · subst e
      rw [List.getElem_set_self]
      exact hq
    · rw [List.getElem_set_ne (fun q => e q.symm), hc.i (by omega)]
      exact h.2 j hj
set_option maxRecDepth 100000 in
theorem d30 {s : aS} {t : List Int32} {ns : List (List Int32)} (hs : SQ s ns) (hr : RC s) (hn : nsOk ns) (hf : FB s) (g : TF s) (h : LT s 79 t) (hl : t.length ≤ 256) (ho : okT t) :
    (¬ (nmP t ∧ fndF t ns 0 = -1) ∧ dm30 s = some (.inr 0, nw s 80 0)) ∨
    ((nmP t ∧ fndF t ns 0 = -1) ∧ ns.length = 8 ∧ dm30 s = some (.inr 1, nw s 81 0)) ∨
    ((nmP t ∧ fndF t ns 0 = -1) ∧ ns.length < 8 ∧ ∃ s', dm30 s = some (.inl (some (.int (Int32.ofNat ns.length))), s') ∧ SQ s' (ns ++ [t]) ∧ ch (fun a _ => 81 ≤ a ∧ a ≤ 99) s s') := by
  have h8 := hn.1
  unfold dm30
  rw [d31 hs.1 hr hn hf h hl ho]
  simp only [bu_some]
  by_cases hq : nmP t ∧ fndF t ns 0 = -1
  · right
    rw [b01_t ⟨hq.1, Or.inl hq.2⟩, if_neg (by decide)]
    unfold dm37
    rw [hs.1.1]
    by_cases hl8 : ns.length < 8
    · right
      refine ⟨hq, hl8, ?_⟩
      rw [if_pos (by rw [iLt, iOfNat (by omega)]; show (ns.length : Int) < 8; omega)]
      simp only [bu_some]
      rw [if_pos trivial]
      unfold dm38 dm37
      rw [hs.1.1, if_pos (by rw [iLt, iOfNat (by omega)]; show (ns.length : Int) < 8; omega)]
      simp only [bu_some]
      rw [if_pos trivial, nx_eq]
      have hc1 : ch (fun a _ => 81 ≤ a ∧ a ≤ 99) s (wI s 81 2 (Int32.ofNat ns.length + 1)) := (ch.refl _ s).wI ⟨by omega, by omega⟩
      have hv : sI (wI s 81 2 (Int32.ofNat ns.length + 1)) 81 2 = Int32.ofNat (ns.length + 1) := by
        rw [sI_wI, if_pos ⟨rfl, rfl⟩, ofNat_succ (by omega)]
      have hm : Int32.ofNat (ns.length + 1) - 1 = Int32.ofNat ns.length := by
        apply Int32.toInt_inj.mp
        rw [iSub (y := 1) (by rw [iOfNat (by omega)]; show _ ≤ ((ns.length + 1 : Nat) : Int) - 1; omega) (by rw [iOfNat (by omega)]; show ((ns.length + 1 : Nat) : Int) - 1 ≤ _; omega), iOfNat (by omega), iOfNat (by omega)]
        show ((ns.length + 1 : Nat) : Int) - 1 = _
        omega
      obtain ⟨s', g1, g2, g3, g4⟩ := d39 (i := ns.length) (n9 := ns.length + 1) (b2 := 79) (u := t) hv (by omega) (by omega) (hr.of hc1) (g.of hc1 (by omega)) (h.of hc1 (by omega) (by omega)) hq.1.2.1 ho (by rw [hc1.2.1, show 79 + 1 = 80 from rfl, hr.1]; exact hl) (by omega)
      rw [hv, hm, g1]
      simp only [bu_some, bv_some]
      have hv2 : sI s' 81 2 = Int32.ofNat (ns.length + 1) := (g4.i (by omega)).trans hv
      refine ⟨s', by rw [hv2, hm], ⟨⟨?_, fun i hi => ?_⟩, fun i hi => ?_⟩, hc1.trans (g4.mono fun a k q => by omega)⟩
      · rw [hv2, List.length_append]
        rfl
      · rw [List.length_append] at hi
        have hi : i < ns.length + 1 := hi
        by_cases e : i = ns.length
        · subst e
          rw [List.getElem_append_right (Nat.le_refl _)]
          simp only [Nat.sub_self, List.getElem_cons_zero]
          exact g2
        · rw [List.getElem_append_left (by omega)]
          exact ((hs.1.2 i (by omega)).of ((ch.refl (fun a k => a = 81 ∧ k = 2) s).wI ⟨rfl, rfl⟩) (by omega) (by omega)).of g4 (by omega) (by omega)
      · rw [List.length_append] at hi
        have hi : i < ns.length + 1 := hi
        by_cases e : i = ns.length
        · subst e
          rw [List.getElem_append_right (Nat.le_refl _)]
          simp only [Nat.sub_self, List.getElem_cons_zero]
          exact g3
        · rw [List.getElem_append_left (by omega), g4.i (by omega), sI_wI, if_neg (by omega)]
          exact hs.2 i (by omega)
    · left
      refine ⟨hq, by omega, ?_⟩
      rw [if_neg (by rw [iLt, iOfNat (by omega)]; show ¬ (ns.length : Int) < 8; omega)]
      simp only [bu_some]
      rw [if_neg (by decide)]
  · left
    rw [b01_f, if_pos rfl]
    · exact ⟨hq, rfl⟩
    · rintro ⟨q1, q2 | q2⟩
      · exact hq ⟨q1, q2⟩
      · exact hq ⟨q1, q2⟩
end
section
/-! a sheet gets another name, is taken away, tells its name -/
set_option maxRecDepth 100000 in
theorem d51 {s : aS} {t : List Int32} {ns : List (List Int32)} (hs : SQ s ns) (hr : RC s) (hn : nsOk ns) (hf : FB s) (g : TF s) (h : LT s 79 t) (hl : t.length ≤ 256) (ho : okT t) (x : Int32) :
    (¬ (0 ≤ x.toInt ∧ x.toInt < ns.length) ∧ dm51 x s = some (.inr 2, nw s 82 0)) ∨
    ((0 ≤ x.toInt ∧ x.toInt < ns.length) ∧ ¬ (nmP t ∧ (fndF t ns 0 = -1 ∨ fndF t ns 0 = x)) ∧ dm51 x s = some (.inr 0, nw s 80 0)) ∨
    ((0 ≤ x.toInt ∧ x.toInt < ns.length) ∧ (nmP t ∧ (fndF t ns 0 = -1 ∨ fndF t ns 0 = x)) ∧ ∃ s', dm51 x s = some (.inl none, s') ∧ SQ s' (ns.set x.toInt.toNat t) ∧ ch (fun a _ => 81 ≤ a ∧ a ≤ 99) s s') := by
  have h8 := hn.1
  unfold dm51
  rw [d40 hs.1 h8, d31 hs.1 hr hn hf h hl ho]
  simp only [bu_some]
  by_cases hx : 0 ≤ x.toInt ∧ x.toInt < ns.length
  · right
    rw [b01_t hx, if_neg (by decide)]
    by_cases hq : nmP t ∧ (fndF t ns 0 = -1 ∨ fndF t ns 0 = x)
    · right
      refine ⟨hx, hq, ?_⟩
      rw [b01_t hq, if_neg (by decide)]
      have ex : x = Int32.ofNat x.toInt.toNat := by
        apply Int32.toInt_inj.mp
        rw [iOfNat (by omega)]
        omega
      obtain ⟨s', g1, g2, g3, g4⟩ := d39 (i := x.toInt.toNat) (n9 := ns.length) (b2 := 79) (u := t) hs.1.1 (by omega) h8 hr g h hq.1.2.1 ho (by rw [show 79 + 1 = 80 from rfl, hr.1]; exact hl) (by omega)
      rw [← ex] at g1
      rw [g1]
      exact ⟨s', rfl, hs.up (by omega) g2 g3 g4, g4.mono fun a k q => by omega⟩
    · left
      rw [b01_f hq, if_pos rfl]
      exact ⟨hx, hq, rfl⟩
  · left
    rw [b01_f hx, if_pos rfl]
    exact ⟨hx, rfl⟩
/-- names by their numbers -/
def SF (s : aS) (n : Nat) (f : Nat → List Int32) : Prop := sI s 81 2 = Int32.ofNat n ∧ ∀ k, k < n → LT s (84 + 2 * k) (f k) ∧ sI s 83 k = b01 (qtP (f k))
set_option maxRecDepth 100000 in
theorem getD_nm {ns : List (List Int32)} {k : Nat} (h : k < ns.length) : ns.getD k [] = ns[k] := by simp [List.getD, List.getElem?_eq_getElem h]
set_option maxRecDepth 100000 in
theorem SQ.f {s : aS} {ns : List (List Int32)} (h : SQ s ns) : SF s ns.length (fun k => ns.getD k []) := ⟨h.1.1, fun k hk => by
  show LT s _ (ns.getD k []) ∧ sI s 83 k = b01 (qtP (ns.getD k []))
  rw [getD_nm hk]
  exact ⟨h.1.2 k hk, h.2 k hk⟩⟩
set_option maxRecDepth 100000 in
theorem d53l {i n9 : Nat} {nm : Nat → List Int32} (hi : i < n9) (h8 : n9 ≤ 8) (hk : ∀ k, k < n9 → (nm k).length ≤ 31 ∧ okT (nm k)) : ∀ (m j n : Nat) (s : aS), j + m = n9 → i < j → m < n → RC s → TF s → SF s n9 (fun k => if i ≤ k ∧ k + 1 < j then nm (k + 1) else nm k) → ∃ s', dm53_8 n (Int32.ofNat j) s = some s' ∧ SF s' (n9 - 1) (fun k => if i ≤ k then nm (k + 1) else nm k) ∧ ch (fun a _ => 81 ≤ a ∧ a ≤ 99) s s' := by
  intro m
  induction m with
  | zero =>
    intro j n s hj hij hn hr ht hs
    obtain ⟨n, rfl⟩ : ∃ k, n = k + 1 := ⟨n - 1, by omega⟩
    rw [dm53_8, hs.1, if_pos (by rw [iLe, iOfNat (by omega), iOfNat (by omega)]; omega), nx_eq]
    have hm : Int32.ofNat n9 - 1 = Int32.ofNat (n9 - 1) := by
      apply Int32.toInt_inj.mp
      rw [iSub (y := 1) (by rw [iOfNat (by omega)]; show _ ≤ (n9 : Int) - 1; omega) (by rw [iOfNat (by omega)]; show (n9 : Int) - 1 ≤ _; omega), iOfNat (by omega), iOfNat (by omega)]
      show (n9 : Int) - 1 = ((n9 - 1 : Nat) : Int)
      omega
    have hc : ch (fun a k => a = 81 ∧ k = 2) s (wI s 81 2 (Int32.ofNat n9 - 1)) := (ch.refl _ s).wI ⟨rfl, rfl⟩
    refine ⟨_, rfl, ⟨by rw [sI_wI, if_pos ⟨rfl, rfl⟩, hm], fun k hk9 => ?_⟩, hc.mono fun a k q => by omega⟩
    obtain ⟨a1, a2⟩ := hs.2 k (by omega)
    have e : (if i ≤ k ∧ k + 1 < j then nm (k + 1) else nm k) = (if i ≤ k then nm (k + 1) else nm k) := by
      by_cases q : i ≤ k
      · rw [if_pos ⟨q, by omega⟩, if_pos q]
      · rw [if_neg (fun z => q z.1), if_neg q]
    have a1 : LT s (84 + 2 * k) (if i ≤ k ∧ k + 1 < j then nm (k + 1) else nm k) := a1
    have a2 : sI s 83 k = b01 (qtP (if i ≤ k ∧ k + 1 < j then nm (k + 1) else nm k)) := a2
    rw [e] at a1 a2
    exact ⟨a1.of hc (by omega) (by omega), (hc.i (by omega)).trans a2⟩
  | succ m ih =>
    intro j n s hj hij hn hr ht hs
    obtain ⟨n, rfl⟩ : ∃ k, n = k + 1 := ⟨n - 1, by omega⟩
    have ej : jN (Int32.ofNat j) = j := jN_of (by omega)
    have hm : Int32.ofNat j - 1 = Int32.ofNat (j - 1) := by
      apply Int32.toInt_inj.mp
      rw [iSub (y := 1) (by rw [iOfNat (by omega)]; show _ ≤ (j : Int) - 1; omega) (by rw [iOfNat (by omega)]; show (j : Int) - 1 ≤ _; omega), iOfNat (by omega), iOfNat (by omega)]
      show (j : Int) - 1 = ((j - 1 : Nat) : Int)
      omega
    obtain ⟨a1, a2⟩ := hs.2 j (by omega)
    have a1 : LT s (84 + 2 * j) (if i ≤ j ∧ j + 1 < j then nm (j + 1) else nm j) := a1
    rw [if_neg (by omega)] at a1
    obtain ⟨k1, k2⟩ := hk j (by omega)
    obtain ⟨s1, g1, g2, g3, g4⟩ := d39 (i := j - 1) (n9 := n9) (b2 := 84 + 2 * j) (u := nm j) hs.1 (by omega) h8 hr ht a1 k1 k2 (by rw [show 84 + 2 * j + 1 = 85 + 2 * j by omega, hr.2 j (by omega)]; exact k1) (by omega)
    have gj : dm39 (Int32.ofNat j - 1) (84 + 2 * jN (Int32.ofNat j)) s = some s1 := by rw [hm, ej]; exact g1
    rw [dm53_8, hs.1, if_neg (by rw [iLe, iOfNat (by omega), iOfNat (by omega)]; omega), if_pos (by rw [aB_iff, iOfNat (by omega)]; omega), gj]
    simp only [bu_some]
    rw [ofNat_succ (by omega)]
    obtain ⟨s', b1, b2, b3⟩ := ih (j + 1) n s1 (by omega) (by omega) (by omega) (hr.of g4) (ht.of g4 (by omega)) ⟨(g4.i (by omega)).trans hs.1, fun k hk9 => by
      show LT s1 _ (if i ≤ k ∧ k + 1 < j + 1 then nm (k + 1) else nm k) ∧ sI s1 83 k = b01 (qtP (if i ≤ k ∧ k + 1 < j + 1 then nm (k + 1) else nm k))
      by_cases e : k = j - 1
      · have e2 : k + 1 = j := by omega
        rw [if_pos (by omega), e2]
        subst e
        exact ⟨g2, g3⟩
      · obtain ⟨c1, c2⟩ := hs.2 k hk9
        have c1 : LT s (84 + 2 * k) (if i ≤ k ∧ k + 1 < j then nm (k + 1) else nm k) := c1
        have c2 : sI s 83 k = b01 (qtP (if i ≤ k ∧ k + 1 < j then nm (k + 1) else nm k)) := c2
        have e3 : (if i ≤ k ∧ k + 1 < j + 1 then nm (k + 1) else nm k) = (if i ≤ k ∧ k + 1 < j then nm (k + 1) else nm k) := by
          by_cases q : i ≤ k ∧ k + 1 < j
          · rw [if_pos q, if_pos (by omega)]
          · rw [if_neg q, if_neg (by omega)]
        rw [e3]
        exact ⟨c1.of g4 (by omega) (by omega), (g4.i (by omega)).trans c2⟩⟩
    exact ⟨s', b1, b2, (g4.mono fun a k q => by omega).trans b3⟩
set_option maxRecDepth 100000 in
theorem d53 {s : aS} {i : Nat} {ns : List (List Int32)} (hs : SQ s ns) (hr : RC s) (hn : nsOk ns) (g : TF s) (hi : i < ns.length) : ∃ s', dm53 (Int32.ofNat i) s = some s' ∧ SQ s' (ns.eraseIdx i) ∧ ch (fun a _ => 81 ≤ a ∧ a ≤ 99) s s' := by
  have h8 := hn.1
  have hk : ∀ k, k < ns.length → (ns.getD k []).length ≤ 31 ∧ okT (ns.getD k []) := fun k hk => by
    rw [getD_nm hk]
    have := hn.2 _ (List.getElem_mem hk)
    exact ⟨this.2.1, this.2.2⟩
  have hf := hs.f
  obtain ⟨s', g1, g2, g3⟩ := d53l (nm := fun k => ns.getD k []) hi h8 hk (ns.length - (i + 1)) (i + 1) 5000 s (by omega) (by omega) (by omega) hr g ⟨hf.1, fun k hk9 => by
    show LT s _ (if i ≤ k ∧ k + 1 < i + 1 then _ else ns.getD k []) ∧ sI s 83 k = b01 (qtP (if i ≤ k ∧ k + 1 < i + 1 then _ else ns.getD k []))
    rw [if_neg (by omega)]
    exact hf.2 k hk9⟩
  refine ⟨s', ?_, ⟨⟨?_, fun k hk9 => ?_⟩, fun k hk9 => ?_⟩, g3⟩
  · unfold dm53
    rw [d40 hs.1 h8, b01_t (by rw [iOfNat (by omega)]; omega)]
    simp only [bu_some]
    rw [if_neg (by decide), ofNat_succ (by omega), g1]
  · rw [g2.1, List.length_eraseIdx_of_lt hi]
  · rw [List.length_eraseIdx_of_lt hi] at hk9
    have := (g2.2 k hk9).1
    have : LT s' (84 + 2 * k) (if i ≤ k then ns.getD (k + 1) [] else ns.getD k []) := this
    rw [List.getElem_eraseIdx]
    by_cases q : k < i
    · rw [dif_pos q]
      rw [if_neg (by omega), getD_nm (by omega)] at this
      exact this
    · rw [dif_neg q]
      rw [if_pos (by omega), getD_nm (by omega)] at this
      exact this
  · rw [List.length_eraseIdx_of_lt hi] at hk9
    have := (g2.2 k hk9).2
    have : sI s' 83 k = b01 (qtP (if i ≤ k then ns.getD (k + 1) [] else ns.getD k [])) := this
    rw [List.getElem_eraseIdx]
    by_cases q : k < i
    · rw [dif_pos q]
      rw [if_neg (by omega), getD_nm (by omega)] at this
      exact this
    · rw [dif_neg q]
      rw [if_pos (by omega), getD_nm (by omega)] at this
      exact this
end
section
/-! the reference's names -/
set_option maxRecDepth 100000 in
theorem fnd_or (t : List Int32) : ∀ (ns : List (List Int32)) (i : Nat), fndF t ns i = -1 ∨ ∃ k, i ≤ k ∧ k < i + ns.length ∧ fndF t ns i = Int32.ofNat k
  | [], _ => Or.inl rfl
  | n :: r, i => by
    show (if b01 (lk n t) = 0 then fndF t r (i + 1) else Int32.ofNat i) = -1 ∨ ∃ k, i ≤ k ∧ k < i + (r.length + 1) ∧ (if b01 (lk n t) = 0 then fndF t r (i + 1) else Int32.ofNat i) = Int32.ofNat k
    split
    · rcases fnd_or t r (i + 1) with h | ⟨k, h1, h2, h3⟩
      · exact Or.inl h
      · exact Or.inr ⟨k, by omega, by omega, h3⟩
    · exact Or.inr ⟨i, by omega, by omega, rfl⟩
set_option maxRecDepth 100000 in
theorem fnd_neg {t : List Int32} {ns : List (List Int32)} (h : ns.length ≤ 8) : fndF t ns 0 < 0 ↔ fndF t ns 0 = -1 := by
  rcases fnd_or t ns 0 with e | ⟨k, h1, h2, e⟩
  · rw [e]
    exact ⟨fun _ => rfl, fun _ => by decide⟩
  · rw [e, iLt, iEq, iOfNat (by omega)]
    show (k : Int) < 0 ↔ (k : Int) = -1
    omega
set_option maxRecDepth 100000 in
theorem d179l {s0 : aS} {i : Nat} {t : List Int32} (hi : i < 8) (hl : t.length ≤ 31) : ∀ (m j n : Nat) (s : aS), j + m = t.length → m < n → MT s t → (∀ k (h : k < t.length), k < j → sI s 124 (32 * i + k) = t[k]) → ch (fun a k => (a = 123 ∧ k = i) ∨ (a = 124 ∧ 32 * i ≤ k ∧ k < 32 * i + 32)) s0 s → ∃ s', dm179_8 n (Int32.ofNat i) (Int32.ofNat j) s = some s' ∧ (∀ k (h : k < t.length), sI s' 124 (32 * i + k) = t[k]) ∧ (∀ k, sI s' 123 k = sI s 123 k) ∧ ch (fun a k => (a = 123 ∧ k = i) ∨ (a = 124 ∧ 32 * i ≤ k ∧ k < 32 * i + 32)) s0 s' := by
  intro m
  induction m with
  | zero =>
    intro j n s hj hn h hk hc
    obtain ⟨n, rfl⟩ : ∃ k, n = k + 1 := ⟨n - 1, by omega⟩
    rw [dm179_8, h.1, if_pos (by rw [iLe, iOfNat (by omega), iOfNat (by omega)]; omega)]
    exact ⟨s, rfl, fun k hk9 => hk k hk9 (by omega), fun _ => rfl, hc⟩
  | succ m ih =>
    intro j n s hj hn h hk hc
    obtain ⟨n, rfl⟩ : ∃ k, n = k + 1 := ⟨n - 1, by omega⟩
    have hjl : j < t.length := by omega
    rw [dm179_8, h.1, if_neg (by rw [iLe, iOfNat (by omega), iOfNat (by omega)]; omega), if_pos (by rw [aB_iff, iOfNat (by omega)]; omega), iLin (by omega) (by omega), if_pos (by rw [aB_iff, iOfNat (by omega)]; omega), nx_eq, jN_of (by omega), jN_of (by omega), h.2 j hjl, ofNat_succ (by omega)]
    have hc1 : ch (fun a k => a = 124 ∧ k = 32 * i + j) s (wI s 124 (32 * i + j) t[j]) := (ch.refl _ s).wI ⟨rfl, rfl⟩
    obtain ⟨s', g1, g2, g3, g4⟩ := ih (j + 1) n _ (by omega) (by omega) (h.of hc1 (by omega) (by omega)) (fun k hk9 hkj => by
      rw [sI_wI]
      by_cases e : k = j
      · subst e
        rw [if_pos ⟨rfl, rfl⟩]
      · rw [if_neg (by omega)]
        exact hk k hk9 (by omega)) (hc.trans (hc1.mono fun a k q => by omega))
    exact ⟨s', g1, g2, fun k => (g3 k).trans (hc1.i (by omega)), g4⟩
set_option maxRecDepth 100000 in
theorem d179 {s : aS} {i : Nat} {t : List Int32} (h : MT s t) (hi : i < 8) (hl : t.length ≤ 31) : ∃ s', dm179 (Int32.ofNat i) s = some s' ∧ sI s' 123 i = Int32.ofNat t.length ∧ (∀ k (h : k < t.length), sI s' 124 (32 * i + k) = t[k]) ∧ ch (fun a k => (a = 123 ∧ k = i) ∨ (a = 124 ∧ 32 * i ≤ k ∧ k < 32 * i + 32)) s s' := by
  have hc1 : ch (fun a k => (a = 123 ∧ k = i) ∨ (a = 124 ∧ 32 * i ≤ k ∧ k < 32 * i + 32)) s (wI s 123 i (Int32.ofNat t.length)) := (ch.refl _ s).wI (Or.inl ⟨rfl, rfl⟩)
  obtain ⟨s', g1, g2, g3, g4⟩ := d179l (s0 := s) hi hl t.length 0 5000 _ (by omega) (by omega) (h.of hc1 (by omega) (by omega)) (fun k _ q => by omega) hc1
  refine ⟨s', ?_, (g3 i).trans (by rw [sI_wI, if_pos ⟨rfl, rfl⟩]), g2, g4⟩
  unfold dm179
  rw [if_pos (by rw [aB_iff, iOfNat (by omega)]; omega), nx_eq, jN_of (by omega), h.1]
  exact g1
set_option maxRecDepth 100000 in
/-- names by their numbers -/
theorem SM.up {s s' : aS} {ns : List (List Int32)} {i : Nat} {u : List Int32} (h : SM s ns) (ho : nsOk ns) (hi : i < ns.length) (h1 : sI s' 123 i = Int32.ofNat u.length) (h2 : ∀ k (h : k < u.length), sI s' 124 (32 * i + k) = u[k]) (hc : ch (fun a k => (a = 123 ∧ k = i) ∨ (a = 124 ∧ 32 * i ≤ k ∧ k < 32 * i + 32)) s s') : SM s' (ns.set i u) := by
  refine ⟨by rw [hc.i (by omega), h.1, List.length_set], fun j hj => ?_⟩
  rw [List.length_set] at hj
  by_cases e : j = i
  · subst e
    rw [List.getElem_set_self]
    exact ⟨h1, h2⟩
  · rw [List.getElem_set_ne (fun q => e q.symm)]
    obtain ⟨a1, a2⟩ := h.2 j hj
    have hl := (ho.2 _ (List.getElem_mem hj)).2.1
    exact ⟨(hc.i (by omega)).trans a1, fun k hk => (hc.i (by omega)).trans (a2 k hk)⟩
set_option maxRecDepth 100000 in
theorem RW.mt {s : aS} {t : List Int32} (h : MT s t) (hl : t.length ≤ 256) (hT : (sT s 122).2 = 256) : RW s 122 0 t := ⟨by omega, fun j hj => by rw [Nat.zero_add]; exact h.2 j hj⟩
set_option maxRecDepth 100000 in
theorem d174 {s : aS} {t : List Int32} {ns : List (List Int32)} (hs : SM s ns) (hn : nsOk ns) (h : MT s t) (hl : t.length ≤ 256) (hT : (sT s 122).2 = 256) :
    (¬ (nmP t ∧ fndF t ns 0 = -1) ∧ dm174 s = some (0, wI s 121 0 1)) ∨
    ((nmP t ∧ fndF t ns 0 = -1) ∧ ns.length = 8 ∧ dm174 s = some (0, wI s 121 0 2)) ∨
    ((nmP t ∧ fndF t ns 0 = -1) ∧ ns.length < 8 ∧ ∃ s', dm174 s = some (Int32.ofNat ns.length, s') ∧ SM s' (ns ++ [t]) ∧ sI s' 121 0 = 0 ∧ ch (fun a k => (a = 121 ∧ (k = 0 ∨ k = 3)) ∨ a = 123 ∨ a = 124) s s') := by
  have h8 := hn.1
  have w1 : dm174_12 s = some (0, wI s 121 0 1) := by
    unfold dm174_12 dm174_21
    rw [nx_eq]
    exact if_neg (show ¬ (1 : Int32) ≤ 0 by decide)
  have q177 : dm177 122 0 (Int32.ofNat t.length) s = some (fndF t ns 0) := d177 (o := 0) hs hn (RW.mt h hl hT) (by omega)
  unfold dm174
  rw [d175 h hl]
  simp only [bu_some]
  by_cases h1 : nmP t
  · rw [b01_t h1, if_neg (by decide), h.1, q177]
    simp only [bu_some]
    by_cases h2 : fndF t ns 0 = -1
    · right
      rw [if_pos ((fnd_neg h8).mpr h2), hs.1]
      by_cases h3 : ns.length = 8
      · left
        refine ⟨⟨h1, h2⟩, h3, ?_⟩
        rw [h3, if_pos (by decide)]
        unfold dm174_21
        rw [nx_eq]
        exact if_neg (show ¬ (2 : Int32) ≤ 0 by decide)
      · right
        refine ⟨⟨h1, h2⟩, by omega, ?_⟩
        rw [if_neg (by rw [iEq, iOfNat (by omega)]; show ¬ (ns.length : Int) = 8; omega)]
        unfold dm174_21
        have hc0 : ch (fun a k => (a = 121 ∧ (k = 0 ∨ k = 3)) ∨ a = 123 ∨ a = 124) s (wI s 121 0 0) := (ch.refl _ s).wI (Or.inl ⟨rfl, Or.inl rfl⟩)
        have hx0 : ch (fun a k => a = 121 ∧ k = 0) s (wI s 121 0 0) := (ch.refl _ s).wI ⟨rfl, rfl⟩
        obtain ⟨s', g1, g2, g3, g4⟩ := d179 (i := ns.length) (h.of hx0 (by omega) (by omega)) (by omega) h1.2.1
        have hv : sI (wI s 121 0 0) 121 3 = Int32.ofNat ns.length := (hx0.i (by omega)).trans hs.1
        have hv1 : sI s' 121 3 = Int32.ofNat ns.length := (g4.i (by omega)).trans hv
        rw [nx_eq, if_pos (show sI (wI s 121 0 0) 121 0 ≤ 0 from (by decide : (0 : Int32) ≤ 0)), hv, g1]
        simp only [bu_some, nx_eq]
        rw [hv1, sI_wI, if_pos ⟨rfl, rfl⟩, ofNat_succ (by omega)]
        have hm : Int32.ofNat (ns.length + 1) - 1 = Int32.ofNat ns.length := by
          apply Int32.toInt_inj.mp
          rw [iSub (y := 1) (by rw [iOfNat (by omega)]; show _ ≤ ((ns.length + 1 : Nat) : Int) - 1; omega) (by rw [iOfNat (by omega)]; show ((ns.length + 1 : Nat) : Int) - 1 ≤ _; omega), iOfNat (by omega), iOfNat (by omega)]
          show ((ns.length + 1 : Nat) : Int) - 1 = _
          omega
        rw [hm]
        have hc3 : ch (fun a k => a = 121 ∧ k = 3) s' (wI s' 121 3 (Int32.ofNat (ns.length + 1))) := (ch.refl _ s').wI ⟨rfl, rfl⟩
        refine ⟨_, rfl, ⟨by rw [sI_wI, if_pos ⟨rfl, rfl⟩, List.length_append]; rfl, fun i hi => ?_⟩, (hc3.i (by omega)).trans ((g4.i (by omega)).trans (by rw [sI_wI, if_pos ⟨rfl, rfl⟩])), (hc0.trans (g4.mono fun a k q => by omega)).trans (hc3.mono fun a k q => by omega)⟩
        rw [List.length_append] at hi
        have hi : i < ns.length + 1 := hi
        by_cases e : i = ns.length
        · subst e
          rw [List.getElem_append_right (Nat.le_refl _)]
          simp only [Nat.sub_self, List.getElem_cons_zero]
          exact ⟨(hc3.i (by omega)).trans g2, fun k hk => (hc3.i (by omega)).trans (g3 k hk)⟩
        · rw [List.getElem_append_left (by omega)]
          obtain ⟨a1, a2⟩ := hs.2 i (by omega)
          have hli := (hn.2 _ (List.getElem_mem (by omega : i < ns.length))).2.1
          exact ⟨(hc3.i (by omega)).trans ((g4.i (by omega)).trans ((hx0.i (by omega)).trans a1)), fun k hk => (hc3.i (by omega)).trans ((g4.i (by omega)).trans ((hx0.i (by omega)).trans (a2 k hk)))⟩
    · left
      rw [if_neg (fun q => h2 ((fnd_neg h8).mp q)), w1]
      exact ⟨fun q => h2 q.2, rfl⟩
  · left
    rw [b01_f h1, if_pos rfl, w1]
    exact ⟨fun q => h1 q.1, rfl⟩
set_option maxRecDepth 100000 in
theorem d181 {s : aS} {ns : List (List Int32)} (h : SM s ns) (ho : ns.length ≤ 8) (x : Int32) : dm181 x s = some (b01 (¬ (0 ≤ x.toInt ∧ x.toInt < ns.length))) := by
  unfold dm181 dm181_6
  rw [h.1]
  have l1 : x < 0 ↔ x.toInt < 0 := iLt
  have l2 : x < Int32.ofNat ns.length ↔ x.toInt < (ns.length : Int) := by rw [iLt, iOfNat (by omega)]
  by_cases h1 : x < 0
  · rw [if_pos h1, b01_t]
    have := l1.mp h1
    omega
  · rw [if_neg h1]
    have h1 : ¬ x.toInt < 0 := fun q => h1 (l1.mpr q)
    by_cases h2 : x < Int32.ofNat ns.length
    · rw [if_pos h2, b01_f]
      have := l2.mp h2
      omega
    · rw [if_neg h2, b01_t]
      have h2 : ¬ x.toInt < (ns.length : Int) := fun q => h2 (l2.mpr q)
      omega
set_option maxRecDepth 100000 in
theorem d180 {s : aS} {t : List Int32} {ns : List (List Int32)} (hs : SM s ns) (hn : nsOk ns) (h : MT s t) (hl : t.length ≤ 256) (hT : (sT s 122).2 = 256) (x : Int32) :
    (¬ (0 ≤ x.toInt ∧ x.toInt < ns.length) ∧ dm180 x s = some (wI s 121 0 1)) ∨
    ((0 ≤ x.toInt ∧ x.toInt < ns.length) ∧ ¬ (nmP t ∧ (fndF t ns 0 = -1 ∨ fndF t ns 0 = x)) ∧ dm180 x s = some (wI s 121 0 2)) ∨
    ((0 ≤ x.toInt ∧ x.toInt < ns.length) ∧ (nmP t ∧ (fndF t ns 0 = -1 ∨ fndF t ns 0 = x)) ∧ ∃ s', dm180 x s = some s' ∧ SM s' (ns.set x.toInt.toNat t) ∧ sI s' 121 0 = 0 ∧ ch (fun a k => (a = 121 ∧ k = 0) ∨ a = 123 ∨ a = 124) s s') := by
  have h8 := hn.1
  have q177 : dm177 122 0 (Int32.ofNat t.length) s = some (fndF t ns 0) := d177 (o := 0) hs hn (RW.mt h hl hT) (by omega)
  have z1 : dm180_36 x 1 s = some (wI s 121 0 1) := by
    unfold dm180_36
    rw [nx_eq]
    exact if_neg (show ¬ (1 : Int32) = 0 by decide)
  have z2 : dm180_33 x s = some (wI s 121 0 2) := by
    unfold dm180_33 dm180_36
    rw [nx_eq]
    exact if_neg (show ¬ (2 : Int32) = 0 by decide)
  have en : nmP t → dm180 x s = dm180_18 x 0 (fndF t ns 0) s := fun h1 => by
    unfold dm180 dm180_6
    rw [d175 h hl, b01_t h1, h.1, q177]
    rfl
  have ef : ¬ nmP t → dm180 x s = dm180_18 x 1 (-1) s := fun h1 => by
    unfold dm180 dm180_6
    rw [d175 h hl, b01_f h1]
    rfl
  by_cases hx : 0 ≤ x.toInt ∧ x.toInt < ns.length
  · right
    have r : dm181 x s = some 0 := by
      rw [d181 hs h8, b01_f]
      exact fun q => q hx
    have e18 : ∀ x2 y0, dm180_18 x x2 y0 s = if x2 = 0 then (if y0 < 0 then dm180_35 x s else if y0 = x then dm180_35 x s else dm180_33 x s) else dm180_33 x s := by
      intro x2 y0
      unfold dm180_18
      rw [r]
      rfl
    by_cases h1 : nmP t
    · rw [en h1, e18, if_pos rfl]
      have ok : fndF t ns 0 = -1 ∨ fndF t ns 0 = x → ∃ s', dm180_35 x s = some s' ∧ SM s' (ns.set x.toInt.toNat t) ∧ sI s' 121 0 = 0 ∧ ch (fun a k => (a = 121 ∧ k = 0) ∨ a = 123 ∨ a = 124) s s' := by
        intro _
        have hx0 : ch (fun a k => a = 121 ∧ k = 0) s (wI s 121 0 0) := (ch.refl _ s).wI ⟨rfl, rfl⟩
        have ex : x = Int32.ofNat x.toInt.toNat := by
          apply Int32.toInt_inj.mp
          rw [iOfNat (by omega)]
          omega
        obtain ⟨s', g1, g2, g3, g4⟩ := d179 (i := x.toInt.toNat) (h.of hx0 (by omega) (by omega)) (by omega) h1.2.1
        rw [← ex] at g1
        unfold dm180_35 dm180_36
        rw [nx_eq, if_pos (show sI (wI s 121 0 0) 121 0 = 0 from rfl), g1]
        have hs0 : SM (wI s 121 0 0) ns := ⟨(hx0.i (by omega)).trans hs.1, fun i hi => ⟨(hx0.i (by omega)).trans (hs.2 i hi).1, fun j hj => (hx0.i (by omega)).trans ((hs.2 i hi).2 j hj)⟩⟩
        exact ⟨s', rfl, hs0.up hn (by omega) g2 g3 g4, (g4.i (by omega)).trans (by rw [sI_wI, if_pos ⟨rfl, rfl⟩]), (hx0.mono fun a k q => by omega).trans (g4.mono fun a k q => by omega)⟩
      by_cases h2 : fndF t ns 0 = -1
      · right
        rw [if_pos ((fnd_neg h8).mpr h2)]
        exact ⟨hx, ⟨h1, Or.inl h2⟩, ok (Or.inl h2)⟩
      · rw [if_neg (fun q => h2 ((fnd_neg h8).mp q))]
        by_cases h3 : fndF t ns 0 = x
        · right
          rw [if_pos h3]
          exact ⟨hx, ⟨h1, Or.inr h3⟩, ok (Or.inr h3)⟩
        · left
          rw [if_neg h3, z2]
          refine ⟨hx, ?_, rfl⟩
          rintro ⟨-, q | q⟩
          · exact h2 q
          · exact h3 q
    · left
      rw [ef h1, e18, if_neg (by decide), z2]
      exact ⟨hx, fun q => h1 q.1, rfl⟩
  · left
    refine ⟨hx, ?_⟩
    have r : dm181 x s = some 1 := by
      rw [d181 hs h8, b01_t hx]
    have e18 : ∀ x2 y0, dm180_18 x x2 y0 s = some (wI s 121 0 1) := by
      intro x2 y0
      unfold dm180_18
      rw [r, z1]
      rfl
    by_cases h1 : nmP t
    · rw [en h1, e18]
    · rw [ef h1, e18]
end
section
/-! the reference takes a name away; both tell names -/
set_option maxRecDepth 100000 in
theorem ofNat_sub1 {n : Nat} (h : 1 ≤ n) (h2 : n < 2147483648) : Int32.ofNat n - 1 = Int32.ofNat (n - 1) := by
  apply Int32.toInt_inj.mp
  rw [iSub (y := 1) (by rw [iOfNat (by omega)]; show _ ≤ (n : Int) - 1; omega) (by rw [iOfNat (by omega)]; show (n : Int) - 1 ≤ _; omega), iOfNat (by omega), iOfNat (by omega)]
  show (n : Int) - 1 = ((n - 1 : Nat) : Int)
  omega
set_option maxRecDepth 100000 in
theorem d182c {i : Nat} {k9 : Int32 → aS → Option aS} (hi : i < 7) : ∀ (m j n : Nat) (s : aS), j + m = 32 → m < n → ∃ s', dm182_130 k9 n (Int32.ofNat i) (Int32.ofNat j) s = k9 (Int32.ofNat (i + 1)) s' ∧ (∀ q, j ≤ q → q < 32 → sI s' 124 (32 * i + q) = sI s 124 (32 * i + 32 + q)) ∧ ch (fun a k => a = 124 ∧ 32 * i + j ≤ k ∧ k < 32 * i + 32) s s' := by
  intro m
  induction m with
  | zero =>
    intro j n s hj hn
    obtain ⟨n, rfl⟩ : ∃ k, n = k + 1 := ⟨n - 1, by omega⟩
    rw [dm182_130, if_pos (by rw [iLe, iOfNat (by omega)]; show (32 : Int) ≤ j; omega), ofNat_succ (by omega)]
    exact ⟨s, rfl, fun q h1 h2 => by omega, ch.refl _ s⟩
  | succ m ih =>
    intro j n s hj hn
    obtain ⟨n, rfl⟩ : ∃ k, n = k + 1 := ⟨n - 1, by omega⟩
    have e1 : ((32 * Int32.ofNat i) + 32) + Int32.ofNat j = Int32.ofNat (32 * i + 32 + j) := by
      rw [show (32 : Int32) = Int32.ofNat 32 from rfl, show Int32.ofNat 32 * Int32.ofNat i + Int32.ofNat 32 = Int32.ofNat (32 * i + 32) from iLin (by omega) (by omega), iSum (by omega) (by omega)]
    rw [dm182_130, if_neg (by rw [iLe, iOfNat (by omega)]; show ¬ (32 : Int) ≤ j; omega), e1, iLin (by omega) (by omega), if_pos (by rw [aB_iff, iOfNat (by omega)]; omega), if_pos (by rw [aB_iff, iOfNat (by omega)]; omega), nx_eq, jN_of (by omega), jN_of (by omega), ofNat_succ (by omega)]
    have hc1 : ch (fun a k => a = 124 ∧ k = 32 * i + j) s (wI s 124 (32 * i + j) (sI s 124 (32 * i + 32 + j))) := (ch.refl _ s).wI ⟨rfl, rfl⟩
    obtain ⟨s', g1, g2, g3⟩ := ih (j + 1) n _ (by omega) (by omega)
    refine ⟨s', g1, fun q h1 h2 => ?_, (hc1.mono fun a k q => by omega).trans (g3.mono fun a k q => by omega)⟩
    by_cases e : q = j
    · subst e
      rw [g3.i (by omega), sI_wI, if_pos ⟨rfl, rfl⟩]
    · rw [g2 q (by omega) h2, hc1.i (by omega)]
/-- names by their numbers, in the reference -/
def MF (s : aS) (n : Nat) (f : Nat → List Int32) : Prop := sI s 121 3 = Int32.ofNat n ∧ ∀ k, k < n → sI s 123 k = Int32.ofNat (f k).length ∧ ∀ j (h : j < (f k).length), sI s 124 (32 * k + j) = (f k)[j]
set_option maxRecDepth 100000 in
theorem MF.cg {s : aS} {n : Nat} {f g : Nat → List Int32} (h : MF s n f) (e : ∀ k, k < n → f k = g k) : MF s n g := ⟨h.1, fun k hk => e k hk ▸ h.2 k hk⟩
set_option maxRecDepth 100000 in
theorem d182n {i n9 : Nat} {nm : Nat → List Int32} (hi : i < n9) (h8 : n9 ≤ 8) (hk : ∀ k, k < n9 → (nm k).length ≤ 31) : ∀ (m j n : Nat) (s : aS), j + m + 1 = n9 → i ≤ j → m < n → MF s n9 (fun k => if i ≤ k ∧ k < j then nm (k + 1) else nm k) → ∃ s', dm182_112 n (Int32.ofNat j) s = some s' ∧ MF s' (n9 - 1) (fun k => if i ≤ k then nm (k + 1) else nm k) ∧ ch (fun a k => (a = 121 ∧ k = 3) ∨ a = 123 ∨ a = 124) s s' := by
  intro m
  induction m with
  | zero =>
    intro j n s hj hij hn hs
    obtain ⟨n, rfl⟩ : ∃ k, n = k + 1 := ⟨n - 1, by omega⟩
    rw [dm182_112, hs.1, ofNat_succ (by omega), if_pos (by rw [iLe, iOfNat (by omega), iOfNat (by omega)]; omega), nx_eq, ofNat_sub1 (by omega) (by omega)]
    have hc : ch (fun a k => a = 121 ∧ k = 3) s (wI s 121 3 (Int32.ofNat (n9 - 1))) := (ch.refl _ s).wI ⟨rfl, rfl⟩
    refine ⟨_, rfl, MF.cg (f := fun k => if i ≤ k ∧ k < j then nm (k + 1) else nm k) ⟨by rw [sI_wI, if_pos ⟨rfl, rfl⟩], fun k hk9 => ?_⟩ fun k hk9 => ?_, hc.mono fun a k q => by omega⟩
    · obtain ⟨a1, a2⟩ := hs.2 k (by omega)
      exact ⟨(hc.i (by omega)).trans a1, fun q hq => (hc.i (by omega)).trans (a2 q hq)⟩
    · by_cases q : i ≤ k
      · rw [if_pos ⟨q, by omega⟩, if_pos q]
      · rw [if_neg (fun z => q z.1), if_neg q]
  | succ m ih =>
    intro j n s hj hij hn hs
    obtain ⟨n, rfl⟩ : ∃ k, n = k + 1 := ⟨n - 1, by omega⟩
    rw [dm182_112, hs.1, ofNat_succ (by omega), if_neg (by rw [iLe, iOfNat (by omega), iOfNat (by omega)]; omega), if_pos (by rw [aB_iff, iOfNat (by omega)]; omega), if_pos (by rw [aB_iff, iOfNat (by omega)]; omega), nx_eq, jN_of (by omega), jN_of (by omega)]
    have hc1 : ch (fun a k => a = 123 ∧ k = j) s (wI s 123 j (sI s 123 (j + 1))) := (ch.refl _ s).wI ⟨rfl, rfl⟩
    obtain ⟨s1, g1, g2, g3⟩ := d182c (i := j) (k9 := dm182_112 n) (by omega) 32 0 5000 (wI s 123 j (sI s 123 (j + 1))) (by omega) (by omega)
    have g1 : dm182_130 (dm182_112 n) 5000 (Int32.ofNat j) 0 (wI s 123 j (sI s 123 (j + 1))) = dm182_112 n (Int32.ofNat (j + 1)) s1 := g1
    rw [g1]
    obtain ⟨a1, a2⟩ := hs.2 (j + 1) (by omega)
    have a1 : sI s 123 (j + 1) = Int32.ofNat (if i ≤ j + 1 ∧ j + 1 < j then nm (j + 1 + 1) else nm (j + 1)).length := a1
    have a2 : ∀ q (h : q < (if i ≤ j + 1 ∧ j + 1 < j then nm (j + 1 + 1) else nm (j + 1)).length), sI s 124 (32 * (j + 1) + q) = (if i ≤ j + 1 ∧ j + 1 < j then nm (j + 1 + 1) else nm (j + 1))[q] := a2
    have hkj := hk (j + 1) (by omega)
    rw [if_neg (by omega)] at a1
    have a2 : ∀ q (h : q < (nm (j + 1)).length), sI s 124 (32 * (j + 1) + q) = (nm (j + 1))[q] := by
      have e : (if i ≤ j + 1 ∧ j + 1 < j then nm (j + 1 + 1) else nm (j + 1)) = nm (j + 1) := if_neg (by omega)
      intro q hq
      have := a2 q (by rw [e]; exact hq)
      simp only [e] at this
      exact this
    obtain ⟨s', b1, b2, b3⟩ := ih (j + 1) n s1 (by omega) (by omega) (by omega) ⟨(g3.i (by omega)).trans ((hc1.i (by omega)).trans hs.1), fun k hk9 => by
      have main : ∀ u : List Int32, (k = j → u = nm (j + 1)) → (k ≠ j → u = (if i ≤ k ∧ k < j then nm (k + 1) else nm k)) → sI s1 123 k = Int32.ofNat u.length ∧ ∀ q (h : q < u.length), sI s1 124 (32 * k + q) = u[q] := by
        intro u u1 u2
        by_cases e : k = j
        · have := u1 e
          subst this
          subst e
          refine ⟨(g3.i (by omega)).trans (by rw [sI_wI, if_pos ⟨rfl, rfl⟩]; exact a1), fun q hq => ?_⟩
          rw [g2 q (by omega) (by omega), hc1.i (by omega), show 32 * k + 32 + q = 32 * (k + 1) + q by omega]
          exact a2 q hq
        · have := u2 e
          subst this
          obtain ⟨c1, c2⟩ := hs.2 k hk9
          have hk1 : (if i ≤ k ∧ k < j then nm (k + 1) else nm k).length ≤ 31 := by
            split
            · exact hk _ (by omega)
            · exact hk _ (by omega)
          exact ⟨(g3.i (by omega)).trans ((hc1.i (by omega)).trans c1), fun q hq => (g3.i (by omega)).trans ((hc1.i (by omega)).trans (c2 q hq))⟩
      refine main _ (fun e => ?_) (fun e => ?_)
      · subst e
        exact if_pos (by omega)
      · show (if i ≤ k ∧ k < j + 1 then nm (k + 1) else nm k) = _
        by_cases q : i ≤ k ∧ k < j
        · rw [if_pos q, if_pos (by omega)]
        · rw [if_neg q, if_neg (by omega)]⟩
    exact ⟨s', b1, b2, ((hc1.mono fun a k q => by omega).trans (g3.mono fun a k q => by omega)).trans b3⟩
set_option maxRecDepth 100000 in
theorem d182m {s : aS} {i : Nat} {ns : List (List Int32)} (hs : SM s ns) (hn : nsOk ns) (hi : i < ns.length) : ∃ s', dm182_112 5000 (Int32.ofNat i) s = some s' ∧ SM s' (ns.eraseIdx i) ∧ ch (fun a k => (a = 121 ∧ k = 3) ∨ a = 123 ∨ a = 124) s s' := by
  have h8 := hn.1
  have hk : ∀ k, k < ns.length → (ns.getD k []).length ≤ 31 := fun k hk => by
    rw [getD_nm hk]
    exact (hn.2 _ (List.getElem_mem hk)).2.1
  obtain ⟨s', g1, g2, g3⟩ := d182n (nm := fun k => ns.getD k []) hi h8 hk (ns.length - (i + 1)) i 5000 s (by omega) (by omega) (by omega) (MF.cg (f := fun k => ns.getD k []) ⟨hs.1, fun k hk9 => by
    show sI s 123 k = Int32.ofNat (ns.getD k []).length ∧ ∀ j (h : j < (ns.getD k []).length), sI s 124 (32 * k + j) = (ns.getD k [])[j]
    rw [getD_nm hk9]
    exact hs.2 k hk9⟩ fun k _ => (if_neg (by omega)).symm)
  refine ⟨s', g1, ⟨by rw [g2.1, List.length_eraseIdx_of_lt hi], fun k hk9 => ?_⟩, g3⟩
  rw [List.length_eraseIdx_of_lt hi] at hk9
  have hh := g2.2 k hk9
  have hh : ∀ u : List Int32, u = (if i ≤ k then ns.getD (k + 1) [] else ns.getD k []) → sI s' 123 k = Int32.ofNat u.length ∧ ∀ j (h : j < u.length), sI s' 124 (32 * k + j) = u[j] := fun u hu => by subst hu; exact hh
  refine hh _ ?_
  rw [List.getElem_eraseIdx]
  by_cases q : k < i
  · rw [dif_pos q, if_neg (by omega), getD_nm (by omega)]
  · rw [dif_neg q, if_pos (by omega), getD_nm (by omega)]
set_option maxRecDepth 100000 in
/-- character k of a name -/
theorem d169 {s : aS} {ns : List (List Int32)} (hs : SC s ns) (hr : RC s) (hn : nsOk ns) (x y : Int32) :
    (¬ (0 ≤ x.toInt ∧ x.toInt < ns.length) ∧ dm169 x y s = some (.inr 2, nw s 82 0)) ∨
    ((0 ≤ x.toInt ∧ x.toInt < ns.length) ∧ dm169 x y s = some (.inl (some (.int (if y.toInt < 0 then -1 else (ns.getD x.toInt.toNat []).getD y.toInt.toNat (-1)))), s)) := by
  have h8 := hn.1
  unfold dm169 dm151
  rw [d40 hs h8]
  simp only [bu_some]
  by_cases hx : 0 ≤ x.toInt ∧ x.toInt < ns.length
  · right
    refine ⟨hx, ?_⟩
    have hi : x.toInt.toNat < ns.length := by omega
    have hl := (hn.2 _ (List.getElem_mem hi)).2.1
    rw [b01_t hx, if_neg (by decide), if_neg (by decide), if_pos (by rw [aB_iff]; omega), jN_eq, getD_nm hi]
    have hT : (ns[x.toInt.toNat]).length ≤ (sT s (84 + 2 * x.toInt.toNat + 1)).2 := by rw [show 84 + 2 * x.toInt.toNat + 1 = 85 + 2 * x.toInt.toNat by omega, hr.2 _ (by omega)]; exact hl
    by_cases hy : y.toInt < 0
    · rw [if_pos hy]
      have : dm34 (84 + 2 * x.toInt.toNat) y s = some (-1) := by
        unfold dm34
        rw [if_pos (by rw [iLt]; exact hy)]
      rw [this]
      rfl
    · have ey : y = Int32.ofNat y.toInt.toNat := by
        have := iRange y
        apply Int32.toInt_inj.mp
        rw [iOfNat (by omega)]
        omega
      have hr2 := iRange y
      have : dm34 (84 + 2 * x.toInt.toNat) y s = some ((ns[x.toInt.toNat]).getD y.toInt.toNat (-1)) := by
        have := d34 (i := y.toInt.toNat) (hs.2 _ hi) hT (by omega) (by omega)
        rw [← ey] at this
        exact this
      rw [if_neg hy, this]
      rfl
  · left
    rw [b01_f hx, if_pos rfl]
    exact ⟨hx, rfl⟩
end
section
/-! the reference tells a name -/
set_option maxRecDepth 100000 in
theorem getD_in {l : List Int32} {j : Nat} {d : Int32} (h : j < l.length) : l.getD j d = l[j] := by simp [List.getD, List.getElem?_eq_getElem h]
set_option maxRecDepth 100000 in
theorem getD_out {l : List Int32} {j : Nat} {d : Int32} (h : l.length ≤ j) : l.getD j d = d := by simp [List.getD, List.getElem?_eq_none h]
set_option maxRecDepth 100000 in
theorem d250 {s : aS} {ns : List (List Int32)} (hs : SM s ns) (hn : nsOk ns) (x y : Int32) :
    (¬ (0 ≤ x.toInt ∧ x.toInt < ns.length) ∧ dm250 x y s = some (0, wI s 121 0 1)) ∨
    ((0 ≤ x.toInt ∧ x.toInt < ns.length) ∧ dm250 x y s = some (if y.toInt < 0 then -1 else (ns.getD x.toInt.toNat []).getD y.toInt.toNat (-1), wI s 121 0 0)) := by
  have h8 := hn.1
  unfold dm250
  rw [d181 hs h8]
  simp only [bu_some]
  unfold dm250_8
  by_cases hx : 0 ≤ x.toInt ∧ x.toInt < ns.length
  · right
    refine ⟨hx, ?_⟩
    have hi : x.toInt.toNat < ns.length := by omega
    have hl := (hn.2 _ (List.getElem_mem hi)).2.1
    have ex : x = Int32.ofNat x.toInt.toNat := by
      apply Int32.toInt_inj.mp
      rw [iOfNat (by omega)]
      omega
    rw [b01_f (fun q => q hx), if_pos rfl, nx_eq, if_pos (show sI (wI s 121 0 0) 121 0 ≤ 0 from (by decide : (0 : Int32) ≤ 0)), getD_nm hi]
    unfold dm250_22
    by_cases hy : y.toInt < 0
    · rw [if_pos hy, if_pos (show y < 0 by rw [iLt]; exact hy)]
    · rw [if_neg hy, if_neg (show ¬ y < 0 by rw [iLt]; exact hy)]
      have hr2 := iRange y
      have ey : y = Int32.ofNat y.toInt.toNat := by
        apply Int32.toInt_inj.mp
        rw [iOfNat (by omega)]
        omega
      obtain ⟨a1, a2⟩ := hs.2 _ hi
      have hx0 : ch (fun a k => a = 121 ∧ k = 0) s (wI s 121 0 0) := (ch.refl _ s).wI ⟨rfl, rfl⟩
      have a1 : sI (wI s 121 0 0) 123 (jN x) = Int32.ofNat (ns[x.toInt.toNat]).length := (hx0.i (by omega)).trans a1
      rw [if_pos (show aB x 8 by rw [aB_iff]; omega), a1]
      by_cases hq : y.toInt.toNat < (ns[x.toInt.toNat]).length
      · have el : (32 * x) + y = Int32.ofNat (32 * x.toInt.toNat + y.toInt.toNat) := by
          conv => lhs; rw [ex, ey]
          exact iLin (by omega) (by omega)
        rw [if_pos (show y < Int32.ofNat (ns[x.toInt.toNat]).length by rw [iLt, iOfNat (by omega)]; omega), el, if_pos (by rw [aB_iff, iOfNat (by omega)]; omega), jN_of (by omega), hx0.i (by omega), a2 _ hq, getD_in hq]
      · rw [if_neg (show ¬ y < Int32.ofNat (ns[x.toInt.toNat]).length by rw [iLt, iOfNat (by omega)]; omega), getD_out (by omega)]
  · left
    refine ⟨hx, ?_⟩
    rw [b01_t hx, if_neg (by decide), nx_eq]
    exact if_neg (show ¬ (1 : Int32) ≤ 0 by decide)
end
section
/-! formulas: a home and a list of nodes, a node by what is told of it -/
abbrev Nd : Type := Nat → Int32
abbrev Fm : Type := Int32 × List Nd
def TC (s : aS) (b : Nat) (L : List Nd) : Prop := sI s b 2 = Int32.ofNat L.length ∧ L.length ≤ 128 ∧ ∀ i (h : i < L.length) w, w < 9 → sI s (b + 1) (11 * i + w) = L[i] w
def TM (s : aS) (f : Nat) (L : List Nd) : Prop := sI s 127 f = Int32.ofNat L.length ∧ L.length ≤ 128 ∧ ∀ i (h : i < L.length) w, w < 9 → sI s (128 + w) (128 * f + i) = L[i] w
def CF (s : aS) (fs : Nat → Option Fm) : Prop := ∀ f, f < 8 → (fs f = none → sI s 101 f = -1) ∧ ∀ h L, fs f = some (h, L) → sI s 101 f = h ∧ h ≠ -1 ∧ ∃ b, sR s 100 f = .ref b ∧ aK s b 3 ∧ TC s b L
def MM (s : aS) (fs : Nat → Option Fm) : Prop := ∀ f, f < 8 → (fs f = none → sI s 125 f = 0) ∧ ∀ h L, fs f = some (h, L) → sI s 125 f = 1 ∧ sI s 126 f = h ∧ TM s f L
/-- which formula a number means -/
def fAt (fs : Nat → Option Fm) (x : Int32) : Option Fm := if 0 ≤ x.toInt ∧ x.toInt < 8 then fs x.toInt.toNat else none
set_option maxRecDepth 100000 in
theorem d54 {s : aS} {fs : Nat → Option Fm} (h : CF s fs) (x : Int32) : (fAt fs x = none ∧ dm54 x s = some .null) ∨ ∃ ho L b, fAt fs x = some (ho, L) ∧ (0 ≤ x.toInt ∧ x.toInt < 8) ∧ dm54 x s = some (.ref b) ∧ aK s b 3 ∧ TC s b L ∧ sR s 100 x.toInt.toNat = .ref b ∧ sI s 101 x.toInt.toNat = ho := by
  unfold dm54 dm55 fAt
  have l1 : x < 0 ↔ x.toInt < 0 := iLt
  have l2 : 8 ≤ x ↔ 8 ≤ x.toInt := iLe
  by_cases h1 : x < 0
  · left
    have := l1.mp h1
    rw [if_pos h1, if_neg (by omega)]
    exact ⟨rfl, rfl⟩
  · rw [if_neg h1]
    have h1 : ¬ x.toInt < 0 := fun q => h1 (l1.mpr q)
    by_cases h2 : 8 ≤ x
    · left
      have := l2.mp h2
      rw [if_pos h2, if_neg (by omega)]
      exact ⟨rfl, rfl⟩
    · rw [if_neg h2]
      have h2 : ¬ 8 ≤ x.toInt := fun q => h2 (l2.mpr q)
      have hb : aB x 8 := by rw [aB_iff]; omega
      have hx : 0 ≤ x.toInt ∧ x.toInt < 8 := by omega
      simp only [bu_some]
      rw [if_pos hx, if_neg (show ¬ (1 : Int32) = 0 by decide), if_pos hb, if_pos hb]
      obtain ⟨a1, a2⟩ := h x.toInt.toNat (by omega)
      cases hf : fs x.toInt.toNat with
      | none =>
        left
        rw [if_pos (show sI s 101 (jN x) = -1 from a1 hf)]
        exact ⟨rfl, rfl⟩
      | some q =>
        obtain ⟨ho, L⟩ := q
        obtain ⟨b1, b2, b, b3, b4, b5⟩ := a2 ho L hf
        right
        have e1 : sI s 101 (jN x) = ho := b1
        have e2 : sR s 100 (jN x) = .ref b := b3
        rw [e1, if_neg b2, e2]
        simp only [vN_ref]
        rw [if_pos b4]
        exact ⟨ho, L, b, rfl, hx, rfl, b4, b5, b3, b1⟩
set_option maxRecDepth 100000 in
theorem d225 {s : aS} {fs : Nat → Option Fm} (h : MM s fs) (x : Int32) : (fAt fs x = none ∧ dm225 x s = some 1) ∨ ∃ ho L, fAt fs x = some (ho, L) ∧ (0 ≤ x.toInt ∧ x.toInt < 8) ∧ dm225 x s = some 0 ∧ TM s x.toInt.toNat L ∧ sI s 126 x.toInt.toNat = ho := by
  unfold dm225 dm225_10 fAt
  have l1 : x < 0 ↔ x.toInt < 0 := iLt
  have l2 : 7 < x ↔ 7 < x.toInt := iLt
  by_cases h1 : x < 0
  · left
    have := l1.mp h1
    rw [if_pos h1, if_neg (by omega)]
    exact ⟨rfl, rfl⟩
  · rw [if_neg h1]
    have h1 : ¬ x.toInt < 0 := fun q => h1 (l1.mpr q)
    by_cases h2 : 7 < x
    · left
      have := l2.mp h2
      rw [if_pos h2, if_neg (by omega)]
      exact ⟨rfl, rfl⟩
    · rw [if_neg h2]
      have h2 : ¬ 7 < x.toInt := fun q => h2 (l2.mpr q)
      have hb : aB x 8 := by rw [aB_iff]; omega
      have hx : 0 ≤ x.toInt ∧ x.toInt < 8 := by omega
      rw [if_pos hb, if_pos hx]
      obtain ⟨a1, a2⟩ := h x.toInt.toNat (by omega)
      cases hf : fs x.toInt.toNat with
      | none =>
        left
        have e : sI s 125 (jN x) = 0 := a1 hf
        rw [if_pos e]
        exact ⟨rfl, rfl⟩
      | some q =>
        obtain ⟨ho, L⟩ := q
        obtain ⟨b1, b2, b3⟩ := a2 ho L hf
        right
        have e : sI s 125 (jN x) = 1 := b1
        rw [e, if_neg (by decide)]
        exact ⟨ho, L, rfl, hx, rfl, b3, b2⟩
set_option maxRecDepth 100000 in
/-- size -/
theorem d159 {s : aS} {fs : Nat → Option Fm} (h : CF s fs) (x : Int32) : (fAt fs x = none ∧ dm159 x s = some (.inr 2, nw s 82 0)) ∨ ∃ ho L, fAt fs x = some (ho, L) ∧ dm159 x s = some (.inl (some (.int (Int32.ofNat L.length))), s) := by
  unfold dm159
  rcases d54 h x with ⟨e1, e2⟩ | ⟨ho, L, b, e1, -, e2, e3, e4, -⟩
  · left
    rw [e2]
    exact ⟨e1, rfl⟩
  · right
    rw [e2]
    simp only [bu_some, vN_ref]
    rw [if_pos e3]
    unfold dm94
    simp only [bu_some]
    rw [e4.1]
    exact ⟨ho, L, e1, rfl⟩
set_option maxRecDepth 100000 in
theorem d243 {s : aS} {fs : Nat → Option Fm} (h : MM s fs) (x : Int32) : (fAt fs x = none ∧ dm243 x s = some (0, wI s 121 0 1)) ∨ ∃ ho L, fAt fs x = some (ho, L) ∧ dm243 x s = some (Int32.ofNat L.length, wI s 121 0 0) := by
  unfold dm243 dm243_8
  rcases d225 h x with ⟨e1, e2⟩ | ⟨ho, L, e1, hx, e2, e3, -⟩
  · left
    refine ⟨e1, ?_⟩
    rw [e2]
    simp only [bu_some]
    rw [if_neg (by decide), nx_eq]
    exact if_neg (show ¬ (1 : Int32) ≤ 0 by decide)
  · right
    refine ⟨ho, L, e1, ?_⟩
    rw [e2]
    simp only [bu_some]
    rw [if_pos trivial, nx_eq, if_pos (show sI (wI s 121 0 0) 121 0 ≤ 0 from (by decide : (0 : Int32) ≤ 0)), if_pos (by rw [aB_iff]; omega)]
    have : sI (wI s 121 0 0) 127 (jN x) = Int32.ofNat L.length := e3.1
    rw [this]
/-- a formula is no more -/
def fsDel (fs : Nat → Option Fm) (x : Nat) : Nat → Option Fm := fun f => if f = x then none else fs f
set_option maxRecDepth 100000 in
theorem d137 {s : aS} {fs : Nat → Option Fm} (h : CF s fs) (x : Int32) : (fAt fs x = none ∧ dm137 x s = some (.inr 2, nw s 82 0)) ∨ ∃ ho L, fAt fs x = some (ho, L) ∧ dm137 x s = some (.inl none, wI s 101 x.toInt.toNat (-1)) := by
  unfold dm137
  rcases d54 h x with ⟨e1, e2⟩ | ⟨ho, L, b, e1, hx, e2, e3, -⟩
  · left
    rw [e2]
    exact ⟨e1, rfl⟩
  · right
    refine ⟨ho, L, e1, ?_⟩
    rw [e2]
    simp only [bu_some, vN_ref]
    rw [if_pos e3, if_pos (by rw [aB_iff]; omega), nx_eq]
    rfl
set_option maxRecDepth 100000 in
theorem d231 {s : aS} {fs : Nat → Option Fm} (h : MM s fs) (x : Int32) : (fAt fs x = none ∧ dm231 x s = some (wI s 121 0 1)) ∨ ∃ ho L, fAt fs x = some (ho, L) ∧ dm231 x s = some (wI (wI s 121 0 0) 125 x.toInt.toNat 0) := by
  unfold dm231 dm231_8
  rcases d225 h x with ⟨e1, e2⟩ | ⟨ho, L, e1, hx, e2, -⟩
  · left
    refine ⟨e1, ?_⟩
    rw [e2]
    simp only [bu_some]
    rw [if_neg (by decide), nx_eq]
    exact if_neg (show ¬ (1 : Int32) = 0 by decide)
  · right
    refine ⟨ho, L, e1, ?_⟩
    rw [e2]
    simp only [bu_some]
    rw [if_pos trivial, nx_eq, if_pos (show sI (wI s 121 0 0) 121 0 = 0 from rfl), if_pos (by rw [aB_iff]; omega)]
    rfl
/-- how many formulas are there, from f on -/
def fsCnt (fs : Nat → Option Fm) : Nat → Nat → Nat
  | 0, _ => 0
  | m + 1, f => (if (fs f).isSome = true then 1 else 0) + fsCnt fs m (f + 1)
set_option maxRecDepth 100000 in
theorem fsCnt_le (fs : Nat → Option Fm) : ∀ m f, fsCnt fs m f ≤ m
  | 0, _ => Nat.le_refl _
  | m + 1, f => by
    have := fsCnt_le fs m (f + 1)
    show (if (fs f).isSome = true then 1 else 0) + fsCnt fs m (f + 1) ≤ m + 1
    split <;> omega
set_option maxRecDepth 100000 in
theorem d168l {s : aS} {fs : Nat → Option Fm} (h : CF s fs) : ∀ (m f c n : Nat), f + m = 8 → m < n → c ≤ f → dm168_4 n (Int32.ofNat c) (Int32.ofNat f) s = some (Int32.ofNat (c + fsCnt fs m f)) := by
  intro m
  induction m with
  | zero =>
    intro f c n hf hn hc
    obtain ⟨n, rfl⟩ : ∃ k, n = k + 1 := ⟨n - 1, by omega⟩
    rw [dm168_4, if_pos (by rw [iLe, iOfNat (by omega)]; show (8 : Int) ≤ f; omega)]
    rfl
  | succ m ih =>
    intro f c n hf hn hc
    obtain ⟨n, rfl⟩ : ∃ k, n = k + 1 := ⟨n - 1, by omega⟩
    rw [dm168_4, if_neg (by rw [iLe, iOfNat (by omega)]; show ¬ (8 : Int) ≤ f; omega), if_pos (by rw [aB_iff, iOfNat (by omega)]; omega)]
    unfold dm168_19
    rw [ofNat_succ (by omega)]
    obtain ⟨a1, a2⟩ := h f (by omega)
    have ej : jN (Int32.ofNat f) = f := jN_of (by omega)
    cases hq : fs f with
    | none =>
      have e : sI s 101 (jN (Int32.ofNat f)) = -1 := by rw [ej]; exact a1 hq
      rw [if_pos e, show Int32.ofNat c + 0 = Int32.ofNat (c + 0) from iSum (j := 0) (by omega) (by omega), ih (f + 1) (c + 0) n (by omega) (by omega) (by omega)]
      show _ = some (Int32.ofNat (c + ((if (fs f).isSome = true then 1 else 0) + fsCnt fs m (f + 1))))
      rw [hq, if_neg (by decide), Nat.zero_add, Nat.add_zero]
    | some q =>
      obtain ⟨ho, L⟩ := q
      obtain ⟨b1, b2, -⟩ := a2 ho L hq
      have e : ¬ sI s 101 (jN (Int32.ofNat f)) = -1 := by rw [ej, b1]; exact b2
      rw [if_neg e, ofNat_succ (by omega), ih (f + 1) (c + 1) n (by omega) (by omega) (by omega)]
      show _ = some (Int32.ofNat (c + ((if (fs f).isSome = true then 1 else 0) + fsCnt fs m (f + 1))))
      rw [hq, if_pos (by rfl), Nat.add_assoc]
set_option maxRecDepth 100000 in
theorem d249l {s : aS} {fs : Nat → Option Fm} (h : MM s fs) : ∀ (m f c n : Nat), f + m = 8 → m < n → c ≤ f → dm249_43 n (Int32.ofNat c) (Int32.ofNat f) s = some (Int32.ofNat (c + fsCnt fs m f), s) := by
  intro m
  induction m with
  | zero =>
    intro f c n hf hn hc
    obtain ⟨n, rfl⟩ : ∃ k, n = k + 1 := ⟨n - 1, by omega⟩
    rw [dm249_43, if_pos (by rw [iLe, iOfNat (by omega)]; show (8 : Int) ≤ f; omega)]
    rfl
  | succ m ih =>
    intro f c n hf hn hc
    obtain ⟨n, rfl⟩ : ∃ k, n = k + 1 := ⟨n - 1, by omega⟩
    rw [dm249_43, if_neg (by rw [iLe, iOfNat (by omega)]; show ¬ (8 : Int) ≤ f; omega), if_pos (by rw [aB_iff, iOfNat (by omega)]; omega)]
    unfold dm249_56
    rw [ofNat_succ (by omega)]
    obtain ⟨a1, a2⟩ := h f (by omega)
    have ej : jN (Int32.ofNat f) = f := jN_of (by omega)
    cases hq : fs f with
    | none =>
      have e : sI s 125 (jN (Int32.ofNat f)) = 0 := by rw [ej]; exact a1 hq
      rw [if_pos e, ih (f + 1) c n (by omega) (by omega) (by omega)]
      show _ = some (Int32.ofNat (c + ((if (fs f).isSome = true then 1 else 0) + fsCnt fs m (f + 1))), s)
      rw [hq, if_neg (by decide), Nat.zero_add]
    | some q =>
      obtain ⟨ho, L⟩ := q
      obtain ⟨b1, -⟩ := a2 ho L hq
      have e : ¬ sI s 125 (jN (Int32.ofNat f)) = 0 := by rw [ej, b1]; decide
      rw [if_neg e, ofNat_succ (by omega), ih (f + 1) (c + 1) n (by omega) (by omega) (by omega)]
      show _ = some (Int32.ofNat (c + ((if (fs f).isSome = true then 1 else 0) + fsCnt fs m (f + 1))), s)
      rw [hq, if_pos (by rfl), Nat.add_assoc]
/-- count -/
def cntV (ns : List (List Int32)) (fs : Nat → Option Fm) (x : Int32) : Int32 := if x = 0 then Int32.ofNat ns.length else if x = 1 then Int32.ofNat (fsCnt fs 8 0) else match fs (x.toInt.toNat - 2) with
  | none => -1
  | some q => q.1
set_option maxRecDepth 100000 in
theorem d166 {s : aS} {ns : List (List Int32)} {fs : Nat → Option Fm} (hs : SC s ns) (h : CF s fs) (x : Int32) : (¬ (0 ≤ x.toInt ∧ x.toInt ≤ 9) ∧ dm166 x s = some (.inr 0, nw s 80 0)) ∨ ((0 ≤ x.toInt ∧ x.toInt ≤ 9) ∧ dm166 x s = some (.inl (some (.int (cntV ns fs x))), s)) := by
  unfold dm166 dm166_5
  have l1 : x < 0 ↔ x.toInt < 0 := iLt
  have l2 : x ≤ 9 ↔ x.toInt ≤ 9 := iLe
  by_cases h1 : x < 0
  · left
    rw [if_pos h1]
    have := l1.mp h1
    exact ⟨by omega, rfl⟩
  · rw [if_neg h1]
    have h1 : ¬ x.toInt < 0 := fun q => h1 (l1.mpr q)
    by_cases h2 : x ≤ 9
    · right
      rw [if_pos h2]
      have h2 := l2.mp h2
      refine ⟨by omega, ?_⟩
      unfold cntV
      by_cases c0 : x = 0
      · rw [if_pos c0, if_pos c0]
        unfold dm167
        simp only [bu_some]
        rw [hs.1]
      · rw [if_neg c0, if_neg c0]
        by_cases c1 : x = 1
        · rw [if_pos c1, if_pos c1]
          unfold dm168
          have := d168l h 8 0 0 5000 (by omega) (by omega) (by omega)
          rw [Nat.zero_add] at this
          have : dm168_4 5000 0 0 s = some (Int32.ofNat (fsCnt fs 8 0)) := this
          rw [this]
          rfl
        · rw [if_neg c1, if_neg c1]
          rw [iEq] at c0 c1
          have c0 : ¬ x.toInt = 0 := c0
          have c1 : ¬ x.toInt = 1 := c1
          have hs2 : (x - 2).toInt = x.toInt - 2 := iSub (y := 2) (by show _ ≤ x.toInt - 2; omega) (by show x.toInt - 2 ≤ _; omega)
          have hj : jN (x - 2) = x.toInt.toNat - 2 := by rw [jN_eq, hs2]; omega
          rw [if_pos (by rw [aB_iff, hs2]; omega), hj]
          obtain ⟨a1, a2⟩ := h (x.toInt.toNat - 2) (by omega)
          cases hq : fs (x.toInt.toNat - 2) with
          | none => rw [a1 hq]
          | some q =>
            obtain ⟨ho, L⟩ := q
            rw [(a2 ho L hq).1]
    · left
      rw [if_neg h2]
      exact ⟨fun q => h2 (l2.mpr q.2), rfl⟩
end
section
/-! count in the reference; what is told of a node -/
set_option maxRecDepth 100000 in
theorem TM.of {A : Nat → Nat → Prop} {s s1 : aS} {f : Nat} {L : List Nd} (h : TM s f L) (g : ch A s s1) (hA : ∀ a k, A a k → a < 125 ∨ 136 < a) : TM s1 f L := ⟨(g.i fun q => by have := hA _ _ q; omega).trans h.1, h.2.1, fun i hi w hw => (g.i fun q => by have := hA _ _ q; omega).trans (h.2.2 i hi w hw)⟩
set_option maxRecDepth 100000 in
theorem MM.of {A : Nat → Nat → Prop} {s s1 : aS} {fs : Nat → Option Fm} (h : MM s fs) (g : ch A s s1) (hA : ∀ a k, A a k → a < 125 ∨ 136 < a) : MM s1 fs := fun f hf => ⟨fun q => (g.i fun q => by have := hA _ _ q; omega).trans ((h f hf).1 q), fun ho L q => ⟨(g.i fun q => by have := hA _ _ q; omega).trans ((h f hf).2 ho L q).1, (g.i fun q => by have := hA _ _ q; omega).trans ((h f hf).2 ho L q).2.1, ((h f hf).2 ho L q).2.2.of g hA⟩⟩
set_option maxRecDepth 100000 in
theorem ch0 (s : aS) (v : Int32) : ch (fun a k => a = 121 ∧ k = 0) s (wI s 121 0 v) := (ch.refl _ s).wI ⟨rfl, rfl⟩
set_option maxRecDepth 100000 in
theorem d249 {s : aS} {ns : List (List Int32)} {fs : Nat → Option Fm} (hs : SM s ns) (h : MM s fs) (x : Int32) : (¬ (0 ≤ x.toInt ∧ x.toInt ≤ 9) ∧ dm249 x s = some (0, wI s 121 0 1)) ∨ ((0 ≤ x.toInt ∧ x.toInt ≤ 9) ∧ dm249 x s = some (cntV ns fs x, wI s 121 0 0)) := by
  have l1 : x < 0 ↔ x.toInt < 0 := iLt
  have l2 : x ≤ 9 ↔ x.toInt ≤ 9 := iLe
  have z : dm249_6 x s = some (0, wI s 121 0 1) := by
    unfold dm249_6 dm249_9
    rw [nx_eq]
    exact if_neg (show ¬ (1 : Int32) ≤ 0 by decide)
  unfold dm249
  by_cases h1 : x < 0
  · left
    rw [if_pos h1]
    have := l1.mp h1
    exact ⟨by omega, z⟩
  · rw [if_neg h1]
    have h1 : ¬ x.toInt < 0 := fun q => h1 (l1.mpr q)
    by_cases h2 : x ≤ 9
    · right
      rw [if_pos h2]
      have h2 := l2.mp h2
      refine ⟨by omega, ?_⟩
      have hM : MM (wI s 121 0 0) fs := h.of (ch0 s 0) (by omega)
      unfold dm249_9 cntV
      rw [nx_eq, if_pos (show sI (wI s 121 0 0) 121 0 ≤ 0 from (by decide : (0 : Int32) ≤ 0))]
      by_cases c0 : x = 0
      · rw [if_pos c0, if_pos c0]
        have : sI (wI s 121 0 0) 121 3 = Int32.ofNat ns.length := hs.1
        rw [this]
      · rw [if_neg c0, if_neg c0]
        by_cases c1 : x = 1
        · rw [if_pos (show x ≤ 1 by rw [c1]; decide), if_pos c1]
          have := d249l hM 8 0 0 5000 (by omega) (by omega) (by omega)
          rw [Nat.zero_add] at this
          exact this
        · rw [if_neg c1]
          rw [iEq] at c0 c1
          have c0 : ¬ x.toInt = 0 := c0
          have c1 : ¬ x.toInt = 1 := c1
          have hs2 : (x - 2).toInt = x.toInt - 2 := iSub (y := 2) (by show _ ≤ x.toInt - 2; omega) (by show x.toInt - 2 ≤ _; omega)
          have hj : jN (x - 2) = x.toInt.toNat - 2 := by rw [jN_eq, hs2]; omega
          have hb : aB (x - 2) 8 := by rw [aB_iff, hs2]; omega
          rw [if_neg (show ¬ x ≤ 1 by rw [iLe]; show ¬ x.toInt ≤ 1; omega), if_pos hb, if_pos hb, hj]
          obtain ⟨a1, a2⟩ := hM (x.toInt.toNat - 2) (by omega)
          cases hq : fs (x.toInt.toNat - 2) with
          | none => rw [if_pos (a1 hq)]
          | some q =>
            obtain ⟨ho, L⟩ := q
            obtain ⟨b1, b2, -⟩ := a2 ho L hq
            rw [b1, if_neg (by decide), b2]
    · left
      rw [if_neg h2]
      exact ⟨fun q => h2 (l2.mpr q.2), z⟩
set_option maxRecDepth 100000 in
theorem iM11 {i w : Nat} (hi : i < 100000) (hw : w < 100000) : (Int32.ofNat i * 11) + Int32.ofNat w = Int32.ofNat (11 * i + w) := by
  have e1 : (Int32.ofNat i).toInt = i := iOfNat (by omega)
  have e2 : (Int32.ofNat w).toInt = w := iOfNat (by omega)
  have e3 : (Int32.ofNat i * 11).toInt = 11 * i := by
    rw [iMul (y := 11) (by rw [e1]; show _ ≤ (i : Int) * 11; omega) (by rw [e1]; show (i : Int) * 11 ≤ _; omega), e1]
    show (i : Int) * 11 = _
    omega
  apply Int32.toInt_inj.mp
  rw [iAdd (by rw [e3, e2]; omega) (by rw [e3, e2]; omega), e3, e2, iOfNat (by omega)]
  omega
set_option maxRecDepth 100000 in
theorem i128 {f i : Nat} (hf : f < 10000) (hi : i < 100000) : (128 * Int32.ofNat f) + Int32.ofNat i = Int32.ofNat (128 * f + i) := by
  have e1 : (Int32.ofNat f).toInt = f := iOfNat (by omega)
  have e2 : (Int32.ofNat i).toInt = i := iOfNat (by omega)
  have e3 : (128 * Int32.ofNat f).toInt = 128 * f := by
    rw [iMul (x := 128) (by rw [e1]; show _ ≤ (128 : Int) * f; omega) (by rw [e1]; show (128 : Int) * f ≤ _; omega), e1]
    rfl
  apply Int32.toInt_inj.mp
  rw [iAdd (by rw [e3, e2]; omega) (by rw [e3, e2]; omega), e3, e2, iOfNat (by omega)]
  omega
set_option maxRecDepth 100000 in
/-- a fact of a node -/
theorem d57 {s : aS} {b n i w : Nat} (hn : sI s b 2 = Int32.ofNat n) (h8 : n ≤ 128) (hi : i < n) (hw : w < 11) : dm57 b (Int32.ofNat i) (Int32.ofNat w) s = some (sI s (b + 1) (11 * i + w)) := by
  unfold dm57 dm57_14
  rw [hn, if_neg (by rw [iLt, iOfNat (by omega)]; show ¬ (i : Int) < 0; omega), if_neg (by rw [iLe, iOfNat (by omega), iOfNat (by omega)]; omega), if_neg (by rw [iLt, iOfNat (by omega)]; show ¬ (w : Int) < 0; omega), if_neg (by rw [iLe, iOfNat (by omega)]; show ¬ (11 : Int) ≤ w; omega), if_neg (by decide), iM11 (by omega) (by omega), if_pos (by rw [aB_iff, iOfNat (by omega)]; omega), jN_of (by omega)]
set_option maxRecDepth 100000 in
theorem ofNat_of {x : Int32} (h : 0 ≤ x.toInt) : x = Int32.ofNat x.toInt.toNat := by
  have := iRange x
  apply Int32.toInt_inj.mp
  rw [iOfNat (by omega)]
  omega
set_option maxRecDepth 100000 in
theorem d160 {s : aS} {fs : Nat → Option Fm} (h : CF s fs) (x y z : Int32) :
    (((fAt fs x = none) ∨ ∃ ho L, fAt fs x = some (ho, L) ∧ ¬ (0 ≤ y.toInt ∧ y.toInt < L.length)) ∧ dm160 x y z s = some (.inr 2, nw s 82 0)) ∨
    ∃ ho L, fAt fs x = some (ho, L) ∧ (0 ≤ y.toInt ∧ y.toInt < L.length) ∧ ((¬ (0 ≤ z.toInt ∧ z.toInt ≤ 8) ∧ dm160 x y z s = some (.inr 0, nw s 80 0)) ∨ ((0 ≤ z.toInt ∧ z.toInt ≤ 8) ∧ dm160 x y z s = some (.inl (some (.int ((L.getD y.toInt.toNat (fun _ => 0)) z.toInt.toNat))), s))) := by
  unfold dm160 dm160_10 dm160_20
  rcases d54 h x with ⟨e1, e2⟩ | ⟨ho, L, b, e1, -, e2, e3, e4, -⟩
  · left
    rw [e2]
    exact ⟨Or.inl e1, rfl⟩
  · rw [e2]
    simp only [bu_some, vN_ref]
    rw [if_pos e3]
    unfold dm161
    have h128 := e4.2.1
    have l1 : y < 0 ↔ y.toInt < 0 := iLt
    have l2 : Int32.ofNat L.length ≤ y ↔ (L.length : Int) ≤ y.toInt := by rw [iLe, iOfNat (by omega)]
    rw [e4.1]
    by_cases h1 : y < 0
    · left
      rw [if_pos h1]
      have := l1.mp h1
      exact ⟨Or.inr ⟨ho, L, e1, by omega⟩, rfl⟩
    · rw [if_neg h1]
      have h1 : ¬ y.toInt < 0 := fun q => h1 (l1.mpr q)
      by_cases h2 : Int32.ofNat L.length ≤ y
      · left
        rw [if_pos h2]
        have := l2.mp h2
        exact ⟨Or.inr ⟨ho, L, e1, by omega⟩, rfl⟩
      · right
        rw [if_neg h2]
        have h2 : ¬ (L.length : Int) ≤ y.toInt := fun q => h2 (l2.mpr q)
        refine ⟨ho, L, e1, by omega, ?_⟩
        simp only [bu_some]
        rw [if_neg (by decide)]
        have l3 : z < 0 ↔ z.toInt < 0 := iLt
        have l4 : z < 9 ↔ z.toInt < 9 := iLt
        by_cases h3 : z < 0
        · left
          rw [if_pos h3]
          have := l3.mp h3
          exact ⟨by omega, rfl⟩
        · rw [if_neg h3]
          have h3 : ¬ z.toInt < 0 := fun q => h3 (l3.mpr q)
          by_cases h4 : z < 9
          · right
            rw [if_pos h4]
            have h4 := l4.mp h4
            refine ⟨by omega, ?_⟩
            have hi : y.toInt.toNat < L.length := by omega
            have q := d57 (s := s) (b := b) (n := L.length) (i := y.toInt.toNat) (w := z.toInt.toNat) e4.1 h128 hi (by omega)
            rw [← ofNat_of (x := y) (by omega), ← ofNat_of (x := z) (by omega), e4.2.2 _ hi _ (by omega)] at q
            rw [q]
            simp only [bu_some]
            have : L.getD y.toInt.toNat (fun _ => 0) = L[y.toInt.toNat] := by
              rw [List.getD, List.getElem?_eq_getElem hi]
              rfl
            rw [this]
          · left
            rw [if_neg h4]
            exact ⟨fun q => h4 (l4.mpr (by omega)), rfl⟩
set_option maxRecDepth 100000 in
theorem d245 {s : aS} {f i w : Nat} {L : List Nd} (h : TM s f L) (hf : f < 9) (hi : i < L.length) (hw : w < 9) : dm245 (Int32.ofNat (128 * f + i)) (Int32.ofNat w) s = some (L[i] w) := by
  have h128 := h.2.1
  have hb : aB (Int32.ofNat (128 * f + i)) 1152 := by rw [aB_iff, iOfNat (by omega)]; omega
  have ej : jN (Int32.ofNat (128 * f + i)) = 128 * f + i := jN_of (by omega)
  have e := h.2.2 i hi w hw
  unfold dm245
  match w, hw with
  | 0, _ => rw [if_pos (by decide), if_pos hb, ej, e]
  | 1, _ => rw [if_neg (by decide), if_pos (by decide), if_pos hb, ej, e]
  | 2, _ => rw [if_neg (by decide), if_neg (by decide), if_pos (by decide), if_pos hb, ej, e]
  | 3, _ => rw [if_neg (by decide), if_neg (by decide), if_neg (by decide), if_pos (by decide), if_pos hb, ej, e]
  | 4, _ => rw [if_neg (by decide), if_neg (by decide), if_neg (by decide), if_neg (by decide), if_pos (by decide), if_pos hb, ej, e]
  | 5, _ => rw [if_neg (by decide), if_neg (by decide), if_neg (by decide), if_neg (by decide), if_neg (by decide), if_pos (by decide), if_pos hb, ej, e]
  | 6, _ => rw [if_neg (by decide), if_neg (by decide), if_neg (by decide), if_neg (by decide), if_neg (by decide), if_neg (by decide), if_pos (by decide), if_pos hb, ej, e]
  | 7, _ => rw [if_neg (by decide), if_neg (by decide), if_neg (by decide), if_neg (by decide), if_neg (by decide), if_neg (by decide), if_neg (by decide), if_pos (by decide), if_pos hb, ej, e]
  | 8, _ => rw [if_neg (by decide), if_neg (by decide), if_neg (by decide), if_neg (by decide), if_neg (by decide), if_neg (by decide), if_neg (by decide), if_neg (by decide), if_pos hb, ej, e]
set_option maxRecDepth 100000 in
theorem d244 {s : aS} {fs : Nat → Option Fm} (h : MM s fs) (x y z : Int32) :
    (((fAt fs x = none) ∨ ∃ ho L, fAt fs x = some (ho, L) ∧ ¬ (0 ≤ y.toInt ∧ y.toInt < L.length)) ∧ dm244 x y z s = some (0, wI s 121 0 1)) ∨
    ∃ ho L, fAt fs x = some (ho, L) ∧ (0 ≤ y.toInt ∧ y.toInt < L.length) ∧ ((¬ (0 ≤ z.toInt ∧ z.toInt ≤ 8) ∧ dm244 x y z s = some (0, wI s 121 0 2)) ∨ ((0 ≤ z.toInt ∧ z.toInt ≤ 8) ∧ dm244 x y z s = some ((L.getD y.toInt.toNat (fun _ => 0)) z.toInt.toNat, wI s 121 0 0))) := by
  have z1 : dm244_13 x y z s = some (0, wI s 121 0 1) := by
    unfold dm244_13 dm244_23
    rw [nx_eq]
    exact if_neg (show ¬ (1 : Int32) ≤ 0 by decide)
  have z2 : dm244_20 x y z s = some (0, wI s 121 0 2) := by
    unfold dm244_20 dm244_23
    rw [nx_eq]
    exact if_neg (show ¬ (2 : Int32) ≤ 0 by decide)
  unfold dm244
  rcases d225 h x with ⟨e1, e2⟩ | ⟨ho, L, e1, hx, e2, e3, -⟩
  · left
    rw [e2]
    simp only [bu_some]
    rw [if_neg (by decide), z1]
    exact ⟨Or.inl e1, rfl⟩
  · rw [e2]
    simp only [bu_some]
    rw [if_pos trivial]
    have h128 := e3.2.1
    have l1 : y < 0 ↔ y.toInt < 0 := iLt
    have eL : sI s 127 (jN x) = Int32.ofNat L.length := e3.1
    have l2 : y < Int32.ofNat L.length ↔ y.toInt < (L.length : Int) := by rw [iLt, iOfNat (by omega)]
    by_cases h1 : y < 0
    · left
      rw [if_pos h1, z1]
      have := l1.mp h1
      exact ⟨Or.inr ⟨ho, L, e1, by omega⟩, rfl⟩
    · rw [if_neg h1, if_pos (by rw [aB_iff]; omega), eL]
      have h1 : ¬ y.toInt < 0 := fun q => h1 (l1.mpr q)
      by_cases h2 : y < Int32.ofNat L.length
      · right
        rw [if_pos h2]
        have h2 := l2.mp h2
        refine ⟨ho, L, e1, by omega, ?_⟩
        have l3 : z < 0 ↔ z.toInt < 0 := iLt
        have l4 : z ≤ 8 ↔ z.toInt ≤ 8 := iLe
        by_cases h3 : z < 0
        · left
          rw [if_pos h3, z2]
          have := l3.mp h3
          exact ⟨by omega, rfl⟩
        · rw [if_neg h3]
          have h3 : ¬ z.toInt < 0 := fun q => h3 (l3.mpr q)
          by_cases h4 : z ≤ 8
          · right
            rw [if_pos h4]
            have h4 := l4.mp h4
            refine ⟨by omega, ?_⟩
            have hi : y.toInt.toNat < L.length := by omega
            unfold dm244_23
            rw [nx_eq, if_pos (show sI (wI s 121 0 0) 121 0 ≤ 0 from (by decide : (0 : Int32) ≤ 0))]
            have el : (128 * x) + y = Int32.ofNat (128 * x.toInt.toNat + y.toInt.toNat) := by
              have := i128 (f := x.toInt.toNat) (i := y.toInt.toNat) (by omega) (by omega)
              rw [← ofNat_of (x := x) (by omega), ← ofNat_of (x := y) (by omega)] at this
              exact this
            have q := d245 (s := wI s 121 0 0) (f := x.toInt.toNat) (i := y.toInt.toNat) (w := z.toInt.toNat) (e3.of (ch0 s 0) (by omega)) (by omega) hi (by omega)
            rw [← ofNat_of (x := z) (by omega)] at q
            rw [el, q]
            simp only [bu_some]
            have : L.getD y.toInt.toNat (fun _ => 0) = L[y.toInt.toNat] := by
              rw [List.getD, List.getElem?_eq_getElem hi]
              rfl
            rw [this]
          · left
            rw [if_neg h4, z2]
            exact ⟨fun q => h4 (l4.mpr q.2), rfl⟩
      · left
        rw [if_neg h2, z1]
        have h2 : ¬ y.toInt < (L.length : Int) := fun q => h2 (l2.mpr q)
        exact ⟨Or.inr ⟨ho, L, e1, by omega⟩, rfl⟩
end
