/-! 196 FormulaTreesModel.isDigit(I)Z -/
set_option maxRecDepth 100000 in
theorem zm196 : zP[196]? = some zM196 := rfl
def dm196 (x0 : Int32) : Option (Int32) :=
  if x0 < 48 then
    some 0
  else
    if 57 < x0 then
      some 0
    else
      some 1
set_option maxRecDepth 100000 in
theorem dt196 {sio : Bool} {tt : Nat} {cc : Nat → Nat → Int32} {d : Nat} (hd : 0 ≤ d) {x0 : Int32} {s : aS} (hl : Ly tt cc s) {o : Int32} (h : dm196  x0 = some o) : Q 2 sio tt cc d 196 0 [some (.int x0)] [] s (.inl (some (.int o)), s) := by
  unfold dm196 at h
  refine Q.run zm196 2 (i' := 2) (ls' := [some (.int x0)]) (st' := [.int 48, .int x0]) rfl ?_
  by_cases hc1 : x0 < 48
  · rw [if_pos hc1] at h
    refine Q.map (A.bT (gI_of zm196 (e := (3, 3, .if_icmp .lt 13, [8])) rfl) (decide_eq_true hc1)) ?_
    refine Q.run zm196 1 (i' := 9) (ls' := [some (.int x0)]) (st' := [.int 0]) rfl ?_
    cases h
    exact Q.ret (A.ri zm196 (show zM196.2.2.2.2.2[9]? = some (17, 1, .ireturn, []) from rfl) rfl rfl) hl
  · rw [if_neg hc1] at h
    refine Q.map (A.bF (gI_of zm196 (e := (3, 3, .if_icmp .lt 13, [8])) rfl) (fun q => hc1 (of_decide_eq_true q))) ?_
    refine Q.run zm196 2 (i' := 5) (ls' := [some (.int x0)]) (st' := [.int 57, .int x0]) rfl ?_
    by_cases hc2 : 57 < x0
    · rw [if_pos hc2] at h
      refine Q.map (A.bT (gI_of zm196 (e := (9, 3, .if_icmp .gt 7, [8])) rfl) (decide_eq_true hc2)) ?_
      refine Q.run zm196 1 (i' := 9) (ls' := [some (.int x0)]) (st' := [.int 0]) rfl ?_
      cases h
      exact Q.ret (A.ri zm196 (show zM196.2.2.2.2.2[9]? = some (17, 1, .ireturn, []) from rfl) rfl rfl) hl
    · rw [if_neg hc2] at h
      refine Q.map (A.bF (gI_of zm196 (e := (9, 3, .if_icmp .gt 7, [8])) rfl) (fun q => hc2 (of_decide_eq_true q))) ?_
      refine Q.run zm196 2 (i' := 9) (ls' := [some (.int x0)]) (st' := [.int 1]) rfl ?_
      cases h
      exact Q.ret (A.ri zm196 (show zM196.2.2.2.2.2[9]? = some (17, 1, .ireturn, []) from rfl) rfl rfl) hl
/-! 198 FormulaTreesModel.isLetter(I)Z -/
set_option maxRecDepth 100000 in
theorem zm198 : zP[198]? = some zM198 := rfl
def dm198_12 : Option (Int32) :=
  some 1
set_option maxRecDepth 100000 in
theorem dt198_12 {sio : Bool} {tt : Nat} {cc : Nat → Nat → Int32} {d : Nat} (hd : 0 ≤ d) {x0 : Int32} {s : aS} (hl : Ly tt cc s) {o : Int32} (h : dm198_12   = some o) : Q 2 sio tt cc d 198 12 [some (.int x0)] [] s (.inl (some (.int o)), s) := by
  unfold dm198_12 at h
  refine Q.run zm198 2 (i' := 15) (ls' := [some (.int x0)]) (st' := [.int 1]) rfl ?_
  cases h
  exact Q.ret (A.ri zm198 (show zM198.2.2.2.2.2[15]? = some (29, 1, .ireturn, []) from rfl) rfl rfl) hl
def dm198_6 (x0 : Int32) : Option (Int32) :=
  if x0 < 65 then
    some 0
  else
    if 90 < x0 then
      some 0
    else
      dm198_12 
set_option maxRecDepth 100000 in
theorem dt198_6 {sio : Bool} {tt : Nat} {cc : Nat → Nat → Int32} {d : Nat} (hd : 0 ≤ d) {x0 : Int32} {s : aS} (hl : Ly tt cc s) {o : Int32} (h : dm198_6  x0 = some o) : Q 2 sio tt cc d 198 6 [some (.int x0)] [] s (.inl (some (.int o)), s) := by
  unfold dm198_6 at h
  refine Q.run zm198 2 (i' := 8) (ls' := [some (.int x0)]) (st' := [.int 65, .int x0]) rfl ?_
  by_cases hc1 : x0 < 65
  · rw [if_pos hc1] at h
    refine Q.map (A.bT (gI_of zm198 (e := (15, 3, .if_icmp .lt 13, [14])) rfl) (decide_eq_true hc1)) ?_
    refine Q.run zm198 1 (i' := 15) (ls' := [some (.int x0)]) (st' := [.int 0]) rfl ?_
    cases h
    exact Q.ret (A.ri zm198 (show zM198.2.2.2.2.2[15]? = some (29, 1, .ireturn, []) from rfl) rfl rfl) hl
  · rw [if_neg hc1] at h
    refine Q.map (A.bF (gI_of zm198 (e := (15, 3, .if_icmp .lt 13, [14])) rfl) (fun q => hc1 (of_decide_eq_true q))) ?_
    refine Q.run zm198 2 (i' := 11) (ls' := [some (.int x0)]) (st' := [.int 90, .int x0]) rfl ?_
    by_cases hc2 : 90 < x0
    · rw [if_pos hc2] at h
      refine Q.map (A.bT (gI_of zm198 (e := (21, 3, .if_icmp .gt 7, [14])) rfl) (decide_eq_true hc2)) ?_
      refine Q.run zm198 1 (i' := 15) (ls' := [some (.int x0)]) (st' := [.int 0]) rfl ?_
      cases h
      exact Q.ret (A.ri zm198 (show zM198.2.2.2.2.2[15]? = some (29, 1, .ireturn, []) from rfl) rfl rfl) hl
    · rw [if_neg hc2] at h
      refine Q.map (A.bF (gI_of zm198 (e := (21, 3, .if_icmp .gt 7, [14])) rfl) (fun q => hc2 (of_decide_eq_true q))) ?_
      exact dt198_12 hd hl  h
def dm198 (x0 : Int32) : Option (Int32) :=
  if x0 < 97 then
    dm198_6 x0
  else
    if x0 ≤ 122 then
      dm198_12 
    else
      dm198_6 x0
set_option maxRecDepth 100000 in
theorem dt198 {sio : Bool} {tt : Nat} {cc : Nat → Nat → Int32} {d : Nat} (hd : 0 ≤ d) {x0 : Int32} {s : aS} (hl : Ly tt cc s) {o : Int32} (h : dm198  x0 = some o) : Q 2 sio tt cc d 198 0 [some (.int x0)] [] s (.inl (some (.int o)), s) := by
  unfold dm198 at h
  refine Q.run zm198 2 (i' := 2) (ls' := [some (.int x0)]) (st' := [.int 97, .int x0]) rfl ?_
  by_cases hc1 : x0 < 97
  · rw [if_pos hc1] at h
    refine Q.map (A.bT (gI_of zm198 (e := (3, 3, .if_icmp .lt 9, [6])) rfl) (decide_eq_true hc1)) ?_
    exact dt198_6 hd hl  h
  · rw [if_neg hc1] at h
    refine Q.map (A.bF (gI_of zm198 (e := (3, 3, .if_icmp .lt 9, [6])) rfl) (fun q => hc1 (of_decide_eq_true q))) ?_
    refine Q.run zm198 2 (i' := 5) (ls' := [some (.int x0)]) (st' := [.int 122, .int x0]) rfl ?_
    by_cases hc2 : x0 ≤ 122
    · rw [if_pos hc2] at h
      refine Q.map (A.bT (gI_of zm198 (e := (9, 3, .if_icmp .le 15, [12])) rfl) (decide_eq_true hc2)) ?_
      exact dt198_12 hd hl  h
    · rw [if_neg hc2] at h
      refine Q.map (A.bF (gI_of zm198 (e := (9, 3, .if_icmp .le 15, [12])) rfl) (fun q => hc2 (of_decide_eq_true q))) ?_
      exact dt198_6 hd hl  h
/-! 197 FormulaTreesModel.begins(I)Z -/
set_option maxRecDepth 100000 in
theorem zm197 : zP[197]? = some zM197 := rfl
def dm197_6 : Option (Int32) :=
  some 1
set_option maxRecDepth 100000 in
theorem dt197_6 {sio : Bool} {tt : Nat} {cc : Nat → Nat → Int32} {d : Nat} (hd : 1 ≤ d) {x0 : Int32} {s : aS} (hl : Ly tt cc s) {o : Int32} (h : dm197_6   = some o) : Q 2 sio tt cc d 197 6 [some (.int x0)] [] s (.inl (some (.int o)), s) := by
  unfold dm197_6 at h
  obtain ⟨d, rfl⟩ : ∃ e, d = e + 1 := ⟨d - 1, by omega⟩
  refine Q.run zm197 2 (i' := 9) (ls' := [some (.int x0)]) (st' := [.int 1]) rfl ?_
  cases h
  exact Q.ret (A.ri zm197 (show zM197.2.2.2.2.2[9]? = some (18, 1, .ireturn, []) from rfl) rfl rfl) hl
def dm197 (x0 : Int32) : Option (Int32) :=
  bu (dm198 x0) fun r3 =>
  if r3 = 0 then
    if x0 = 95 then
      dm197_6 
    else
      some 0
  else
    dm197_6 
set_option maxRecDepth 100000 in
theorem dt197 {sio : Bool} {tt : Nat} {cc : Nat → Nat → Int32} {d : Nat} (hd : 1 ≤ d) {x0 : Int32} {s : aS} (hl : Ly tt cc s) {o : Int32} (h : dm197  x0 = some o) : Q 2 sio tt cc d 197 0 [some (.int x0)] [] s (.inl (some (.int o)), s) := by
  unfold dm197 at h
  obtain ⟨d, rfl⟩ : ∃ e, d = e + 1 := ⟨d - 1, by omega⟩
  refine Q.run zm197 1 (i' := 1) (ls' := [some (.int x0)]) (st' := [.int x0]) rfl ?_
  obtain ⟨r3, hc2, h⟩ := bu_so h
  have hq1 : Q 2 sio tt cc d 198 0 [some (.int x0)] [] s (.inl (some (.int r3)), s) := dt198 (by omega) hl  hc2
  refine Q.callI (gC_st zm197 (show zM197.2.2.2.2.2[1]? = some (1, 3, .invokestatic 93, [0, 198, 1]) from rfl) zm198 (show aC 1 [.int x0] 1 = some ([some (.int x0)], []) from rfl)) hq1 ?_
  by_cases hc4 : r3 = 0
  · rw [if_pos hc4] at h
    refine Q.map (A.zF (gI_of zm197 (e := (4, 3, .ifCond .ne 9, [6])) rfl) (fun q => of_decide_eq_true q hc4)) ?_
    refine Q.run zm197 2 (i' := 5) (ls' := [some (.int x0)]) (st' := [.int 95, .int x0]) rfl ?_
    by_cases hc5 : x0 = 95
    · rw [if_pos hc5] at h
      refine Q.map (A.bF (gI_of zm197 (e := (10, 3, .if_icmp .ne 7, [8])) rfl) (fun q => of_decide_eq_true q hc5)) ?_
      exact dt197_6 hd hl  h
    · rw [if_neg hc5] at h
      refine Q.map (A.bT (gI_of zm197 (e := (10, 3, .if_icmp .ne 7, [8])) rfl) (decide_eq_true hc5)) ?_
      refine Q.run zm197 1 (i' := 9) (ls' := [some (.int x0)]) (st' := [.int 0]) rfl ?_
      cases h
      exact Q.ret (A.ri zm197 (show zM197.2.2.2.2.2[9]? = some (18, 1, .ireturn, []) from rfl) rfl rfl) hl
  · rw [if_neg hc4] at h
    refine Q.map (A.zT (gI_of zm197 (e := (4, 3, .ifCond .ne 9, [6])) rfl) (decide_eq_true hc4)) ?_
    exact dt197_6 hd hl  h
/-! 200 FormulaTreesModel.keep(IIZ)V -/
set_option maxRecDepth 100000 in
theorem zm200 : zP[200]? = some zM200 := rfl
def dm200_40 (k19 : Int32 → Int32 → aS → Option (aS)) (x3 : Int32) (x4 : Int32) (y1 : Int32) (y2 : Int32) (s : aS) : Option (aS) :=
  if aB y1 2304 then
    nx (wI s 139 (jN y1) y2) fun s2 =>
    k19 x3 (x4 + 1) s2
  else none
set_option maxRecDepth 100000 in
theorem dt200_40 {sio : Bool} {tt : Nat} {cc : Nat → Nat → Int32} {d : Nat} (hd : 1 ≤ d) {k19 : Int32 → Int32 → aS → Option (aS)} (hk19 : ∀ {x3 : Int32} {x4 : Int32} {x1 : Int32} {x2 : Int32} {s : aS}, Ly tt cc s → ∀ {o : aS}, k19 x3 x4 s = some o → Q 2 sio tt cc d 200 19 [some (.ref 121), some (.int x1), some (.int x2), some (.int x3), some (.int x4)] [] s (.inl none, o)) {x3 : Int32} {x4 : Int32} {y1 : Int32} {y2 : Int32} {x1 : Int32} {x2 : Int32} {s : aS} (hl : Ly tt cc s) {o : aS} (h : dm200_40 k19 x3 x4 y1 y2 s = some o) : Q 2 sio tt cc d 200 40 [some (.ref 121), some (.int x1), some (.int x2), some (.int x3), some (.int x4)] [.int y2, .int y1, .ref 139] s (.inl none, o) := by
  unfold dm200_40 at h
  obtain ⟨d, rfl⟩ : ∃ e, d = e + 1 := ⟨d - 1, by omega⟩
  obtain ⟨hc1, h⟩ := ite_so h
  obtain ⟨s2, hs3, h⟩ := nx_so h
  refine Q.is hs3 rfl (gI_of zm200 (e := (73, 1, .iastore, [])) rfl) (hl.lt (a := 139) (by decide)) (by decide) (hl.T (a := 139) (p := (100, 2304)) 61 rfl rfl) hc1 ?_
  have hl4 : Ly tt cc s2 := by rw [hs3]; exact hl.wId (by decide)
  refine Q.run zm200 2 (i' := 19) (ls' := [some (.ref 121), some (.int x1), some (.int x2), some (.int x3), some (.int (x4 + 1))]) (st' := []) rfl ?_
  exact hk19 hl4  h
def dm200_19 : Nat → Int32 → Int32 → aS → Option (aS)
  | 0, _, _, _ => none
  | n + 1, x3, x4, s =>
    if (sI s 121 26) ≤ x4 then
      some s
    else
      if x3 = 0 then
        if aB x4 256 then
          dm200_40 (dm200_19 n) x3 x4 (2048 + x4) (sI s 122 (jN x4)) s
        else none
      else
        if aB x4 256 then
          bu (dm178 (sI s 122 (jN x4))) fun r7 =>
          dm200_40 (dm200_19 n) x3 x4 (2048 + x4) r7 s
        else none
set_option maxRecDepth 100000 in
theorem dt200_19 {sio : Bool} {tt : Nat} {cc : Nat → Nat → Int32} {d : Nat} (hd : 1 ≤ d) : ∀ (n : Nat) {x3 : Int32} {x4 : Int32} {x1 : Int32} {x2 : Int32} {s : aS} (_ : Ly tt cc s) {o : aS} (_ : dm200_19  n x3 x4 s = some o), Q 2 sio tt cc d 200 19 [some (.ref 121), some (.int x1), some (.int x2), some (.int x3), some (.int x4)] [] s (.inl none, o) := by
  obtain ⟨d, rfl⟩ : ∃ e, d = e + 1 := ⟨d - 1, by omega⟩
  intro n
  induction n with
  | zero => intro x3 x4 x1 x2 s hl o h; rw [dm200_19] at h; cases h
  | succ n ih =>
    intro x3 x4 x1 x2 s hl o h
    rw [dm200_19] at h
    refine Q.run zm200 2 (i' := 21) (ls' := [some (.ref 121), some (.int x1), some (.int x2), some (.int x3), some (.int x4)]) (st' := [.ref 121, .int x4]) rfl ?_
    refine Q.map (A.gf (gI_of zm200 (e := (33, 3, .getfield 138, [9, 26])) rfl) (hl.lt (a := 121) (by decide)) (hl.T (a := 121) (p := (9, 45)) 43 rfl rfl) (by decide) rfl) ?_
    by_cases hc1 : (sI s 121 26) ≤ x4
    · rw [if_pos hc1] at h
      refine Q.map (A.bT (gI_of zm200 (e := (36, 3, .if_icmp .ge 44, [43])) rfl) (decide_eq_true hc1)) ?_
      cases h
      exact Q.ret (A.rv zm200 (show zM200.2.2.2.2.2[43]? = some (80, 1, .return_, []) from rfl) rfl) hl
    · rw [if_neg hc1] at h
      refine Q.map (A.bF (gI_of zm200 (e := (36, 3, .if_icmp .ge 44, [43])) rfl) (fun q => hc1 (of_decide_eq_true q))) ?_
      refine Q.run zm200 1 (i' := 24) (ls' := [some (.ref 121), some (.int x1), some (.int x2), some (.int x3), some (.int x4)]) (st' := [.ref 121]) rfl ?_
      refine Q.map (A.gf (gI_of zm200 (e := (40, 3, .getfield 62, [9, 20])) rfl) (hl.lt (a := 121) (by decide)) (hl.T (a := 121) (p := (9, 45)) 43 rfl rfl) (by decide) (hl.R 40 rfl)) ?_
      refine Q.run zm200 4 (i' := 29) (ls' := [some (.ref 121), some (.int x1), some (.int x2), some (.int x3), some (.int x4)]) (st' := [.int x3, .int (2048 + x4), .ref 139]) rfl ?_
      by_cases hc2 : x3 = 0
      · rw [if_pos hc2] at h
        refine Q.map (A.zT (gI_of zm200 (e := (50, 3, .ifCond .eq 16, [36])) rfl) (decide_eq_true hc2)) ?_
        refine Q.run zm200 1 (i' := 37) (ls' := [some (.ref 121), some (.int x1), some (.int x2), some (.int x3), some (.int x4)]) (st' := [.ref 121, .int (2048 + x4), .ref 139]) rfl ?_
        refine Q.map (A.gf (gI_of zm200 (e := (67, 3, .getfield 7, [9, 2])) rfl) (hl.lt (a := 121) (by decide)) (hl.T (a := 121) (p := (9, 45)) 43 rfl rfl) (by decide) (hl.R 23 rfl)) ?_
        refine Q.run zm200 1 (i' := 39) (ls' := [some (.ref 121), some (.int x1), some (.int x2), some (.int x3), some (.int x4)]) (st' := [.int x4, .ref 122, .int (2048 + x4), .ref 139]) rfl ?_
        obtain ⟨hc3, h⟩ := ite_so h
        refine Q.map (A.ia (gI_of zm200 (e := (72, 1, .iaload, [])) rfl) (hl.lt (a := 122) (by decide)) (hl.T (a := 122) (p := (100, 256)) 44 rfl rfl) hc3) ?_
        exact dt200_40 hd ih hl  h
      · rw [if_neg hc2] at h
        refine Q.map (A.zF (gI_of zm200 (e := (50, 3, .ifCond .eq 16, [36])) rfl) (fun q => hc2 (of_decide_eq_true q))) ?_
        refine Q.run zm200 1 (i' := 31) (ls' := [some (.ref 121), some (.int x1), some (.int x2), some (.int x3), some (.int x4)]) (st' := [.ref 121, .int (2048 + x4), .ref 139]) rfl ?_
        refine Q.map (A.gf (gI_of zm200 (e := (54, 3, .getfield 7, [9, 2])) rfl) (hl.lt (a := 121) (by decide)) (hl.T (a := 121) (p := (9, 45)) 43 rfl rfl) (by decide) (hl.R 23 rfl)) ?_
        refine Q.run zm200 1 (i' := 33) (ls' := [some (.ref 121), some (.int x1), some (.int x2), some (.int x3), some (.int x4)]) (st' := [.int x4, .ref 122, .int (2048 + x4), .ref 139]) rfl ?_
        obtain ⟨hc4, h⟩ := ite_so h
        refine Q.map (A.ia (gI_of zm200 (e := (59, 1, .iaload, [])) rfl) (hl.lt (a := 122) (by decide)) (hl.T (a := 122) (p := (100, 256)) 44 rfl rfl) hc4) ?_
        obtain ⟨r7, hc6, h⟩ := bu_so h
        have hq5 : Q 2 sio tt cc d 178 0 [some (.int (sI s 122 (jN x4)))] [] s (.inl (some (.int r7)), s) := dt178 (by omega) hl  hc6
        refine Q.callI (gC_st zm200 (show zM200.2.2.2.2.2[34]? = some (60, 3, .invokestatic 109, [0, 178, 1]) from rfl) zm178 (show aC 1 [.int (sI s 122 (jN x4)), .int (2048 + x4), .ref 139] 1 = some ([some (.int (sI s 122 (jN x4)))], [.int (2048 + x4), .ref 139]) from rfl)) hq5 ?_
        refine Q.run zm200 1 (i' := 40) (ls' := [some (.ref 121), some (.int x1), some (.int x2), some (.int x3), some (.int x4)]) (st' := [.int r7, .int (2048 + x4), .ref 139]) rfl ?_
        exact dt200_40 hd ih hl  h
def dm200 (x1 : Int32) (x2 : Int32) (x3 : Int32) (s : aS) : Option (aS) :=
  if aB (1024 + x1) 1152 then
    nx (wI s 137 (jN (1024 + x1)) x2) fun s2 =>
    if aB (1024 + x1) 1152 then
      nx (wI s2 138 (jN (1024 + x1)) ((sI s2 121 26) - x2)) fun s6 =>
      dm200_19 5000 x3 x2 s6
    else none
  else none
set_option maxRecDepth 100000 in
theorem dt200 {sio : Bool} {tt : Nat} {cc : Nat → Nat → Int32} {d : Nat} (hd : 1 ≤ d) {x1 : Int32} {x2 : Int32} {x3 : Int32} {s : aS} (hl : Ly tt cc s) {o : aS} (h : dm200  x1 x2 x3 s = some o) : Q 2 sio tt cc d 200 0 [some (.ref 121), some (.int x1), some (.int x2), some (.int x3), none] [] s (.inl none, o) := by
  unfold dm200 at h
  obtain ⟨d, rfl⟩ : ∃ e, d = e + 1 := ⟨d - 1, by omega⟩
  refine Q.run zm200 1 (i' := 1) (ls' := [some (.ref 121), some (.int x1), some (.int x2), some (.int x3), none]) (st' := [.ref 121]) rfl ?_
  refine Q.map (A.gf (gI_of zm200 (e := (1, 3, .getfield 56, [9, 18])) rfl) (hl.lt (a := 121) (by decide)) (hl.T (a := 121) (p := (9, 45)) 43 rfl rfl) (by decide) (hl.R 38 rfl)) ?_
  refine Q.run zm200 4 (i' := 6) (ls' := [some (.ref 121), some (.int x1), some (.int x2), some (.int x3), none]) (st' := [.int x2, .int (1024 + x1), .ref 137]) rfl ?_
  obtain ⟨hc1, h⟩ := ite_so h
  obtain ⟨s2, hs3, h⟩ := nx_so h
  refine Q.is hs3 rfl (gI_of zm200 (e := (10, 1, .iastore, [])) rfl) (hl.lt (a := 137) (by decide)) (by decide) (hl.T (a := 137) (p := (100, 1152)) 59 rfl rfl) hc1 ?_
  have hl4 : Ly tt cc s2 := by rw [hs3]; exact hl.wId (by decide)
  refine Q.run zm200 1 (i' := 8) (ls' := [some (.ref 121), some (.int x1), some (.int x2), some (.int x3), none]) (st' := [.ref 121]) rfl ?_
  refine Q.map (A.gf (gI_of zm200 (e := (12, 3, .getfield 59, [9, 19])) rfl) (hl4.lt (a := 121) (by decide)) (hl4.T (a := 121) (p := (9, 45)) 43 rfl rfl) (by decide) (hl4.R 39 rfl)) ?_
  refine Q.run zm200 4 (i' := 13) (ls' := [some (.ref 121), some (.int x1), some (.int x2), some (.int x3), none]) (st' := [.ref 121, .int (1024 + x1), .ref 138]) rfl ?_
  refine Q.map (A.gf (gI_of zm200 (e := (21, 3, .getfield 138, [9, 26])) rfl) (hl4.lt (a := 121) (by decide)) (hl4.T (a := 121) (p := (9, 45)) 43 rfl rfl) (by decide) rfl) ?_
  refine Q.run zm200 2 (i' := 16) (ls' := [some (.ref 121), some (.int x1), some (.int x2), some (.int x3), none]) (st' := [.int ((sI s2 121 26) - x2), .int (1024 + x1), .ref 138]) rfl ?_
  obtain ⟨hc5, h⟩ := ite_so h
  obtain ⟨s6, hs7, h⟩ := nx_so h
  refine Q.is hs7 rfl (gI_of zm200 (e := (26, 1, .iastore, [])) rfl) (hl4.lt (a := 138) (by decide)) (by decide) (hl4.T (a := 138) (p := (100, 1152)) 60 rfl rfl) hc5 ?_
  have hl8 : Ly tt cc s6 := by rw [hs7]; exact hl4.wId (by decide)
  refine Q.run zm200 2 (i' := 19) (ls' := [some (.ref 121), some (.int x1), some (.int x2), some (.int x3), some (.int x2)]) (st' := []) rfl ?_
  exact dt200_19 hd _ hl8  h
/-! 199 FormulaTreesModel.readNumber()V -/
set_option maxRecDepth 100000 in
theorem zm199 : zP[199]? = some zM199 := rfl
def dm199_116 (x1 : Int32) (s : aS) : Option (aS) :=
  bv (dm187 0 s) fun r4 s3 =>
  bu (dm200 r4 x1 1 s3) fun s7 =>
  bu (dm194 r4 s7) fun s10 =>
  some s10
set_option maxRecDepth 100000 in
theorem dt199_116 {sio : Bool} {tt : Nat} {cc : Nat → Nat → Int32} {d : Nat} (hd : 2 ≤ d) {x1 : Int32} {x2 : Int32} {x3 : Int32} {g4 : Option Value} {s : aS} (hl : Ly tt cc s) {o : aS} (h : dm199_116  x1 s = some o) : Q 2 sio tt cc d 199 116 [some (.ref 121), some (.int x1), some (.int x2), some (.int x3), g4] [] s (.inl none, o) := by
  unfold dm199_116 at h
  obtain ⟨d, rfl⟩ : ∃ e, d = e + 1 := ⟨d - 1, by omega⟩
  refine Q.run zm199 2 (i' := 118) (ls' := [some (.ref 121), some (.int x1), some (.int x2), some (.int x3), g4]) (st' := [.int 0, .ref 121]) rfl ?_
  obtain ⟨r4, s3, hc2, h⟩ := bv_so h
  have hq1 : Q 2 sio tt cc d 187 0 [some (.ref 121), some (.int 0), none, none] [] s (.inl (some (.int r4)), s3) := dt187 (by omega) hl  hc2
  refine Q.callI (gC_vi zm199 (show zM199.2.2.2.2.2[118]? = some (228, 3, .invokevirtual 167, [0, 187, 1, 9]) from rfl) zm187 (hl.lt (a := 121) (by decide)) (hl.T (a := 121) (p := (9, 45)) 43 rfl rfl) rfl (show aCr 1 121 [.int 0, .ref 121] 4 = some ([some (.ref 121), some (.int 0), none, none], []) from rfl)) hq1 ?_
  refine Q.run zm199 5 (i' := 124) (ls' := [some (.ref 121), some (.int x1), some (.int x2), some (.int x3), some (.int r4)]) (st' := [.int 1, .int x1, .int r4, .ref 121]) rfl ?_
  obtain ⟨s7, hc6, h⟩ := bu_so h
  have hq5 : Q 2 sio tt cc d 200 0 [some (.ref 121), some (.int r4), some (.int x1), some (.int 1), none] [] s3 (.inl none, s7) := dt200 (by omega) hq1.1  hc6
  refine Q.callV (gC_vi zm199 (show zM199.2.2.2.2.2[124]? = some (238, 3, .invokevirtual 170, [0, 200, 3, 9]) from rfl) zm200 (hq1.1.lt (a := 121) (by decide)) (hq1.1.T (a := 121) (p := (9, 45)) 43 rfl rfl) rfl (show aCr 3 121 [.int 1, .int x1, .int r4, .ref 121] 5 = some ([some (.ref 121), some (.int r4), some (.int x1), some (.int 1), none], []) from rfl)) hq5 ?_
  refine Q.run zm199 2 (i' := 127) (ls' := [some (.ref 121), some (.int x1), some (.int x2), some (.int x3), some (.int r4)]) (st' := [.int r4, .ref 121]) rfl ?_
  obtain ⟨s10, hc9, h⟩ := bu_so h
  have hq8 : Q 2 sio tt cc d 194 0 [some (.ref 121), some (.int r4)] [] s7 (.inl none, s10) := dt194 (by omega) hq5.1  hc9
  refine Q.callV (gC_vi zm199 (show zM199.2.2.2.2.2[127]? = some (244, 3, .invokevirtual 161, [0, 194, 1, 9]) from rfl) zm194 (hq5.1.lt (a := 121) (by decide)) (hq5.1.T (a := 121) (p := (9, 45)) 43 rfl rfl) rfl (show aCr 1 121 [.int r4, .ref 121] 2 = some ([some (.ref 121), some (.int r4)], []) from rfl)) hq8 ?_
  cases h
  exact Q.ret (A.rv zm199 (show zM199.2.2.2.2.2[128]? = some (247, 1, .return_, []) from rfl) rfl) hq8.1
def dm199_44 (k7 : Int32 → Int32 → Int32 → aS → Option (aS)) (x1 : Int32) (x3 : Int32) (y0 : Int32) (s : aS) : Option (aS) :=
  nx (wI s 121 26 ((sI s 121 26) + 1)) fun s1 =>
  k7 x1 y0 x3 s1
set_option maxRecDepth 100000 in
theorem dt199_44 {sio : Bool} {tt : Nat} {cc : Nat → Nat → Int32} {d : Nat} (hd : 2 ≤ d) {k7 : Int32 → Int32 → Int32 → aS → Option (aS)} (hk7 : ∀ {x1 : Int32} {x2 : Int32} {x3 : Int32} {s : aS}, Ly tt cc s → ∀ {o : aS}, k7 x1 x2 x3 s = some o → Q 2 sio tt cc d 199 7 [some (.ref 121), some (.int x1), some (.int x2), some (.int x3), none] [] s (.inl none, o)) {x1 : Int32} {x3 : Int32} {y0 : Int32} {x2 : Int32} {s : aS} (hl : Ly tt cc s) {o : aS} (h : dm199_44 k7 x1 x3 y0 s = some o) : Q 2 sio tt cc d 199 44 [some (.ref 121), some (.int x1), some (.int x2), some (.int x3), none] [.int y0] s (.inl none, o) := by
  unfold dm199_44 at h
  obtain ⟨d, rfl⟩ : ∃ e, d = e + 1 := ⟨d - 1, by omega⟩
  refine Q.run zm199 3 (i' := 47) (ls' := [some (.ref 121), some (.int x1), some (.int y0), some (.int x3), none]) (st' := [.ref 121, .ref 121]) rfl ?_
  refine Q.map (A.gf (gI_of zm199 (e := (87, 3, .getfield 138, [9, 26])) rfl) (hl.lt (a := 121) (by decide)) (hl.T (a := 121) (p := (9, 45)) 43 rfl rfl) (by decide) rfl) ?_
  refine Q.run zm199 2 (i' := 50) (ls' := [some (.ref 121), some (.int x1), some (.int y0), some (.int x3), none]) (st' := [.int ((sI s 121 26) + 1), .ref 121]) rfl ?_
  obtain ⟨s1, hs2, h⟩ := nx_so h
  refine Q.pf hs2 rfl (gI_of zm199 (e := (92, 3, .putfield 138, [9, 26, 0])) rfl) (hl.lt (a := 121) (by decide)) (by decide) (hl.T (a := 121) (p := (9, 45)) 43 rfl rfl) (by decide) rfl rfl ?_
  have hl3 : Ly tt cc s1 := by rw [hs2]; exact hl.wId (by decide)
  refine Q.run zm199 1 (i' := 7) (ls' := [some (.ref 121), some (.int x1), some (.int y0), some (.int x3), none]) (st' := []) rfl ?_
  exact hk7 hl3  h
def dm199_109 (x1 : Int32) (x4 : Int32) (s : aS) : Option (aS) :=
  if x4 = 0 then
    bu (dm186 (sI s 121 26) s) fun s4 =>
    some s4
  else
    dm199_116 x1 s
set_option maxRecDepth 100000 in
theorem dt199_109 {sio : Bool} {tt : Nat} {cc : Nat → Nat → Int32} {d : Nat} (hd : 2 ≤ d) {x1 : Int32} {x4 : Int32} {x2 : Int32} {x3 : Int32} {s : aS} (hl : Ly tt cc s) {o : aS} (h : dm199_109  x1 x4 s = some o) : Q 2 sio tt cc d 199 109 [some (.ref 121), some (.int x1), some (.int x2), some (.int x3), some (.int x4)] [] s (.inl none, o) := by
  unfold dm199_109 at h
  obtain ⟨d, rfl⟩ : ∃ e, d = e + 1 := ⟨d - 1, by omega⟩
  refine Q.run zm199 1 (i' := 110) (ls' := [some (.ref 121), some (.int x1), some (.int x2), some (.int x3), some (.int x4)]) (st' := [.int x4]) rfl ?_
  by_cases hc1 : x4 = 0
  · rw [if_pos hc1] at h
    refine Q.map (A.zF (gI_of zm199 (e := (214, 3, .ifCond .ne 12, [116])) rfl) (fun q => of_decide_eq_true q hc1)) ?_
    refine Q.run zm199 2 (i' := 113) (ls' := [some (.ref 121), some (.int x1), some (.int x2), some (.int x3), some (.int x4)]) (st' := [.ref 121, .ref 121]) rfl ?_
    refine Q.map (A.gf (gI_of zm199 (e := (219, 3, .getfield 138, [9, 26])) rfl) (hl.lt (a := 121) (by decide)) (hl.T (a := 121) (p := (9, 45)) 43 rfl rfl) (by decide) rfl) ?_
    obtain ⟨s4, hc3, h⟩ := bu_so h
    have hq2 : Q 2 sio tt cc d 186 0 [some (.ref 121), some (.int (sI s 121 26))] [] s (.inl none, s4) := dt186 (by omega) hl  hc3
    refine Q.callV (gC_vi zm199 (show zM199.2.2.2.2.2[114]? = some (222, 3, .invokevirtual 164, [0, 186, 1, 9]) from rfl) zm186 (hl.lt (a := 121) (by decide)) (hl.T (a := 121) (p := (9, 45)) 43 rfl rfl) rfl (show aCr 1 121 [.int (sI s 121 26), .ref 121] 2 = some ([some (.ref 121), some (.int (sI s 121 26))], []) from rfl)) hq2 ?_
    cases h
    exact Q.ret (A.rv zm199 (show zM199.2.2.2.2.2[115]? = some (225, 1, .return_, []) from rfl) rfl) hq2.1
  · rw [if_neg hc1] at h
    refine Q.map (A.zT (gI_of zm199 (e := (214, 3, .ifCond .ne 12, [116])) rfl) (decide_eq_true hc1)) ?_
    exact dt199_116 hd hl  h
def dm199_32 (k7 : Int32 → Int32 → Int32 → aS → Option (aS)) (x1 : Int32) (x2 : Int32) (y0 : Int32) (s : aS) : Option (aS) :=
  bu (dm176 (sI s 121 26) s) fun r3 =>
  bu (dm196 r3) fun r6 =>
  if r6 = 0 then
    dm199_44 k7 x1 y0 x2 s
  else
    dm199_44 k7 x1 y0 (x2 + 1) s
set_option maxRecDepth 100000 in
theorem dt199_32 {sio : Bool} {tt : Nat} {cc : Nat → Nat → Int32} {d : Nat} (hd : 2 ≤ d) {k7 : Int32 → Int32 → Int32 → aS → Option (aS)} (hk7 : ∀ {x1 : Int32} {x2 : Int32} {x3 : Int32} {s : aS}, Ly tt cc s → ∀ {o : aS}, k7 x1 x2 x3 s = some o → Q 2 sio tt cc d 199 7 [some (.ref 121), some (.int x1), some (.int x2), some (.int x3), none] [] s (.inl none, o)) {x1 : Int32} {x2 : Int32} {y0 : Int32} {x3 : Int32} {s : aS} (hl : Ly tt cc s) {o : aS} (h : dm199_32 k7 x1 x2 y0 s = some o) : Q 2 sio tt cc d 199 32 [some (.ref 121), some (.int x1), some (.int x2), some (.int x3), none] [.int y0] s (.inl none, o) := by
  unfold dm199_32 at h
  obtain ⟨d, rfl⟩ : ∃ e, d = e + 1 := ⟨d - 1, by omega⟩
  refine Q.run zm199 3 (i' := 35) (ls' := [some (.ref 121), some (.int x1), some (.int x2), some (.int y0), none]) (st' := [.ref 121, .ref 121]) rfl ?_
  refine Q.map (A.gf (gI_of zm199 (e := (65, 3, .getfield 138, [9, 26])) rfl) (hl.lt (a := 121) (by decide)) (hl.T (a := 121) (p := (9, 45)) 43 rfl rfl) (by decide) rfl) ?_
  obtain ⟨r3, hc2, h⟩ := bu_so h
  have hq1 : Q 2 sio tt cc d 176 0 [some (.ref 121), some (.int (sI s 121 26))] [] s (.inl (some (.int r3)), s) := dt176 (by omega) hl  hc2
  refine Q.callI (gC_vi zm199 (show zM199.2.2.2.2.2[36]? = some (68, 3, .invokevirtual 113, [0, 176, 1, 9]) from rfl) zm176 (hl.lt (a := 121) (by decide)) (hl.T (a := 121) (p := (9, 45)) 43 rfl rfl) rfl (show aCr 1 121 [.int (sI s 121 26), .ref 121] 2 = some ([some (.ref 121), some (.int (sI s 121 26))], []) from rfl)) hq1 ?_
  obtain ⟨r6, hc5, h⟩ := bu_so h
  have hq4 : Q 2 sio tt cc d 196 0 [some (.int r3)] [] s (.inl (some (.int r6)), s) := dt196 (by omega) hl  hc5
  refine Q.callI (gC_st zm199 (show zM199.2.2.2.2.2[37]? = some (71, 3, .invokestatic 100, [0, 196, 1]) from rfl) zm196 (show aC 1 [.int r3] 1 = some ([some (.int r3)], []) from rfl)) hq4 ?_
  by_cases hc7 : r6 = 0
  · rw [if_pos hc7] at h
    refine Q.map (A.zT (gI_of zm199 (e := (74, 3, .ifCond .eq 9, [43])) rfl) (decide_eq_true hc7)) ?_
    refine Q.run zm199 1 (i' := 44) (ls' := [some (.ref 121), some (.int x1), some (.int x2), some (.int y0), none]) (st' := [.int x2]) rfl ?_
    exact dt199_44 hd hk7 hl  h
  · rw [if_neg hc7] at h
    refine Q.map (A.zF (gI_of zm199 (e := (74, 3, .ifCond .eq 9, [43])) rfl) (fun q => hc7 (of_decide_eq_true q))) ?_
    refine Q.run zm199 4 (i' := 44) (ls' := [some (.ref 121), some (.int x1), some (.int x2), some (.int y0), none]) (st' := [.int (x2 + 1)]) rfl ?_
    exact dt199_44 hd hk7 hl  h
def dm199_92 : Nat → Int32 → Int32 → aS → Option (aS)
  | 0, _, _, _ => none
  | n + 1, x1, x4, s =>
    bu (dm176 (sI s 121 26) s) fun r3 =>
    bu (dm196 r3) fun r6 =>
    if r6 = 0 then
      dm199_109 x1 x4 s
    else
      if 3 ≤ x4 then
        dm199_109 x1 x4 s
      else
        nx (wI s 121 26 ((sI s 121 26) + 1)) fun s9 =>
        dm199_92 n x1 (x4 + 1) s9
set_option maxRecDepth 100000 in
theorem dt199_92 {sio : Bool} {tt : Nat} {cc : Nat → Nat → Int32} {d : Nat} (hd : 2 ≤ d) : ∀ (n : Nat) {x1 : Int32} {x4 : Int32} {x2 : Int32} {x3 : Int32} {s : aS} (_ : Ly tt cc s) {o : aS} (_ : dm199_92  n x1 x4 s = some o), Q 2 sio tt cc d 199 92 [some (.ref 121), some (.int x1), some (.int x2), some (.int x3), some (.int x4)] [] s (.inl none, o) := by
  obtain ⟨d, rfl⟩ : ∃ e, d = e + 1 := ⟨d - 1, by omega⟩
  intro n
  induction n with
  | zero => intro x1 x4 x2 x3 s hl o h; rw [dm199_92] at h; cases h
  | succ n ih =>
    intro x1 x4 x2 x3 s hl o h
    rw [dm199_92] at h
    refine Q.run zm199 2 (i' := 94) (ls' := [some (.ref 121), some (.int x1), some (.int x2), some (.int x3), some (.int x4)]) (st' := [.ref 121, .ref 121]) rfl ?_
    refine Q.map (A.gf (gI_of zm199 (e := (178, 3, .getfield 138, [9, 26])) rfl) (hl.lt (a := 121) (by decide)) (hl.T (a := 121) (p := (9, 45)) 43 rfl rfl) (by decide) rfl) ?_
    obtain ⟨r3, hc2, h⟩ := bu_so h
    have hq1 : Q 2 sio tt cc d 176 0 [some (.ref 121), some (.int (sI s 121 26))] [] s (.inl (some (.int r3)), s) := dt176 (by omega) hl  hc2
    refine Q.callI (gC_vi zm199 (show zM199.2.2.2.2.2[95]? = some (181, 3, .invokevirtual 113, [0, 176, 1, 9]) from rfl) zm176 (hl.lt (a := 121) (by decide)) (hl.T (a := 121) (p := (9, 45)) 43 rfl rfl) rfl (show aCr 1 121 [.int (sI s 121 26), .ref 121] 2 = some ([some (.ref 121), some (.int (sI s 121 26))], []) from rfl)) hq1 ?_
    obtain ⟨r6, hc5, h⟩ := bu_so h
    have hq4 : Q 2 sio tt cc d 196 0 [some (.int r3)] [] s (.inl (some (.int r6)), s) := dt196 (by omega) hl  hc5
    refine Q.callI (gC_st zm199 (show zM199.2.2.2.2.2[96]? = some (184, 3, .invokestatic 100, [0, 196, 1]) from rfl) zm196 (show aC 1 [.int r3] 1 = some ([some (.int r3)], []) from rfl)) hq4 ?_
    by_cases hc7 : r6 = 0
    · rw [if_pos hc7] at h
      refine Q.map (A.zT (gI_of zm199 (e := (187, 3, .ifCond .eq 25, [109])) rfl) (decide_eq_true hc7)) ?_
      exact dt199_109 hd hl  h
    · rw [if_neg hc7] at h
      refine Q.map (A.zF (gI_of zm199 (e := (187, 3, .ifCond .eq 25, [109])) rfl) (fun q => hc7 (of_decide_eq_true q))) ?_
      refine Q.run zm199 2 (i' := 100) (ls' := [some (.ref 121), some (.int x1), some (.int x2), some (.int x3), some (.int x4)]) (st' := [.int 3, .int x4]) rfl ?_
      by_cases hc8 : 3 ≤ x4
      · rw [if_pos hc8] at h
        refine Q.map (A.bT (gI_of zm199 (e := (193, 3, .if_icmp .ge 19, [109])) rfl) (decide_eq_true hc8)) ?_
        exact dt199_109 hd hl  h
      · rw [if_neg hc8] at h
        refine Q.map (A.bF (gI_of zm199 (e := (193, 3, .if_icmp .ge 19, [109])) rfl) (fun q => hc8 (of_decide_eq_true q))) ?_
        refine Q.run zm199 2 (i' := 103) (ls' := [some (.ref 121), some (.int x1), some (.int x2), some (.int x3), some (.int x4)]) (st' := [.ref 121, .ref 121]) rfl ?_
        refine Q.map (A.gf (gI_of zm199 (e := (198, 3, .getfield 138, [9, 26])) rfl) (hl.lt (a := 121) (by decide)) (hl.T (a := 121) (p := (9, 45)) 43 rfl rfl) (by decide) rfl) ?_
        refine Q.run zm199 2 (i' := 106) (ls' := [some (.ref 121), some (.int x1), some (.int x2), some (.int x3), some (.int x4)]) (st' := [.int ((sI s 121 26) + 1), .ref 121]) rfl ?_
        obtain ⟨s9, hs10, h⟩ := nx_so h
        refine Q.pf hs10 rfl (gI_of zm199 (e := (203, 3, .putfield 138, [9, 26, 0])) rfl) (hl.lt (a := 121) (by decide)) (by decide) (hl.T (a := 121) (p := (9, 45)) 43 rfl rfl) (by decide) rfl rfl ?_
        have hl11 : Ly tt cc s9 := by rw [hs10]; exact hl.wId (by decide)
        refine Q.run zm199 2 (i' := 92) (ls' := [some (.ref 121), some (.int x1), some (.int x2), some (.int x3), some (.int (x4 + 1))]) (st' := []) rfl ?_
        exact ih hl11  h
def dm199_29 (k7 : Int32 → Int32 → Int32 → aS → Option (aS)) (x1 : Int32) (x2 : Int32) (s : aS) : Option (aS) :=
  dm199_32 k7 x1 x2 1 s
set_option maxRecDepth 100000 in
theorem dt199_29 {sio : Bool} {tt : Nat} {cc : Nat → Nat → Int32} {d : Nat} (hd : 2 ≤ d) {k7 : Int32 → Int32 → Int32 → aS → Option (aS)} (hk7 : ∀ {x1 : Int32} {x2 : Int32} {x3 : Int32} {s : aS}, Ly tt cc s → ∀ {o : aS}, k7 x1 x2 x3 s = some o → Q 2 sio tt cc d 199 7 [some (.ref 121), some (.int x1), some (.int x2), some (.int x3), none] [] s (.inl none, o)) {x1 : Int32} {x2 : Int32} {x3 : Int32} {s : aS} (hl : Ly tt cc s) {o : aS} (h : dm199_29 k7 x1 x2 s = some o) : Q 2 sio tt cc d 199 29 [some (.ref 121), some (.int x1), some (.int x2), some (.int x3), none] [] s (.inl none, o) := by
  unfold dm199_29 at h
  obtain ⟨d, rfl⟩ : ∃ e, d = e + 1 := ⟨d - 1, by omega⟩
  refine Q.run zm199 2 (i' := 32) (ls' := [some (.ref 121), some (.int x1), some (.int x2), some (.int x3), none]) (st' := [.int 1]) rfl ?_
  exact dt199_32 hd hk7 hl  h
def dm199_90 (x1 : Int32) (s : aS) : Option (aS) :=
  dm199_92 5000 x1 0 s
set_option maxRecDepth 100000 in
theorem dt199_90 {sio : Bool} {tt : Nat} {cc : Nat → Nat → Int32} {d : Nat} (hd : 2 ≤ d) {x1 : Int32} {x2 : Int32} {x3 : Int32} {s : aS} (hl : Ly tt cc s) {o : aS} (h : dm199_90  x1 s = some o) : Q 2 sio tt cc d 199 90 [some (.ref 121), some (.int x1), some (.int x2), some (.int x3), none] [] s (.inl none, o) := by
  unfold dm199_90 at h
  obtain ⟨d, rfl⟩ : ∃ e, d = e + 1 := ⟨d - 1, by omega⟩
  refine Q.run zm199 2 (i' := 92) (ls' := [some (.ref 121), some (.int x1), some (.int x2), some (.int x3), some (.int 0)]) (st' := []) rfl ?_
  exact dt199_92 hd _ hl  h
def dm199_21 (k7 : Int32 → Int32 → Int32 → aS → Option (aS)) (x1 : Int32) (x2 : Int32) (x3 : Int32) (s : aS) : Option (aS) :=
  if x3 = 0 then
    bu (dm176 (sI s 121 26) s) fun r4 =>
    if r4 = 46 then
      dm199_29 k7 x1 x2 s
    else
      dm199_32 k7 x1 x2 0 s
  else
    dm199_29 k7 x1 x2 s
set_option maxRecDepth 100000 in
theorem dt199_21 {sio : Bool} {tt : Nat} {cc : Nat → Nat → Int32} {d : Nat} (hd : 2 ≤ d) {k7 : Int32 → Int32 → Int32 → aS → Option (aS)} (hk7 : ∀ {x1 : Int32} {x2 : Int32} {x3 : Int32} {s : aS}, Ly tt cc s → ∀ {o : aS}, k7 x1 x2 x3 s = some o → Q 2 sio tt cc d 199 7 [some (.ref 121), some (.int x1), some (.int x2), some (.int x3), none] [] s (.inl none, o)) {x1 : Int32} {x2 : Int32} {x3 : Int32} {s : aS} (hl : Ly tt cc s) {o : aS} (h : dm199_21 k7 x1 x2 x3 s = some o) : Q 2 sio tt cc d 199 21 [some (.ref 121), some (.int x1), some (.int x2), some (.int x3), none] [] s (.inl none, o) := by
  unfold dm199_21 at h
  obtain ⟨d, rfl⟩ : ∃ e, d = e + 1 := ⟨d - 1, by omega⟩
  refine Q.run zm199 1 (i' := 22) (ls' := [some (.ref 121), some (.int x1), some (.int x2), some (.int x3), none]) (st' := [.int x3]) rfl ?_
  by_cases hc1 : x3 = 0
  · rw [if_pos hc1] at h
    refine Q.map (A.zF (gI_of zm199 (e := (41, 3, .ifCond .ne 16, [29])) rfl) (fun q => of_decide_eq_true q hc1)) ?_
    refine Q.run zm199 2 (i' := 25) (ls' := [some (.ref 121), some (.int x1), some (.int x2), some (.int x3), none]) (st' := [.ref 121, .ref 121]) rfl ?_
    refine Q.map (A.gf (gI_of zm199 (e := (46, 3, .getfield 138, [9, 26])) rfl) (hl.lt (a := 121) (by decide)) (hl.T (a := 121) (p := (9, 45)) 43 rfl rfl) (by decide) rfl) ?_
    obtain ⟨r4, hc3, h⟩ := bu_so h
    have hq2 : Q 2 sio tt cc d 176 0 [some (.ref 121), some (.int (sI s 121 26))] [] s (.inl (some (.int r4)), s) := dt176 (by omega) hl  hc3
    refine Q.callI (gC_vi zm199 (show zM199.2.2.2.2.2[26]? = some (49, 3, .invokevirtual 113, [0, 176, 1, 9]) from rfl) zm176 (hl.lt (a := 121) (by decide)) (hl.T (a := 121) (p := (9, 45)) 43 rfl rfl) rfl (show aCr 1 121 [.int (sI s 121 26), .ref 121] 2 = some ([some (.ref 121), some (.int (sI s 121 26))], []) from rfl)) hq2 ?_
    refine Q.run zm199 1 (i' := 28) (ls' := [some (.ref 121), some (.int x1), some (.int x2), some (.int x3), none]) (st' := [.int 46, .int r4]) rfl ?_
    by_cases hc5 : r4 = 46
    · rw [if_pos hc5] at h
      refine Q.map (A.bF (gI_of zm199 (e := (54, 3, .if_icmp .ne 7, [31])) rfl) (fun q => of_decide_eq_true q hc5)) ?_
      exact dt199_29 hd hk7 hl  h
    · rw [if_neg hc5] at h
      refine Q.map (A.bT (gI_of zm199 (e := (54, 3, .if_icmp .ne 7, [31])) rfl) (decide_eq_true hc5)) ?_
      refine Q.run zm199 1 (i' := 32) (ls' := [some (.ref 121), some (.int x1), some (.int x2), some (.int x3), none]) (st' := [.int 0]) rfl ?_
      exact dt199_32 hd hk7 hl  h
  · rw [if_neg hc1] at h
    refine Q.map (A.zT (gI_of zm199 (e := (41, 3, .ifCond .ne 16, [29])) rfl) (decide_eq_true hc1)) ?_
    exact dt199_29 hd hk7 hl  h
def dm199_84 (x1 : Int32) (s : aS) : Option (aS) :=
  nx (wI s 121 26 ((sI s 121 26) + 1)) fun s1 =>
  dm199_90 x1 s1
set_option maxRecDepth 100000 in
theorem dt199_84 {sio : Bool} {tt : Nat} {cc : Nat → Nat → Int32} {d : Nat} (hd : 2 ≤ d) {x1 : Int32} {x2 : Int32} {x3 : Int32} {s : aS} (hl : Ly tt cc s) {o : aS} (h : dm199_84  x1 s = some o) : Q 2 sio tt cc d 199 84 [some (.ref 121), some (.int x1), some (.int x2), some (.int x3), none] [] s (.inl none, o) := by
  unfold dm199_84 at h
  obtain ⟨d, rfl⟩ : ∃ e, d = e + 1 := ⟨d - 1, by omega⟩
  refine Q.run zm199 2 (i' := 86) (ls' := [some (.ref 121), some (.int x1), some (.int x2), some (.int x3), none]) (st' := [.ref 121, .ref 121]) rfl ?_
  refine Q.map (A.gf (gI_of zm199 (e := (165, 3, .getfield 138, [9, 26])) rfl) (hl.lt (a := 121) (by decide)) (hl.T (a := 121) (p := (9, 45)) 43 rfl rfl) (by decide) rfl) ?_
  refine Q.run zm199 2 (i' := 89) (ls' := [some (.ref 121), some (.int x1), some (.int x2), some (.int x3), none]) (st' := [.int ((sI s 121 26) + 1), .ref 121]) rfl ?_
  obtain ⟨s1, hs2, h⟩ := nx_so h
  refine Q.pf hs2 rfl (gI_of zm199 (e := (170, 3, .putfield 138, [9, 26, 0])) rfl) (hl.lt (a := 121) (by decide)) (by decide) (hl.T (a := 121) (p := (9, 45)) 43 rfl rfl) (by decide) rfl rfl ?_
  have hl3 : Ly tt cc s1 := by rw [hs2]; exact hl.wId (by decide)
  exact dt199_90 hd hl3  h
def dm199_52 (x1 : Int32) (x2 : Int32) (s : aS) : Option (aS) :=
  if x2 = 0 then
    bu (dm186 (sI s 121 26) s) fun s4 =>
    some s4
  else
    bu (dm176 (sI s 121 26) s) fun r7 =>
    bu (dm178 r7) fun r10 =>
    if r10 = 69 then
      nx (wI s 121 26 ((sI s 121 26) + 1)) fun s12 =>
      bu (dm176 (sI s12 121 26) s12) fun r17 =>
      if r17 = 43 then
        dm199_84 x1 s12
      else
        bu (dm176 (sI s12 121 26) s12) fun r21 =>
        if r21 = 45 then
          dm199_84 x1 s12
        else
          dm199_90 x1 s12
    else
      dm199_116 x1 s
set_option maxRecDepth 100000 in
theorem dt199_52 {sio : Bool} {tt : Nat} {cc : Nat → Nat → Int32} {d : Nat} (hd : 2 ≤ d) {x1 : Int32} {x2 : Int32} {x3 : Int32} {s : aS} (hl : Ly tt cc s) {o : aS} (h : dm199_52  x1 x2 s = some o) : Q 2 sio tt cc d 199 52 [some (.ref 121), some (.int x1), some (.int x2), some (.int x3), none] [] s (.inl none, o) := by
  unfold dm199_52 at h
  obtain ⟨d, rfl⟩ : ∃ e, d = e + 1 := ⟨d - 1, by omega⟩
  refine Q.run zm199 1 (i' := 53) (ls' := [some (.ref 121), some (.int x1), some (.int x2), some (.int x3), none]) (st' := [.int x2]) rfl ?_
  by_cases hc1 : x2 = 0
  · rw [if_pos hc1] at h
    refine Q.map (A.zF (gI_of zm199 (e := (99, 3, .ifCond .ne 12, [59])) rfl) (fun q => of_decide_eq_true q hc1)) ?_
    refine Q.run zm199 2 (i' := 56) (ls' := [some (.ref 121), some (.int x1), some (.int x2), some (.int x3), none]) (st' := [.ref 121, .ref 121]) rfl ?_
    refine Q.map (A.gf (gI_of zm199 (e := (104, 3, .getfield 138, [9, 26])) rfl) (hl.lt (a := 121) (by decide)) (hl.T (a := 121) (p := (9, 45)) 43 rfl rfl) (by decide) rfl) ?_
    obtain ⟨s4, hc3, h⟩ := bu_so h
    have hq2 : Q 2 sio tt cc d 186 0 [some (.ref 121), some (.int (sI s 121 26))] [] s (.inl none, s4) := dt186 (by omega) hl  hc3
    refine Q.callV (gC_vi zm199 (show zM199.2.2.2.2.2[57]? = some (107, 3, .invokevirtual 164, [0, 186, 1, 9]) from rfl) zm186 (hl.lt (a := 121) (by decide)) (hl.T (a := 121) (p := (9, 45)) 43 rfl rfl) rfl (show aCr 1 121 [.int (sI s 121 26), .ref 121] 2 = some ([some (.ref 121), some (.int (sI s 121 26))], []) from rfl)) hq2 ?_
    cases h
    exact Q.ret (A.rv zm199 (show zM199.2.2.2.2.2[58]? = some (110, 1, .return_, []) from rfl) rfl) hq2.1
  · rw [if_neg hc1] at h
    refine Q.map (A.zT (gI_of zm199 (e := (99, 3, .ifCond .ne 12, [59])) rfl) (decide_eq_true hc1)) ?_
    refine Q.run zm199 2 (i' := 61) (ls' := [some (.ref 121), some (.int x1), some (.int x2), some (.int x3), none]) (st' := [.ref 121, .ref 121]) rfl ?_
    refine Q.map (A.gf (gI_of zm199 (e := (113, 3, .getfield 138, [9, 26])) rfl) (hl.lt (a := 121) (by decide)) (hl.T (a := 121) (p := (9, 45)) 43 rfl rfl) (by decide) rfl) ?_
    obtain ⟨r7, hc6, h⟩ := bu_so h
    have hq5 : Q 2 sio tt cc d 176 0 [some (.ref 121), some (.int (sI s 121 26))] [] s (.inl (some (.int r7)), s) := dt176 (by omega) hl  hc6
    refine Q.callI (gC_vi zm199 (show zM199.2.2.2.2.2[62]? = some (116, 3, .invokevirtual 113, [0, 176, 1, 9]) from rfl) zm176 (hl.lt (a := 121) (by decide)) (hl.T (a := 121) (p := (9, 45)) 43 rfl rfl) rfl (show aCr 1 121 [.int (sI s 121 26), .ref 121] 2 = some ([some (.ref 121), some (.int (sI s 121 26))], []) from rfl)) hq5 ?_
    obtain ⟨r10, hc9, h⟩ := bu_so h
    have hq8 : Q 2 sio tt cc d 178 0 [some (.int r7)] [] s (.inl (some (.int r10)), s) := dt178 (by omega) hl  hc9
    refine Q.callI (gC_st zm199 (show zM199.2.2.2.2.2[63]? = some (119, 3, .invokestatic 109, [0, 178, 1]) from rfl) zm178 (show aC 1 [.int r7] 1 = some ([some (.int r7)], []) from rfl)) hq8 ?_
    refine Q.run zm199 1 (i' := 65) (ls' := [some (.ref 121), some (.int x1), some (.int x2), some (.int x3), none]) (st' := [.int 69, .int r10]) rfl ?_
    by_cases hc11 : r10 = 69
    · rw [if_pos hc11] at h
      refine Q.map (A.bF (gI_of zm199 (e := (124, 3, .if_icmp .ne 102, [116])) rfl) (fun q => of_decide_eq_true q hc11)) ?_
      refine Q.run zm199 2 (i' := 68) (ls' := [some (.ref 121), some (.int x1), some (.int x2), some (.int x3), none]) (st' := [.ref 121, .ref 121]) rfl ?_
      refine Q.map (A.gf (gI_of zm199 (e := (129, 3, .getfield 138, [9, 26])) rfl) (hl.lt (a := 121) (by decide)) (hl.T (a := 121) (p := (9, 45)) 43 rfl rfl) (by decide) rfl) ?_
      refine Q.run zm199 2 (i' := 71) (ls' := [some (.ref 121), some (.int x1), some (.int x2), some (.int x3), none]) (st' := [.int ((sI s 121 26) + 1), .ref 121]) rfl ?_
      obtain ⟨s12, hs13, h⟩ := nx_so h
      refine Q.pf hs13 rfl (gI_of zm199 (e := (134, 3, .putfield 138, [9, 26, 0])) rfl) (hl.lt (a := 121) (by decide)) (by decide) (hl.T (a := 121) (p := (9, 45)) 43 rfl rfl) (by decide) rfl rfl ?_
      have hl14 : Ly tt cc s12 := by rw [hs13]; exact hl.wId (by decide)
      refine Q.run zm199 2 (i' := 74) (ls' := [some (.ref 121), some (.int x1), some (.int x2), some (.int x3), none]) (st' := [.ref 121, .ref 121]) rfl ?_
      refine Q.map (A.gf (gI_of zm199 (e := (139, 3, .getfield 138, [9, 26])) rfl) (hl14.lt (a := 121) (by decide)) (hl14.T (a := 121) (p := (9, 45)) 43 rfl rfl) (by decide) rfl) ?_
      obtain ⟨r17, hc16, h⟩ := bu_so h
      have hq15 : Q 2 sio tt cc d 176 0 [some (.ref 121), some (.int (sI s12 121 26))] [] s12 (.inl (some (.int r17)), s12) := dt176 (by omega) hl14  hc16
      refine Q.callI (gC_vi zm199 (show zM199.2.2.2.2.2[75]? = some (142, 3, .invokevirtual 113, [0, 176, 1, 9]) from rfl) zm176 (hl14.lt (a := 121) (by decide)) (hl14.T (a := 121) (p := (9, 45)) 43 rfl rfl) rfl (show aCr 1 121 [.int (sI s12 121 26), .ref 121] 2 = some ([some (.ref 121), some (.int (sI s12 121 26))], []) from rfl)) hq15 ?_
      refine Q.run zm199 1 (i' := 77) (ls' := [some (.ref 121), some (.int x1), some (.int x2), some (.int x3), none]) (st' := [.int 43, .int r17]) rfl ?_
      by_cases hc18 : r17 = 43
      · rw [if_pos hc18] at h
        refine Q.map (A.bT (gI_of zm199 (e := (147, 3, .if_icmp .eq 16, [84])) rfl) (decide_eq_true hc18)) ?_
        exact dt199_84 hd hl14  h
      · rw [if_neg hc18] at h
        refine Q.map (A.bF (gI_of zm199 (e := (147, 3, .if_icmp .eq 16, [84])) rfl) (fun q => hc18 (of_decide_eq_true q))) ?_
        refine Q.run zm199 2 (i' := 80) (ls' := [some (.ref 121), some (.int x1), some (.int x2), some (.int x3), none]) (st' := [.ref 121, .ref 121]) rfl ?_
        refine Q.map (A.gf (gI_of zm199 (e := (152, 3, .getfield 138, [9, 26])) rfl) (hl14.lt (a := 121) (by decide)) (hl14.T (a := 121) (p := (9, 45)) 43 rfl rfl) (by decide) rfl) ?_
        obtain ⟨r21, hc20, h⟩ := bu_so h
        have hq19 : Q 2 sio tt cc d 176 0 [some (.ref 121), some (.int (sI s12 121 26))] [] s12 (.inl (some (.int r21)), s12) := dt176 (by omega) hl14  hc20
        refine Q.callI (gC_vi zm199 (show zM199.2.2.2.2.2[81]? = some (155, 3, .invokevirtual 113, [0, 176, 1, 9]) from rfl) zm176 (hl14.lt (a := 121) (by decide)) (hl14.T (a := 121) (p := (9, 45)) 43 rfl rfl) rfl (show aCr 1 121 [.int (sI s12 121 26), .ref 121] 2 = some ([some (.ref 121), some (.int (sI s12 121 26))], []) from rfl)) hq19 ?_
        refine Q.run zm199 1 (i' := 83) (ls' := [some (.ref 121), some (.int x1), some (.int x2), some (.int x3), none]) (st' := [.int 45, .int r21]) rfl ?_
        by_cases hc22 : r21 = 45
        · rw [if_pos hc22] at h
          refine Q.map (A.bF (gI_of zm199 (e := (160, 3, .if_icmp .ne 13, [90])) rfl) (fun q => of_decide_eq_true q hc22)) ?_
          exact dt199_84 hd hl14  h
        · rw [if_neg hc22] at h
          refine Q.map (A.bT (gI_of zm199 (e := (160, 3, .if_icmp .ne 13, [90])) rfl) (decide_eq_true hc22)) ?_
          exact dt199_90 hd hl14  h
    · rw [if_neg hc11] at h
      refine Q.map (A.bT (gI_of zm199 (e := (124, 3, .if_icmp .ne 102, [116])) rfl) (decide_eq_true hc11)) ?_
      exact dt199_116 hd hl  h
def dm199_7 : Nat → Int32 → Int32 → Int32 → aS → Option (aS)
  | 0, _, _, _, _ => none
  | n + 1, x1, x2, x3, s =>
    bu (dm176 (sI s 121 26) s) fun r3 =>
    bu (dm196 r3) fun r6 =>
    if r6 = 0 then
      bu (dm176 (sI s 121 26) s) fun r10 =>
      if r10 = 46 then
        if x3 = 0 then
          dm199_21 (dm199_7 n) x1 x2 x3 s
        else
          dm199_52 x1 x2 s
      else
        dm199_52 x1 x2 s
    else
      dm199_21 (dm199_7 n) x1 x2 x3 s
set_option maxRecDepth 100000 in
theorem dt199_7 {sio : Bool} {tt : Nat} {cc : Nat → Nat → Int32} {d : Nat} (hd : 2 ≤ d) : ∀ (n : Nat) {x1 : Int32} {x2 : Int32} {x3 : Int32} {s : aS} (_ : Ly tt cc s) {o : aS} (_ : dm199_7  n x1 x2 x3 s = some o), Q 2 sio tt cc d 199 7 [some (.ref 121), some (.int x1), some (.int x2), some (.int x3), none] [] s (.inl none, o) := by
  obtain ⟨d, rfl⟩ : ∃ e, d = e + 1 := ⟨d - 1, by omega⟩
  intro n
  induction n with
  | zero => intro x1 x2 x3 s hl o h; rw [dm199_7] at h; cases h
  | succ n ih =>
    intro x1 x2 x3 s hl o h
    rw [dm199_7] at h
    refine Q.run zm199 2 (i' := 9) (ls' := [some (.ref 121), some (.int x1), some (.int x2), some (.int x3), none]) (st' := [.ref 121, .ref 121]) rfl ?_
    refine Q.map (A.gf (gI_of zm199 (e := (11, 3, .getfield 138, [9, 26])) rfl) (hl.lt (a := 121) (by decide)) (hl.T (a := 121) (p := (9, 45)) 43 rfl rfl) (by decide) rfl) ?_
    obtain ⟨r3, hc2, h⟩ := bu_so h
    have hq1 : Q 2 sio tt cc d 176 0 [some (.ref 121), some (.int (sI s 121 26))] [] s (.inl (some (.int r3)), s) := dt176 (by omega) hl  hc2
    refine Q.callI (gC_vi zm199 (show zM199.2.2.2.2.2[10]? = some (14, 3, .invokevirtual 113, [0, 176, 1, 9]) from rfl) zm176 (hl.lt (a := 121) (by decide)) (hl.T (a := 121) (p := (9, 45)) 43 rfl rfl) rfl (show aCr 1 121 [.int (sI s 121 26), .ref 121] 2 = some ([some (.ref 121), some (.int (sI s 121 26))], []) from rfl)) hq1 ?_
    obtain ⟨r6, hc5, h⟩ := bu_so h
    have hq4 : Q 2 sio tt cc d 196 0 [some (.int r3)] [] s (.inl (some (.int r6)), s) := dt196 (by omega) hl  hc5
    refine Q.callI (gC_st zm199 (show zM199.2.2.2.2.2[11]? = some (17, 3, .invokestatic 100, [0, 196, 1]) from rfl) zm196 (show aC 1 [.int r3] 1 = some ([some (.int r3)], []) from rfl)) hq4 ?_
    by_cases hc7 : r6 = 0
    · rw [if_pos hc7] at h
      refine Q.map (A.zF (gI_of zm199 (e := (20, 3, .ifCond .ne 20, [21])) rfl) (fun q => of_decide_eq_true q hc7)) ?_
      refine Q.run zm199 2 (i' := 15) (ls' := [some (.ref 121), some (.int x1), some (.int x2), some (.int x3), none]) (st' := [.ref 121, .ref 121]) rfl ?_
      refine Q.map (A.gf (gI_of zm199 (e := (25, 3, .getfield 138, [9, 26])) rfl) (hl.lt (a := 121) (by decide)) (hl.T (a := 121) (p := (9, 45)) 43 rfl rfl) (by decide) rfl) ?_
      obtain ⟨r10, hc9, h⟩ := bu_so h
      have hq8 : Q 2 sio tt cc d 176 0 [some (.ref 121), some (.int (sI s 121 26))] [] s (.inl (some (.int r10)), s) := dt176 (by omega) hl  hc9
      refine Q.callI (gC_vi zm199 (show zM199.2.2.2.2.2[16]? = some (28, 3, .invokevirtual 113, [0, 176, 1, 9]) from rfl) zm176 (hl.lt (a := 121) (by decide)) (hl.T (a := 121) (p := (9, 45)) 43 rfl rfl) rfl (show aCr 1 121 [.int (sI s 121 26), .ref 121] 2 = some ([some (.ref 121), some (.int (sI s 121 26))], []) from rfl)) hq8 ?_
      refine Q.run zm199 1 (i' := 18) (ls' := [some (.ref 121), some (.int x1), some (.int x2), some (.int x3), none]) (st' := [.int 46, .int r10]) rfl ?_
      by_cases hc11 : r10 = 46
      · rw [if_pos hc11] at h
        refine Q.map (A.bF (gI_of zm199 (e := (33, 3, .if_icmp .ne 65, [52])) rfl) (fun q => of_decide_eq_true q hc11)) ?_
        refine Q.run zm199 1 (i' := 20) (ls' := [some (.ref 121), some (.int x1), some (.int x2), some (.int x3), none]) (st' := [.int x3]) rfl ?_
        by_cases hc12 : x3 = 0
        · rw [if_pos hc12] at h
          refine Q.map (A.zF (gI_of zm199 (e := (37, 3, .ifCond .ne 61, [52])) rfl) (fun q => of_decide_eq_true q hc12)) ?_
          exact dt199_21 hd ih hl  h
        · rw [if_neg hc12] at h
          refine Q.map (A.zT (gI_of zm199 (e := (37, 3, .ifCond .ne 61, [52])) rfl) (decide_eq_true hc12)) ?_
          exact dt199_52 hd hl  h
      · rw [if_neg hc11] at h
        refine Q.map (A.bT (gI_of zm199 (e := (33, 3, .if_icmp .ne 65, [52])) rfl) (decide_eq_true hc11)) ?_
        exact dt199_52 hd hl  h
    · rw [if_neg hc7] at h
      refine Q.map (A.zT (gI_of zm199 (e := (20, 3, .ifCond .ne 20, [21])) rfl) (decide_eq_true hc7)) ?_
      exact dt199_21 hd ih hl  h
def dm199 (s : aS) : Option (aS) :=
  dm199_7 5000 (sI s 121 26) 0 0 s
set_option maxRecDepth 100000 in
theorem dt199 {sio : Bool} {tt : Nat} {cc : Nat → Nat → Int32} {d : Nat} (hd : 2 ≤ d) {s : aS} (hl : Ly tt cc s) {o : aS} (h : dm199  s = some o) : Q 2 sio tt cc d 199 0 [some (.ref 121), none, none, none, none] [] s (.inl none, o) := by
  unfold dm199 at h
  obtain ⟨d, rfl⟩ : ∃ e, d = e + 1 := ⟨d - 1, by omega⟩
  refine Q.run zm199 1 (i' := 1) (ls' := [some (.ref 121), none, none, none, none]) (st' := [.ref 121]) rfl ?_
  refine Q.map (A.gf (gI_of zm199 (e := (1, 3, .getfield 138, [9, 26])) rfl) (hl.lt (a := 121) (by decide)) (hl.T (a := 121) (p := (9, 45)) 43 rfl rfl) (by decide) rfl) ?_
  refine Q.run zm199 5 (i' := 7) (ls' := [some (.ref 121), some (.int (sI s 121 26)), some (.int 0), some (.int 0), none]) (st' := []) rfl ?_
  exact dt199_7 hd _ hl  h
/-! 202 FormulaTreesModel.readQuoted(I)V -/
set_option maxRecDepth 100000 in
theorem zm202 : zP[202]? = some zM202 := rfl
def dm202_71 (x2 : Int32) (s : aS) : Option (aS) :=
  if x2 = 0 then
    nx (wI s 121 26 ((sI s 121 26) + 1)) fun s2 =>
    some s2
  else
    bu (dm186 (sI s 121 1) s) fun s7 =>
    some s7
set_option maxRecDepth 100000 in
theorem dt202_71 {sio : Bool} {tt : Nat} {cc : Nat → Nat → Int32} {d : Nat} (hd : 1 ≤ d) {x2 : Int32} {x1 : Int32} {s : aS} (hl : Ly tt cc s) {o : aS} (h : dm202_71  x2 s = some o) : Q 2 sio tt cc d 202 71 [some (.ref 121), some (.int x1), some (.int x2)] [] s (.inl none, o) := by
  unfold dm202_71 at h
  obtain ⟨d, rfl⟩ : ∃ e, d = e + 1 := ⟨d - 1, by omega⟩
  refine Q.run zm202 1 (i' := 72) (ls' := [some (.ref 121), some (.int x1), some (.int x2)]) (st' := [.int x2]) rfl ?_
  by_cases hc1 : x2 = 0
  · rw [if_pos hc1] at h
    refine Q.map (A.zT (gI_of zm202 (e := (130, 3, .ifCond .eq 14, [78])) rfl) (decide_eq_true hc1)) ?_
    refine Q.run zm202 2 (i' := 80) (ls' := [some (.ref 121), some (.int x1), some (.int x2)]) (st' := [.ref 121, .ref 121]) rfl ?_
    refine Q.map (A.gf (gI_of zm202 (e := (146, 3, .getfield 138, [9, 26])) rfl) (hl.lt (a := 121) (by decide)) (hl.T (a := 121) (p := (9, 45)) 43 rfl rfl) (by decide) rfl) ?_
    refine Q.run zm202 2 (i' := 83) (ls' := [some (.ref 121), some (.int x1), some (.int x2)]) (st' := [.int ((sI s 121 26) + 1), .ref 121]) rfl ?_
    obtain ⟨s2, hs3, h⟩ := nx_so h
    refine Q.pf hs3 rfl (gI_of zm202 (e := (151, 3, .putfield 138, [9, 26, 0])) rfl) (hl.lt (a := 121) (by decide)) (by decide) (hl.T (a := 121) (p := (9, 45)) 43 rfl rfl) (by decide) rfl rfl ?_
    have hl4 : Ly tt cc s2 := by rw [hs3]; exact hl.wId (by decide)
    cases h
    exact Q.ret (A.rv zm202 (show zM202.2.2.2.2.2[84]? = some (154, 1, .return_, []) from rfl) rfl) hl4
  · rw [if_neg hc1] at h
    refine Q.map (A.zF (gI_of zm202 (e := (130, 3, .ifCond .eq 14, [78])) rfl) (fun q => hc1 (of_decide_eq_true q))) ?_
    refine Q.run zm202 2 (i' := 75) (ls' := [some (.ref 121), some (.int x1), some (.int x2)]) (st' := [.ref 121, .ref 121]) rfl ?_
    refine Q.map (A.gf (gI_of zm202 (e := (135, 3, .getfield 103, [9, 1])) rfl) (hl.lt (a := 121) (by decide)) (hl.T (a := 121) (p := (9, 45)) 43 rfl rfl) (by decide) rfl) ?_
    obtain ⟨s7, hc6, h⟩ := bu_so h
    have hq5 : Q 2 sio tt cc d 186 0 [some (.ref 121), some (.int (sI s 121 1))] [] s (.inl none, s7) := dt186 (by omega) hl  hc6
    refine Q.callV (gC_vi zm202 (show zM202.2.2.2.2.2[76]? = some (138, 3, .invokevirtual 164, [0, 186, 1, 9]) from rfl) zm186 (hl.lt (a := 121) (by decide)) (hl.T (a := 121) (p := (9, 45)) 43 rfl rfl) rfl (show aCr 1 121 [.int (sI s 121 1), .ref 121] 2 = some ([some (.ref 121), some (.int (sI s 121 1))], []) from rfl)) hq5 ?_
    refine Q.run zm202 1 (i' := 84) (ls' := [some (.ref 121), some (.int x1), some (.int x2)]) (st' := []) rfl ?_
    cases h
    exact Q.ret (A.rv zm202 (show zM202.2.2.2.2.2[84]? = some (154, 1, .return_, []) from rfl) rfl) hq5.1
def dm202_69 (k11 : Int32 → Int32 → aS → Option (aS)) (x1 : Int32) (x2 : Int32) (y1 : Int32) (s : aS) : Option (aS) :=
  nx (wI s 121 26 y1) fun s1 =>
  k11 x1 x2 s1
set_option maxRecDepth 100000 in
theorem dt202_69 {sio : Bool} {tt : Nat} {cc : Nat → Nat → Int32} {d : Nat} (hd : 1 ≤ d) {k11 : Int32 → Int32 → aS → Option (aS)} (hk11 : ∀ {x1 : Int32} {x2 : Int32} {s : aS}, Ly tt cc s → ∀ {o : aS}, k11 x1 x2 s = some o → Q 2 sio tt cc d 202 11 [some (.ref 121), some (.int x1), some (.int x2)] [] s (.inl none, o)) {x1 : Int32} {x2 : Int32} {y1 : Int32} {s : aS} (hl : Ly tt cc s) {o : aS} (h : dm202_69 k11 x1 x2 y1 s = some o) : Q 2 sio tt cc d 202 69 [some (.ref 121), some (.int x1), some (.int x2)] [.int y1, .ref 121] s (.inl none, o) := by
  unfold dm202_69 at h
  obtain ⟨d, rfl⟩ : ∃ e, d = e + 1 := ⟨d - 1, by omega⟩
  obtain ⟨s1, hs2, h⟩ := nx_so h
  refine Q.pf hs2 rfl (gI_of zm202 (e := (123, 3, .putfield 138, [9, 26, 0])) rfl) (hl.lt (a := 121) (by decide)) (by decide) (hl.T (a := 121) (p := (9, 45)) 43 rfl rfl) (by decide) rfl rfl ?_
  have hl3 : Ly tt cc s1 := by rw [hs2]; exact hl.wId (by decide)
  refine Q.run zm202 1 (i' := 11) (ls' := [some (.ref 121), some (.int x1), some (.int x2)]) (st' := []) rfl ?_
  exact hk11 hl3  h
def dm202_35 (k11 : Int32 → Int32 → aS → Option (aS)) (x1 : Int32) (y0 : Int32) (s : aS) : Option (aS) :=
  if y0 = 0 then
    k11 x1 y0 s
  else
    bu (dm176 (sI s 121 26) s) fun r4 =>
    if aB (sI s 121 38) 256 then
      nx (wI s 147 (jN (sI s 121 38)) r4) fun s6 =>
      nx (wI s6 121 38 ((sI s6 121 38) + 1)) fun s9 =>
      bu (dm176 (sI s9 121 26) s9) fun r14 =>
      if r14 = x1 then
        dm202_69 k11 x1 y0 ((sI s9 121 26) + 2) s9
      else
        dm202_69 k11 x1 y0 ((sI s9 121 26) + 1) s9
    else none
set_option maxRecDepth 100000 in
theorem dt202_35 {sio : Bool} {tt : Nat} {cc : Nat → Nat → Int32} {d : Nat} (hd : 1 ≤ d) {k11 : Int32 → Int32 → aS → Option (aS)} (hk11 : ∀ {x1 : Int32} {x2 : Int32} {s : aS}, Ly tt cc s → ∀ {o : aS}, k11 x1 x2 s = some o → Q 2 sio tt cc d 202 11 [some (.ref 121), some (.int x1), some (.int x2)] [] s (.inl none, o)) {x1 : Int32} {y0 : Int32} {x2 : Int32} {s : aS} (hl : Ly tt cc s) {o : aS} (h : dm202_35 k11 x1 y0 s = some o) : Q 2 sio tt cc d 202 35 [some (.ref 121), some (.int x1), some (.int x2)] [.int y0] s (.inl none, o) := by
  unfold dm202_35 at h
  obtain ⟨d, rfl⟩ : ∃ e, d = e + 1 := ⟨d - 1, by omega⟩
  refine Q.run zm202 2 (i' := 37) (ls' := [some (.ref 121), some (.int x1), some (.int y0)]) (st' := [.int y0]) rfl ?_
  by_cases hc1 : y0 = 0
  · rw [if_pos hc1] at h
    refine Q.map (A.zT (gI_of zm202 (e := (65, 3, .ifCond .eq (-48), [11])) rfl) (decide_eq_true hc1)) ?_
    exact hk11 hl  h
  · rw [if_neg hc1] at h
    refine Q.map (A.zF (gI_of zm202 (e := (65, 3, .ifCond .eq (-48), [11])) rfl) (fun q => hc1 (of_decide_eq_true q))) ?_
    refine Q.run zm202 1 (i' := 39) (ls' := [some (.ref 121), some (.int x1), some (.int y0)]) (st' := [.ref 121]) rfl ?_
    refine Q.map (A.gf (gI_of zm202 (e := (69, 3, .getfield 86, [9, 37])) rfl) (hl.lt (a := 121) (by decide)) (hl.T (a := 121) (p := (9, 45)) 43 rfl rfl) (by decide) (hl.R 48 rfl)) ?_
    refine Q.run zm202 1 (i' := 41) (ls' := [some (.ref 121), some (.int x1), some (.int y0)]) (st' := [.ref 121, .ref 147]) rfl ?_
    refine Q.map (A.gf (gI_of zm202 (e := (73, 3, .getfield 174, [9, 38])) rfl) (hl.lt (a := 121) (by decide)) (hl.T (a := 121) (p := (9, 45)) 43 rfl rfl) (by decide) rfl) ?_
    refine Q.run zm202 2 (i' := 44) (ls' := [some (.ref 121), some (.int x1), some (.int y0)]) (st' := [.ref 121, .ref 121, .int (sI s 121 38), .ref 147]) rfl ?_
    refine Q.map (A.gf (gI_of zm202 (e := (78, 3, .getfield 138, [9, 26])) rfl) (hl.lt (a := 121) (by decide)) (hl.T (a := 121) (p := (9, 45)) 43 rfl rfl) (by decide) rfl) ?_
    obtain ⟨r4, hc3, h⟩ := bu_so h
    have hq2 : Q 2 sio tt cc d 176 0 [some (.ref 121), some (.int (sI s 121 26))] [] s (.inl (some (.int r4)), s) := dt176 (by omega) hl  hc3
    refine Q.callI (gC_vi zm202 (show zM202.2.2.2.2.2[45]? = some (81, 3, .invokevirtual 113, [0, 176, 1, 9]) from rfl) zm176 (hl.lt (a := 121) (by decide)) (hl.T (a := 121) (p := (9, 45)) 43 rfl rfl) rfl (show aCr 1 121 [.int (sI s 121 26), .ref 121, .int (sI s 121 38), .ref 147] 2 = some ([some (.ref 121), some (.int (sI s 121 26))], [.int (sI s 121 38), .ref 147]) from rfl)) hq2 ?_
    obtain ⟨hc5, h⟩ := ite_so h
    obtain ⟨s6, hs7, h⟩ := nx_so h
    refine Q.is hs7 rfl (gI_of zm202 (e := (84, 1, .iastore, [])) rfl) (hl.lt (a := 147) (by decide)) (by decide) (hl.T (a := 147) (p := (100, 256)) 69 rfl rfl) hc5 ?_
    have hl8 : Ly tt cc s6 := by rw [hs7]; exact hl.wId (by decide)
    refine Q.run zm202 2 (i' := 49) (ls' := [some (.ref 121), some (.int x1), some (.int y0)]) (st' := [.ref 121, .ref 121]) rfl ?_
    refine Q.map (A.gf (gI_of zm202 (e := (87, 3, .getfield 174, [9, 38])) rfl) (hl8.lt (a := 121) (by decide)) (hl8.T (a := 121) (p := (9, 45)) 43 rfl rfl) (by decide) rfl) ?_
    refine Q.run zm202 2 (i' := 52) (ls' := [some (.ref 121), some (.int x1), some (.int y0)]) (st' := [.int ((sI s6 121 38) + 1), .ref 121]) rfl ?_
    obtain ⟨s9, hs10, h⟩ := nx_so h
    refine Q.pf hs10 rfl (gI_of zm202 (e := (92, 3, .putfield 174, [9, 38, 0])) rfl) (hl8.lt (a := 121) (by decide)) (by decide) (hl8.T (a := 121) (p := (9, 45)) 43 rfl rfl) (by decide) rfl rfl ?_
    have hl11 : Ly tt cc s9 := by rw [hs10]; exact hl8.wId (by decide)
    refine Q.run zm202 3 (i' := 56) (ls' := [some (.ref 121), some (.int x1), some (.int y0)]) (st' := [.ref 121, .ref 121, .ref 121]) rfl ?_
    refine Q.map (A.gf (gI_of zm202 (e := (98, 3, .getfield 138, [9, 26])) rfl) (hl11.lt (a := 121) (by decide)) (hl11.T (a := 121) (p := (9, 45)) 43 rfl rfl) (by decide) rfl) ?_
    obtain ⟨r14, hc13, h⟩ := bu_so h
    have hq12 : Q 2 sio tt cc d 176 0 [some (.ref 121), some (.int (sI s9 121 26))] [] s9 (.inl (some (.int r14)), s9) := dt176 (by omega) hl11  hc13
    refine Q.callI (gC_vi zm202 (show zM202.2.2.2.2.2[57]? = some (101, 3, .invokevirtual 113, [0, 176, 1, 9]) from rfl) zm176 (hl11.lt (a := 121) (by decide)) (hl11.T (a := 121) (p := (9, 45)) 43 rfl rfl) rfl (show aCr 1 121 [.int (sI s9 121 26), .ref 121, .ref 121] 2 = some ([some (.ref 121), some (.int (sI s9 121 26))], [.ref 121]) from rfl)) hq12 ?_
    refine Q.run zm202 1 (i' := 59) (ls' := [some (.ref 121), some (.int x1), some (.int y0)]) (st' := [.int x1, .int r14, .ref 121]) rfl ?_
    by_cases hc15 : r14 = x1
    · rw [if_pos hc15] at h
      refine Q.map (A.bF (gI_of zm202 (e := (105, 3, .if_icmp .ne 12, [65])) rfl) (fun q => of_decide_eq_true q hc15)) ?_
      refine Q.run zm202 1 (i' := 61) (ls' := [some (.ref 121), some (.int x1), some (.int y0)]) (st' := [.ref 121, .ref 121]) rfl ?_
      refine Q.map (A.gf (gI_of zm202 (e := (109, 3, .getfield 138, [9, 26])) rfl) (hl11.lt (a := 121) (by decide)) (hl11.T (a := 121) (p := (9, 45)) 43 rfl rfl) (by decide) rfl) ?_
      refine Q.run zm202 3 (i' := 69) (ls' := [some (.ref 121), some (.int x1), some (.int y0)]) (st' := [.int ((sI s9 121 26) + 2), .ref 121]) rfl ?_
      exact dt202_69 hd hk11 hl11  h
    · rw [if_neg hc15] at h
      refine Q.map (A.bT (gI_of zm202 (e := (105, 3, .if_icmp .ne 12, [65])) rfl) (decide_eq_true hc15)) ?_
      refine Q.run zm202 1 (i' := 66) (ls' := [some (.ref 121), some (.int x1), some (.int y0)]) (st' := [.ref 121, .ref 121]) rfl ?_
      refine Q.map (A.gf (gI_of zm202 (e := (118, 3, .getfield 138, [9, 26])) rfl) (hl11.lt (a := 121) (by decide)) (hl11.T (a := 121) (p := (9, 45)) 43 rfl rfl) (by decide) rfl) ?_
      refine Q.run zm202 2 (i' := 69) (ls' := [some (.ref 121), some (.int x1), some (.int y0)]) (st' := [.int ((sI s9 121 26) + 1), .ref 121]) rfl ?_
      exact dt202_69 hd hk11 hl11  h
def dm202_32 (k11 : Int32 → Int32 → aS → Option (aS)) (x1 : Int32) (s : aS) : Option (aS) :=
  dm202_35 k11 x1 1 s
set_option maxRecDepth 100000 in
theorem dt202_32 {sio : Bool} {tt : Nat} {cc : Nat → Nat → Int32} {d : Nat} (hd : 1 ≤ d) {k11 : Int32 → Int32 → aS → Option (aS)} (hk11 : ∀ {x1 : Int32} {x2 : Int32} {s : aS}, Ly tt cc s → ∀ {o : aS}, k11 x1 x2 s = some o → Q 2 sio tt cc d 202 11 [some (.ref 121), some (.int x1), some (.int x2)] [] s (.inl none, o)) {x1 : Int32} {x2 : Int32} {s : aS} (hl : Ly tt cc s) {o : aS} (h : dm202_32 k11 x1 s = some o) : Q 2 sio tt cc d 202 32 [some (.ref 121), some (.int x1), some (.int x2)] [] s (.inl none, o) := by
  unfold dm202_32 at h
  obtain ⟨d, rfl⟩ : ∃ e, d = e + 1 := ⟨d - 1, by omega⟩
  refine Q.run zm202 2 (i' := 35) (ls' := [some (.ref 121), some (.int x1), some (.int x2)]) (st' := [.int 1]) rfl ?_
  exact dt202_35 hd hk11 hl  h
def dm202_11 : Nat → Int32 → Int32 → aS → Option (aS)
  | 0, _, _, _ => none
  | n + 1, x1, x2, s =>
    if x2 = 0 then
      dm202_71 x2 s
    else
      if (sI s 121 1) ≤ (sI s 121 26) then
        dm202_71 x2 s
      else
        bu (dm176 (sI s 121 26) s) fun r5 =>
        if r5 = x1 then
          bu (dm176 ((sI s 121 26) + 1) s) fun r9 =>
          if r9 = x1 then
            dm202_32 (dm202_11 n) x1 s
          else
            dm202_35 (dm202_11 n) x1 0 s
        else
          dm202_32 (dm202_11 n) x1 s
set_option maxRecDepth 100000 in
theorem dt202_11 {sio : Bool} {tt : Nat} {cc : Nat → Nat → Int32} {d : Nat} (hd : 1 ≤ d) : ∀ (n : Nat) {x1 : Int32} {x2 : Int32} {s : aS} (_ : Ly tt cc s) {o : aS} (_ : dm202_11  n x1 x2 s = some o), Q 2 sio tt cc d 202 11 [some (.ref 121), some (.int x1), some (.int x2)] [] s (.inl none, o) := by
  obtain ⟨d, rfl⟩ : ∃ e, d = e + 1 := ⟨d - 1, by omega⟩
  intro n
  induction n with
  | zero => intro x1 x2 s hl o h; rw [dm202_11] at h; cases h
  | succ n ih =>
    intro x1 x2 s hl o h
    rw [dm202_11] at h
    refine Q.run zm202 1 (i' := 12) (ls' := [some (.ref 121), some (.int x1), some (.int x2)]) (st' := [.int x2]) rfl ?_
    by_cases hc1 : x2 = 0
    · rw [if_pos hc1] at h
      refine Q.map (A.zT (gI_of zm202 (e := (18, 3, .ifCond .eq 111, [71])) rfl) (decide_eq_true hc1)) ?_
      exact dt202_71 hd hl  h
    · rw [if_neg hc1] at h
      refine Q.map (A.zF (gI_of zm202 (e := (18, 3, .ifCond .eq 111, [71])) rfl) (fun q => hc1 (of_decide_eq_true q))) ?_
      refine Q.run zm202 1 (i' := 14) (ls' := [some (.ref 121), some (.int x1), some (.int x2)]) (st' := [.ref 121]) rfl ?_
      refine Q.map (A.gf (gI_of zm202 (e := (22, 3, .getfield 138, [9, 26])) rfl) (hl.lt (a := 121) (by decide)) (hl.T (a := 121) (p := (9, 45)) 43 rfl rfl) (by decide) rfl) ?_
      refine Q.run zm202 1 (i' := 16) (ls' := [some (.ref 121), some (.int x1), some (.int x2)]) (st' := [.ref 121, .int (sI s 121 26)]) rfl ?_
      refine Q.map (A.gf (gI_of zm202 (e := (26, 3, .getfield 103, [9, 1])) rfl) (hl.lt (a := 121) (by decide)) (hl.T (a := 121) (p := (9, 45)) 43 rfl rfl) (by decide) rfl) ?_
      by_cases hc2 : (sI s 121 1) ≤ (sI s 121 26)
      · rw [if_pos hc2] at h
        refine Q.map (A.bT (gI_of zm202 (e := (29, 3, .if_icmp .ge 100, [71])) rfl) (decide_eq_true hc2)) ?_
        exact dt202_71 hd hl  h
      · rw [if_neg hc2] at h
        refine Q.map (A.bF (gI_of zm202 (e := (29, 3, .if_icmp .ge 100, [71])) rfl) (fun q => hc2 (of_decide_eq_true q))) ?_
        refine Q.run zm202 2 (i' := 20) (ls' := [some (.ref 121), some (.int x1), some (.int x2)]) (st' := [.ref 121, .ref 121]) rfl ?_
        refine Q.map (A.gf (gI_of zm202 (e := (34, 3, .getfield 138, [9, 26])) rfl) (hl.lt (a := 121) (by decide)) (hl.T (a := 121) (p := (9, 45)) 43 rfl rfl) (by decide) rfl) ?_
        obtain ⟨r5, hc4, h⟩ := bu_so h
        have hq3 : Q 2 sio tt cc d 176 0 [some (.ref 121), some (.int (sI s 121 26))] [] s (.inl (some (.int r5)), s) := dt176 (by omega) hl  hc4
        refine Q.callI (gC_vi zm202 (show zM202.2.2.2.2.2[21]? = some (37, 3, .invokevirtual 113, [0, 176, 1, 9]) from rfl) zm176 (hl.lt (a := 121) (by decide)) (hl.T (a := 121) (p := (9, 45)) 43 rfl rfl) rfl (show aCr 1 121 [.int (sI s 121 26), .ref 121] 2 = some ([some (.ref 121), some (.int (sI s 121 26))], []) from rfl)) hq3 ?_
        refine Q.run zm202 1 (i' := 23) (ls' := [some (.ref 121), some (.int x1), some (.int x2)]) (st' := [.int x1, .int r5]) rfl ?_
        by_cases hc6 : r5 = x1
        · rw [if_pos hc6] at h
          refine Q.map (A.bF (gI_of zm202 (e := (41, 3, .if_icmp .ne 17, [32])) rfl) (fun q => of_decide_eq_true q hc6)) ?_
          refine Q.run zm202 2 (i' := 26) (ls' := [some (.ref 121), some (.int x1), some (.int x2)]) (st' := [.ref 121, .ref 121]) rfl ?_
          refine Q.map (A.gf (gI_of zm202 (e := (46, 3, .getfield 138, [9, 26])) rfl) (hl.lt (a := 121) (by decide)) (hl.T (a := 121) (p := (9, 45)) 43 rfl rfl) (by decide) rfl) ?_
          refine Q.run zm202 2 (i' := 29) (ls' := [some (.ref 121), some (.int x1), some (.int x2)]) (st' := [.int ((sI s 121 26) + 1), .ref 121]) rfl ?_
          obtain ⟨r9, hc8, h⟩ := bu_so h
          have hq7 : Q 2 sio tt cc d 176 0 [some (.ref 121), some (.int ((sI s 121 26) + 1))] [] s (.inl (some (.int r9)), s) := dt176 (by omega) hl  hc8
          refine Q.callI (gC_vi zm202 (show zM202.2.2.2.2.2[29]? = some (51, 3, .invokevirtual 113, [0, 176, 1, 9]) from rfl) zm176 (hl.lt (a := 121) (by decide)) (hl.T (a := 121) (p := (9, 45)) 43 rfl rfl) rfl (show aCr 1 121 [.int ((sI s 121 26) + 1), .ref 121] 2 = some ([some (.ref 121), some (.int ((sI s 121 26) + 1))], []) from rfl)) hq7 ?_
          refine Q.run zm202 1 (i' := 31) (ls' := [some (.ref 121), some (.int x1), some (.int x2)]) (st' := [.int x1, .int r9]) rfl ?_
          by_cases hc10 : r9 = x1
          · rw [if_pos hc10] at h
            refine Q.map (A.bF (gI_of zm202 (e := (55, 3, .if_icmp .ne 7, [34])) rfl) (fun q => of_decide_eq_true q hc10)) ?_
            exact dt202_32 hd ih hl  h
          · rw [if_neg hc10] at h
            refine Q.map (A.bT (gI_of zm202 (e := (55, 3, .if_icmp .ne 7, [34])) rfl) (decide_eq_true hc10)) ?_
            refine Q.run zm202 1 (i' := 35) (ls' := [some (.ref 121), some (.int x1), some (.int x2)]) (st' := [.int 0]) rfl ?_
            exact dt202_35 hd ih hl  h
        · rw [if_neg hc6] at h
          refine Q.map (A.bT (gI_of zm202 (e := (41, 3, .if_icmp .ne 17, [32])) rfl) (decide_eq_true hc6)) ?_
          exact dt202_32 hd ih hl  h
def dm202 (x1 : Int32) (s : aS) : Option (aS) :=
  nx (wI s 121 38 0) fun s1 =>
  nx (wI s1 121 26 ((sI s1 121 26) + 1)) fun s4 =>
  dm202_11 5000 x1 1 s4
set_option maxRecDepth 100000 in
theorem dt202 {sio : Bool} {tt : Nat} {cc : Nat → Nat → Int32} {d : Nat} (hd : 1 ≤ d) {x1 : Int32} {s : aS} (hl : Ly tt cc s) {o : aS} (h : dm202  x1 s = some o) : Q 2 sio tt cc d 202 0 [some (.ref 121), some (.int x1), none] [] s (.inl none, o) := by
  unfold dm202 at h
  obtain ⟨d, rfl⟩ : ∃ e, d = e + 1 := ⟨d - 1, by omega⟩
  refine Q.run zm202 2 (i' := 2) (ls' := [some (.ref 121), some (.int x1), none]) (st' := [.int 0, .ref 121]) rfl ?_
  obtain ⟨s1, hs2, h⟩ := nx_so h
  refine Q.pf hs2 rfl (gI_of zm202 (e := (2, 3, .putfield 174, [9, 38, 0])) rfl) (hl.lt (a := 121) (by decide)) (by decide) (hl.T (a := 121) (p := (9, 45)) 43 rfl rfl) (by decide) rfl rfl ?_
  have hl3 : Ly tt cc s1 := by rw [hs2]; exact hl.wId (by decide)
  refine Q.run zm202 2 (i' := 5) (ls' := [some (.ref 121), some (.int x1), none]) (st' := [.ref 121, .ref 121]) rfl ?_
  refine Q.map (A.gf (gI_of zm202 (e := (7, 3, .getfield 138, [9, 26])) rfl) (hl3.lt (a := 121) (by decide)) (hl3.T (a := 121) (p := (9, 45)) 43 rfl rfl) (by decide) rfl) ?_
  refine Q.run zm202 2 (i' := 8) (ls' := [some (.ref 121), some (.int x1), none]) (st' := [.int ((sI s1 121 26) + 1), .ref 121]) rfl ?_
  obtain ⟨s4, hs5, h⟩ := nx_so h
  refine Q.pf hs5 rfl (gI_of zm202 (e := (12, 3, .putfield 138, [9, 26, 0])) rfl) (hl3.lt (a := 121) (by decide)) (by decide) (hl3.T (a := 121) (p := (9, 45)) 43 rfl rfl) (by decide) rfl rfl ?_
  have hl6 : Ly tt cc s4 := by rw [hs5]; exact hl3.wId (by decide)
  refine Q.run zm202 2 (i' := 11) (ls' := [some (.ref 121), some (.int x1), some (.int 1)]) (st' := []) rfl ?_
  exact dt202_11 hd _ hl6  h
/-! 201 FormulaTreesModel.readText()V -/
set_option maxRecDepth 100000 in
theorem zm201 : zP[201]? = some zM201 := rfl
def dm201 (s : aS) : Option (aS) :=
  bu (dm202 34 s) fun s3 =>
  if (sI s3 121 27) = 0 then
    bv (dm187 1 s3) fun r8 s7 =>
    bu (dm200 r8 (sI s 121 26) 0 s7) fun s11 =>
    bu (dm194 r8 s11) fun s14 =>
    some s14
  else
    some s3
set_option maxRecDepth 100000 in
theorem dt201 {sio : Bool} {tt : Nat} {cc : Nat → Nat → Int32} {d : Nat} (hd : 2 ≤ d) {s : aS} (hl : Ly tt cc s) {o : aS} (h : dm201  s = some o) : Q 2 sio tt cc d 201 0 [some (.ref 121), none, none] [] s (.inl none, o) := by
  unfold dm201 at h
  obtain ⟨d, rfl⟩ : ∃ e, d = e + 1 := ⟨d - 1, by omega⟩
  refine Q.run zm201 1 (i' := 1) (ls' := [some (.ref 121), none, none]) (st' := [.ref 121]) rfl ?_
  refine Q.map (A.gf (gI_of zm201 (e := (1, 3, .getfield 138, [9, 26])) rfl) (hl.lt (a := 121) (by decide)) (hl.T (a := 121) (p := (9, 45)) 43 rfl rfl) (by decide) rfl) ?_
  refine Q.run zm201 3 (i' := 5) (ls' := [some (.ref 121), some (.int (sI s 121 26)), none]) (st' := [.int 34, .ref 121]) rfl ?_
  obtain ⟨s3, hc2, h⟩ := bu_so h
  have hq1 : Q 2 sio tt cc d 202 0 [some (.ref 121), some (.int 34), none] [] s (.inl none, s3) := dt202 (by omega) hl  hc2
  refine Q.callV (gC_vi zm201 (show zM201.2.2.2.2.2[5]? = some (8, 3, .invokevirtual 177, [0, 202, 1, 9]) from rfl) zm202 (hl.lt (a := 121) (by decide)) (hl.T (a := 121) (p := (9, 45)) 43 rfl rfl) rfl (show aCr 1 121 [.int 34, .ref 121] 3 = some ([some (.ref 121), some (.int 34), none], []) from rfl)) hq1 ?_
  refine Q.run zm201 1 (i' := 7) (ls' := [some (.ref 121), some (.int (sI s 121 26)), none]) (st' := [.ref 121]) rfl ?_
  refine Q.map (A.gf (gI_of zm201 (e := (12, 3, .getfield 134, [9, 27])) rfl) (hq1.1.lt (a := 121) (by decide)) (hq1.1.T (a := 121) (p := (9, 45)) 43 rfl rfl) (by decide) rfl) ?_
  by_cases hc4 : (sI s3 121 27) = 0
  · rw [if_pos hc4] at h
    refine Q.map (A.zT (gI_of zm201 (e := (15, 3, .ifCond .eq 4, [10])) rfl) (decide_eq_true hc4)) ?_
    refine Q.run zm201 2 (i' := 12) (ls' := [some (.ref 121), some (.int (sI s 121 26)), none]) (st' := [.int 1, .ref 121]) rfl ?_
    obtain ⟨r8, s7, hc6, h⟩ := bv_so h
    have hq5 : Q 2 sio tt cc d 187 0 [some (.ref 121), some (.int 1), none, none] [] s3 (.inl (some (.int r8)), s7) := dt187 (by omega) hq1.1  hc6
    refine Q.callI (gC_vi zm201 (show zM201.2.2.2.2.2[12]? = some (21, 3, .invokevirtual 167, [0, 187, 1, 9]) from rfl) zm187 (hq1.1.lt (a := 121) (by decide)) (hq1.1.T (a := 121) (p := (9, 45)) 43 rfl rfl) rfl (show aCr 1 121 [.int 1, .ref 121] 4 = some ([some (.ref 121), some (.int 1), none, none], []) from rfl)) hq5 ?_
    refine Q.run zm201 5 (i' := 18) (ls' := [some (.ref 121), some (.int (sI s 121 26)), some (.int r8)]) (st' := [.int 0, .int (sI s 121 26), .int r8, .ref 121]) rfl ?_
    obtain ⟨s11, hc10, h⟩ := bu_so h
    have hq9 : Q 2 sio tt cc d 200 0 [some (.ref 121), some (.int r8), some (.int (sI s 121 26)), some (.int 0), none] [] s7 (.inl none, s11) := dt200 (by omega) hq5.1  hc10
    refine Q.callV (gC_vi zm201 (show zM201.2.2.2.2.2[18]? = some (29, 3, .invokevirtual 170, [0, 200, 3, 9]) from rfl) zm200 (hq5.1.lt (a := 121) (by decide)) (hq5.1.T (a := 121) (p := (9, 45)) 43 rfl rfl) rfl (show aCr 3 121 [.int 0, .int (sI s 121 26), .int r8, .ref 121] 5 = some ([some (.ref 121), some (.int r8), some (.int (sI s 121 26)), some (.int 0), none], []) from rfl)) hq9 ?_
    refine Q.run zm201 2 (i' := 21) (ls' := [some (.ref 121), some (.int (sI s 121 26)), some (.int r8)]) (st' := [.int r8, .ref 121]) rfl ?_
    obtain ⟨s14, hc13, h⟩ := bu_so h
    have hq12 : Q 2 sio tt cc d 194 0 [some (.ref 121), some (.int r8)] [] s11 (.inl none, s14) := dt194 (by omega) hq9.1  hc13
    refine Q.callV (gC_vi zm201 (show zM201.2.2.2.2.2[21]? = some (34, 3, .invokevirtual 161, [0, 194, 1, 9]) from rfl) zm194 (hq9.1.lt (a := 121) (by decide)) (hq9.1.T (a := 121) (p := (9, 45)) 43 rfl rfl) rfl (show aCr 1 121 [.int r8, .ref 121] 2 = some ([some (.ref 121), some (.int r8)], []) from rfl)) hq12 ?_
    cases h
    exact Q.ret (A.rv zm201 (show zM201.2.2.2.2.2[22]? = some (37, 1, .return_, []) from rfl) rfl) hq12.1
  · rw [if_neg hc4] at h
    refine Q.map (A.zF (gI_of zm201 (e := (15, 3, .ifCond .eq 4, [10])) rfl) (fun q => hc4 (of_decide_eq_true q))) ?_
    cases h
    exact Q.ret (A.rv zm201 (show zM201.2.2.2.2.2[9]? = some (18, 1, .return_, []) from rfl) rfl) hq1.1
/-! 204 FormulaTreesModel.errorAt(II)I -/
set_option maxRecDepth 100000 in
theorem zm204 : zP[204]? = some zM204 := rfl
def dm204_57 (x1 : Int32) (x2 : Int64) (y0 : Int32) : Option (Int32) :=
  if y0 ≤ x1 then
    some 0
  else
    some (((x2 >>> ((8 * ((y0 - 1) - x1)).toInt64 &&& 63)) &&& 255).toInt32)
set_option maxRecDepth 100000 in
theorem dt204_57 {sio : Bool} {tt : Nat} {cc : Nat → Nat → Int32} {d : Nat} (hd : 0 ≤ d) {x1 : Int32} {x2 : Int64} {y0 : Int32} {x0 : Int32} {s : aS} (hl : Ly tt cc s) {o : Int32} (h : dm204_57  x1 x2 y0 = some o) : Q 2 sio tt cc d 204 57 [some (.int x0), some (.int x1), some (.long x2), none, none] [.int y0] s (.inl (some (.int o)), s) := by
  unfold dm204_57 at h
  refine Q.run zm204 3 (i' := 60) (ls' := [some (.int x0), some (.int x1), some (.long x2), none, some (.int y0)]) (st' := [.int y0, .int x1]) rfl ?_
  by_cases hc1 : y0 ≤ x1
  · rw [if_pos hc1] at h
    refine Q.map (A.bT (gI_of zm204 (e := (122, 3, .if_icmp .ge 22, [74])) rfl) (decide_eq_true hc1)) ?_
    refine Q.run zm204 1 (i' := 75) (ls' := [some (.int x0), some (.int x1), some (.long x2), none, some (.int y0)]) (st' := [.int 0]) rfl ?_
    cases h
    exact Q.ret (A.ri zm204 (show zM204.2.2.2.2.2[75]? = some (145, 1, .ireturn, []) from rfl) rfl rfl) hl
  · rw [if_neg hc1] at h
    refine Q.map (A.bF (gI_of zm204 (e := (122, 3, .if_icmp .ge 22, [74])) rfl) (fun q => hc1 (of_decide_eq_true q))) ?_
    refine Q.run zm204 13 (i' := 75) (ls' := [some (.int x0), some (.int x1), some (.long x2), none, some (.int y0)]) (st' := [.int (((x2 >>> ((8 * ((y0 - 1) - x1)).toInt64 &&& 63)) &&& 255).toInt32)]) rfl ?_
    cases h
    exact Q.ret (A.ri zm204 (show zM204.2.2.2.2.2[75]? = some (145, 1, .ireturn, []) from rfl) rfl rfl) hl
def dm204_54 (x1 : Int32) (x2 : Int64) : Option (Int32) :=
  dm204_57 x1 x2 5
set_option maxRecDepth 100000 in
theorem dt204_54 {sio : Bool} {tt : Nat} {cc : Nat → Nat → Int32} {d : Nat} (hd : 0 ≤ d) {x1 : Int32} {x2 : Int64} {x0 : Int32} {s : aS} (hl : Ly tt cc s) {o : Int32} (h : dm204_54  x1 x2 = some o) : Q 2 sio tt cc d 204 54 [some (.int x0), some (.int x1), some (.long x2), none, none] [] s (.inl (some (.int o)), s) := by
  unfold dm204_54 at h
  refine Q.run zm204 2 (i' := 57) (ls' := [some (.int x0), some (.int x1), some (.long x2), none, none]) (st' := [.int 5]) rfl ?_
  exact dt204_57 hd hl  h
def dm204_46 (x1 : Int32) (x2 : Int64) : Option (Int32) :=
  dm204_57 x1 x2 7
set_option maxRecDepth 100000 in
theorem dt204_46 {sio : Bool} {tt : Nat} {cc : Nat → Nat → Int32} {d : Nat} (hd : 0 ≤ d) {x1 : Int32} {x2 : Int64} {x0 : Int32} {s : aS} (hl : Ly tt cc s) {o : Int32} (h : dm204_46  x1 x2 = some o) : Q 2 sio tt cc d 204 46 [some (.int x0), some (.int x1), some (.long x2), none, none] [] s (.inl (some (.int o)), s) := by
  unfold dm204_46 at h
  refine Q.run zm204 2 (i' := 57) (ls' := [some (.int x0), some (.int x1), some (.long x2), none, none]) (st' := [.int 7]) rfl ?_
  exact dt204_57 hd hl  h
def dm204_38 (x1 : Int32) (x2 : Int64) : Option (Int32) :=
  dm204_57 x1 x2 6
set_option maxRecDepth 100000 in
theorem dt204_38 {sio : Bool} {tt : Nat} {cc : Nat → Nat → Int32} {d : Nat} (hd : 0 ≤ d) {x1 : Int32} {x2 : Int64} {x0 : Int32} {s : aS} (hl : Ly tt cc s) {o : Int32} (h : dm204_38  x1 x2 = some o) : Q 2 sio tt cc d 204 38 [some (.int x0), some (.int x1), some (.long x2), none, none] [] s (.inl (some (.int o)), s) := by
  unfold dm204_38 at h
  refine Q.run zm204 2 (i' := 57) (ls' := [some (.int x0), some (.int x1), some (.long x2), none, none]) (st' := [.int 6]) rfl ?_
  exact dt204_57 hd hl  h
def dm204_31 (x0 : Int32) (x1 : Int32) (y0 : Int64) : Option (Int32) :=
  if x0 = 1 then
    dm204_38 x1 y0
  else
    if x0 = 5 then
      dm204_38 x1 y0
    else
      if x0 = 2 then
        dm204_46 x1 y0
      else
        if x0 = 3 then
          dm204_46 x1 y0
        else
          if x0 = 4 then
            dm204_54 x1 y0
          else
            if x0 = 6 then
              dm204_54 x1 y0
            else
              dm204_57 x1 y0 4
set_option maxRecDepth 100000 in
theorem dt204_31 {sio : Bool} {tt : Nat} {cc : Nat → Nat → Int32} {d : Nat} (hd : 0 ≤ d) {x0 : Int32} {x1 : Int32} {y0 : Int64} {s : aS} (hl : Ly tt cc s) {o : Int32} (h : dm204_31  x0 x1 y0 = some o) : Q 2 sio tt cc d 204 31 [some (.int x0), some (.int x1), none, none, none] [.long y0] s (.inl (some (.int o)), s) := by
  unfold dm204_31 at h
  refine Q.run zm204 3 (i' := 34) (ls' := [some (.int x0), some (.int x1), some (.long y0), none, none]) (st' := [.int 1, .int x0]) rfl ?_
  by_cases hc1 : x0 = 1
  · rw [if_pos hc1] at h
    refine Q.map (A.bT (gI_of zm204 (e := (73, 3, .if_icmp .eq 8, [38])) rfl) (decide_eq_true hc1)) ?_
    exact dt204_38 hd hl  h
  · rw [if_neg hc1] at h
    refine Q.map (A.bF (gI_of zm204 (e := (73, 3, .if_icmp .eq 8, [38])) rfl) (fun q => hc1 (of_decide_eq_true q))) ?_
    refine Q.run zm204 2 (i' := 37) (ls' := [some (.int x0), some (.int x1), some (.long y0), none, none]) (st' := [.int 5, .int x0]) rfl ?_
    by_cases hc2 : x0 = 5
    · rw [if_pos hc2] at h
      refine Q.map (A.bF (gI_of zm204 (e := (78, 3, .if_icmp .ne 8, [40])) rfl) (fun q => of_decide_eq_true q hc2)) ?_
      exact dt204_38 hd hl  h
    · rw [if_neg hc2] at h
      refine Q.map (A.bT (gI_of zm204 (e := (78, 3, .if_icmp .ne 8, [40])) rfl) (decide_eq_true hc2)) ?_
      refine Q.run zm204 2 (i' := 42) (ls' := [some (.int x0), some (.int x1), some (.long y0), none, none]) (st' := [.int 2, .int x0]) rfl ?_
      by_cases hc3 : x0 = 2
      · rw [if_pos hc3] at h
        refine Q.map (A.bT (gI_of zm204 (e := (88, 3, .if_icmp .eq 8, [46])) rfl) (decide_eq_true hc3)) ?_
        exact dt204_46 hd hl  h
      · rw [if_neg hc3] at h
        refine Q.map (A.bF (gI_of zm204 (e := (88, 3, .if_icmp .eq 8, [46])) rfl) (fun q => hc3 (of_decide_eq_true q))) ?_
        refine Q.run zm204 2 (i' := 45) (ls' := [some (.int x0), some (.int x1), some (.long y0), none, none]) (st' := [.int 3, .int x0]) rfl ?_
        by_cases hc4 : x0 = 3
        · rw [if_pos hc4] at h
          refine Q.map (A.bF (gI_of zm204 (e := (93, 3, .if_icmp .ne 8, [48])) rfl) (fun q => of_decide_eq_true q hc4)) ?_
          exact dt204_46 hd hl  h
        · rw [if_neg hc4] at h
          refine Q.map (A.bT (gI_of zm204 (e := (93, 3, .if_icmp .ne 8, [48])) rfl) (decide_eq_true hc4)) ?_
          refine Q.run zm204 2 (i' := 50) (ls' := [some (.int x0), some (.int x1), some (.long y0), none, none]) (st' := [.int 4, .int x0]) rfl ?_
          by_cases hc5 : x0 = 4
          · rw [if_pos hc5] at h
            refine Q.map (A.bT (gI_of zm204 (e := (103, 3, .if_icmp .eq 9, [54])) rfl) (decide_eq_true hc5)) ?_
            exact dt204_54 hd hl  h
          · rw [if_neg hc5] at h
            refine Q.map (A.bF (gI_of zm204 (e := (103, 3, .if_icmp .eq 9, [54])) rfl) (fun q => hc5 (of_decide_eq_true q))) ?_
            refine Q.run zm204 2 (i' := 53) (ls' := [some (.int x0), some (.int x1), some (.long y0), none, none]) (st' := [.int 6, .int x0]) rfl ?_
            by_cases hc6 : x0 = 6
            · rw [if_pos hc6] at h
              refine Q.map (A.bF (gI_of zm204 (e := (109, 3, .if_icmp .ne 7, [56])) rfl) (fun q => of_decide_eq_true q hc6)) ?_
              exact dt204_54 hd hl  h
            · rw [if_neg hc6] at h
              refine Q.map (A.bT (gI_of zm204 (e := (109, 3, .if_icmp .ne 7, [56])) rfl) (decide_eq_true hc6)) ?_
              refine Q.run zm204 1 (i' := 57) (ls' := [some (.int x0), some (.int x1), some (.long y0), none, none]) (st' := [.int 4]) rfl ?_
              exact dt204_57 hd hl  h
def dm204 (x0 : Int32) (x1 : Int32) : Option (Int32) :=
  if x0 = 1 then
    dm204_31 x0 x1 38819345484833
  else
    if x0 = 2 then
      dm204_31 x0 x1 9926705954107425
    else
      if x0 = 3 then
        dm204_31 x0 x1 9946462638392609
      else
        if x0 = 4 then
          dm204_31 x0 x1 151704127009
        else
          if x0 = 5 then
            dm204_31 x0 x1 38819010004287
          else
            if x0 = 6 then
              dm204_31 x0 x1 151638068513
            else
              dm204_31 x0 x1 592326465
set_option maxRecDepth 100000 in
theorem dt204 {sio : Bool} {tt : Nat} {cc : Nat → Nat → Int32} {d : Nat} (hd : 0 ≤ d) {x0 : Int32} {x1 : Int32} {s : aS} (hl : Ly tt cc s) {o : Int32} (h : dm204  x0 x1 = some o) : Q 2 sio tt cc d 204 0 [some (.int x0), some (.int x1), none, none, none] [] s (.inl (some (.int o)), s) := by
  unfold dm204 at h
  refine Q.run zm204 2 (i' := 2) (ls' := [some (.int x0), some (.int x1), none, none, none]) (st' := [.int 1, .int x0]) rfl ?_
  by_cases hc1 : x0 = 1
  · rw [if_pos hc1] at h
    refine Q.map (A.bF (gI_of zm204 (e := (2, 3, .if_icmp .ne 9, [5])) rfl) (fun q => of_decide_eq_true q hc1)) ?_
    refine Q.run zm204 2 (i' := 31) (ls' := [some (.int x0), some (.int x1), none, none, none]) (st' := [.long 38819345484833]) rfl ?_
    exact dt204_31 hd hl  h
  · rw [if_neg hc1] at h
    refine Q.map (A.bT (gI_of zm204 (e := (2, 3, .if_icmp .ne 9, [5])) rfl) (decide_eq_true hc1)) ?_
    refine Q.run zm204 2 (i' := 7) (ls' := [some (.int x0), some (.int x1), none, none, none]) (st' := [.int 2, .int x0]) rfl ?_
    by_cases hc2 : x0 = 2
    · rw [if_pos hc2] at h
      refine Q.map (A.bF (gI_of zm204 (e := (13, 3, .if_icmp .ne 9, [10])) rfl) (fun q => of_decide_eq_true q hc2)) ?_
      refine Q.run zm204 2 (i' := 31) (ls' := [some (.int x0), some (.int x1), none, none, none]) (st' := [.long 9926705954107425]) rfl ?_
      exact dt204_31 hd hl  h
    · rw [if_neg hc2] at h
      refine Q.map (A.bT (gI_of zm204 (e := (13, 3, .if_icmp .ne 9, [10])) rfl) (decide_eq_true hc2)) ?_
      refine Q.run zm204 2 (i' := 12) (ls' := [some (.int x0), some (.int x1), none, none, none]) (st' := [.int 3, .int x0]) rfl ?_
      by_cases hc3 : x0 = 3
      · rw [if_pos hc3] at h
        refine Q.map (A.bF (gI_of zm204 (e := (24, 3, .if_icmp .ne 9, [15])) rfl) (fun q => of_decide_eq_true q hc3)) ?_
        refine Q.run zm204 2 (i' := 31) (ls' := [some (.int x0), some (.int x1), none, none, none]) (st' := [.long 9946462638392609]) rfl ?_
        exact dt204_31 hd hl  h
      · rw [if_neg hc3] at h
        refine Q.map (A.bT (gI_of zm204 (e := (24, 3, .if_icmp .ne 9, [15])) rfl) (decide_eq_true hc3)) ?_
        refine Q.run zm204 2 (i' := 17) (ls' := [some (.int x0), some (.int x1), none, none, none]) (st' := [.int 4, .int x0]) rfl ?_
        by_cases hc4 : x0 = 4
        · rw [if_pos hc4] at h
          refine Q.map (A.bF (gI_of zm204 (e := (35, 3, .if_icmp .ne 9, [20])) rfl) (fun q => of_decide_eq_true q hc4)) ?_
          refine Q.run zm204 2 (i' := 31) (ls' := [some (.int x0), some (.int x1), none, none, none]) (st' := [.long 151704127009]) rfl ?_
          exact dt204_31 hd hl  h
        · rw [if_neg hc4] at h
          refine Q.map (A.bT (gI_of zm204 (e := (35, 3, .if_icmp .ne 9, [20])) rfl) (decide_eq_true hc4)) ?_
          refine Q.run zm204 2 (i' := 22) (ls' := [some (.int x0), some (.int x1), none, none, none]) (st' := [.int 5, .int x0]) rfl ?_
          by_cases hc5 : x0 = 5
          · rw [if_pos hc5] at h
            refine Q.map (A.bF (gI_of zm204 (e := (46, 3, .if_icmp .ne 9, [25])) rfl) (fun q => of_decide_eq_true q hc5)) ?_
            refine Q.run zm204 2 (i' := 31) (ls' := [some (.int x0), some (.int x1), none, none, none]) (st' := [.long 38819010004287]) rfl ?_
            exact dt204_31 hd hl  h
          · rw [if_neg hc5] at h
            refine Q.map (A.bT (gI_of zm204 (e := (46, 3, .if_icmp .ne 9, [25])) rfl) (decide_eq_true hc5)) ?_
            refine Q.run zm204 2 (i' := 27) (ls' := [some (.int x0), some (.int x1), none, none, none]) (st' := [.int 6, .int x0]) rfl ?_
            by_cases hc6 : x0 = 6
            · rw [if_pos hc6] at h
              refine Q.map (A.bF (gI_of zm204 (e := (58, 3, .if_icmp .ne 9, [30])) rfl) (fun q => of_decide_eq_true q hc6)) ?_
              refine Q.run zm204 2 (i' := 31) (ls' := [some (.int x0), some (.int x1), none, none, none]) (st' := [.long 151638068513]) rfl ?_
              exact dt204_31 hd hl  h
            · rw [if_neg hc6] at h
              refine Q.map (A.bT (gI_of zm204 (e := (58, 3, .if_icmp .ne 9, [30])) rfl) (decide_eq_true hc6)) ?_
              refine Q.run zm204 1 (i' := 31) (ls' := [some (.int x0), some (.int x1), none, none, none]) (st' := [.long 592326465]) rfl ?_
              exact dt204_31 hd hl  h
