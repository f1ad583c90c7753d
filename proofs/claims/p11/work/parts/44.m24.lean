/-! 246 FormulaTreesModel.letter(III)I -/
set_option maxRecDepth 100000 in
theorem zm246 : zP[246]? = some zM246 := rfl
def dm246_16 (x1 : Int32) (x2 : Int32) (x3 : Int32) (y1 : Int32) (s : aS) : Option (Int32 × aS) :=
  nx (wI s 121 0 y1) fun s1 =>
  if (sI s1 121 0) ≤ 0 then
    bu (dm247 x1 ((128 * x1) + x2) x3 s1) fun r7 =>
    some (r7, s1)
  else
    some (0, s1)
set_option maxRecDepth 100000 in
theorem dt246_16 {sio : Bool} {tt : Nat} {cc : Nat → Nat → Int32} {d : Nat} (hd : 1 ≤ d) {x1 : Int32} {x2 : Int32} {x3 : Int32} {y1 : Int32} {s : aS} (hl : Ly tt cc s) {o : Int32 × aS} (h : dm246_16  x1 x2 x3 y1 s = some o) : Q 2 sio tt cc d 246 16 [some (.ref 121), some (.int x1), some (.int x2), some (.int x3)] [.int y1, .ref 121] s (.inl (some (.int o.1)), o.2) := by
  unfold dm246_16 at h
  obtain ⟨d, rfl⟩ : ∃ e, d = e + 1 := ⟨d - 1, by omega⟩
  obtain ⟨s1, hs2, h⟩ := nx_so h
  refine Q.pf hs2 rfl (gI_of zm246 (e := (28, 3, .putfield 89, [9, 0, 0])) rfl) (hl.lt (a := 121) (by decide)) (by decide) (hl.T (a := 121) (p := (9, 45)) 43 rfl rfl) (by decide) rfl rfl ?_
  have hl3 : Ly tt cc s1 := by rw [hs2]; exact hl.wId (by decide)
  refine Q.run zm246 1 (i' := 18) (ls' := [some (.ref 121), some (.int x1), some (.int x2), some (.int x3)]) (st' := [.ref 121]) rfl ?_
  refine Q.map (A.gf (gI_of zm246 (e := (32, 3, .getfield 89, [9, 0])) rfl) (hl3.lt (a := 121) (by decide)) (hl3.T (a := 121) (p := (9, 45)) 43 rfl rfl) (by decide) rfl) ?_
  by_cases hc4 : (sI s1 121 0) ≤ 0
  · rw [if_pos hc4] at h
    refine Q.map (A.zT (gI_of zm246 (e := (35, 3, .ifCond .le 7, [22])) rfl) (decide_eq_true hc4)) ?_
    refine Q.run zm246 8 (i' := 30) (ls' := [some (.ref 121), some (.int x1), some (.int x2), some (.int x3)]) (st' := [.int x3, .int ((128 * x1) + x2), .int x1, .ref 121]) rfl ?_
    obtain ⟨r7, hc6, h⟩ := bu_so h
    have hq5 : Q 2 sio tt cc d 247 0 [some (.ref 121), some (.int x1), some (.int ((128 * x1) + x2)), some (.int x3), none, none, none, none] [] s1 (.inl (some (.int r7)), s1) := dt247 (by omega) hl3  hc6
    refine Q.callI (gC_vi zm246 (show zM246.2.2.2.2.2[30]? = some (52, 3, .invokevirtual 371, [0, 247, 3, 9]) from rfl) zm247 (hl3.lt (a := 121) (by decide)) (hl3.T (a := 121) (p := (9, 45)) 43 rfl rfl) rfl (show aCr 3 121 [.int x3, .int ((128 * x1) + x2), .int x1, .ref 121] 8 = some ([some (.ref 121), some (.int x1), some (.int ((128 * x1) + x2)), some (.int x3), none, none, none, none], []) from rfl)) hq5 ?_
    cases h
    exact Q.ret (A.ri zm246 (show zM246.2.2.2.2.2[31]? = some (55, 1, .ireturn, []) from rfl) rfl rfl) hl3
  · rw [if_neg hc4] at h
    refine Q.map (A.zF (gI_of zm246 (e := (35, 3, .ifCond .le 7, [22])) rfl) (fun q => hc4 (of_decide_eq_true q))) ?_
    refine Q.run zm246 2 (i' := 31) (ls' := [some (.ref 121), some (.int x1), some (.int x2), some (.int x3)]) (st' := [.int 0]) rfl ?_
    cases h
    exact Q.ret (A.ri zm246 (show zM246.2.2.2.2.2[31]? = some (55, 1, .ireturn, []) from rfl) rfl rfl) hl3
def dm246_13 (x1 : Int32) (x2 : Int32) (x3 : Int32) (s : aS) : Option (Int32 × aS) :=
  dm246_16 x1 x2 x3 1 s
set_option maxRecDepth 100000 in
theorem dt246_13 {sio : Bool} {tt : Nat} {cc : Nat → Nat → Int32} {d : Nat} (hd : 1 ≤ d) {x1 : Int32} {x2 : Int32} {x3 : Int32} {s : aS} (hl : Ly tt cc s) {o : Int32 × aS} (h : dm246_13  x1 x2 x3 s = some o) : Q 2 sio tt cc d 246 13 [some (.ref 121), some (.int x1), some (.int x2), some (.int x3)] [.ref 121] s (.inl (some (.int o.1)), o.2) := by
  unfold dm246_13 at h
  obtain ⟨d, rfl⟩ : ∃ e, d = e + 1 := ⟨d - 1, by omega⟩
  refine Q.run zm246 2 (i' := 16) (ls' := [some (.ref 121), some (.int x1), some (.int x2), some (.int x3)]) (st' := [.int 1, .ref 121]) rfl ?_
  exact dt246_16 hd hl  h
def dm246 (x1 : Int32) (x2 : Int32) (x3 : Int32) (s : aS) : Option (Int32 × aS) :=
  bu (dm225 x1 s) fun r3 =>
  if r3 = 0 then
    if x2 < 0 then
      dm246_13 x1 x2 x3 s
    else
      if aB x1 9 then
        if x2 < (sI s 127 (jN x1)) then
          dm246_16 x1 x2 x3 0 s
        else
          dm246_13 x1 x2 x3 s
      else none
  else
    dm246_13 x1 x2 x3 s
set_option maxRecDepth 100000 in
theorem dt246 {sio : Bool} {tt : Nat} {cc : Nat → Nat → Int32} {d : Nat} (hd : 1 ≤ d) {x1 : Int32} {x2 : Int32} {x3 : Int32} {s : aS} (hl : Ly tt cc s) {o : Int32 × aS} (h : dm246  x1 x2 x3 s = some o) : Q 2 sio tt cc d 246 0 [some (.ref 121), some (.int x1), some (.int x2), some (.int x3)] [] s (.inl (some (.int o.1)), o.2) := by
  unfold dm246 at h
  obtain ⟨d, rfl⟩ : ∃ e, d = e + 1 := ⟨d - 1, by omega⟩
  refine Q.run zm246 3 (i' := 3) (ls' := [some (.ref 121), some (.int x1), some (.int x2), some (.int x3)]) (st' := [.int x1, .ref 121, .ref 121]) rfl ?_
  obtain ⟨r3, hc2, h⟩ := bu_so h
  have hq1 : Q 2 sio tt cc d 225 0 [some (.ref 121), some (.int x1)] [] s (.inl (some (.int r3)), s) := dt225 (by omega) hl  hc2
  refine Q.callI (gC_vi zm246 (show zM246.2.2.2.2.2[3]? = some (3, 3, .invokevirtual 310, [0, 225, 1, 9]) from rfl) zm225 (hl.lt (a := 121) (by decide)) (hl.T (a := 121) (p := (9, 45)) 43 rfl rfl) rfl (show aCr 1 121 [.int x1, .ref 121, .ref 121] 2 = some ([some (.ref 121), some (.int x1)], [.ref 121]) from rfl)) hq1 ?_
  by_cases hc4 : r3 = 0
  · rw [if_pos hc4] at h
    refine Q.map (A.zF (gI_of zm246 (e := (6, 3, .ifCond .ne 17, [13])) rfl) (fun q => of_decide_eq_true q hc4)) ?_
    refine Q.run zm246 1 (i' := 6) (ls' := [some (.ref 121), some (.int x1), some (.int x2), some (.int x3)]) (st' := [.int x2, .ref 121]) rfl ?_
    by_cases hc5 : x2 < 0
    · rw [if_pos hc5] at h
      refine Q.map (A.zT (gI_of zm246 (e := (10, 3, .ifCond .lt 13, [13])) rfl) (decide_eq_true hc5)) ?_
      exact dt246_13 hd hl  h
    · rw [if_neg hc5] at h
      refine Q.map (A.zF (gI_of zm246 (e := (10, 3, .ifCond .lt 13, [13])) rfl) (fun q => hc5 (of_decide_eq_true q))) ?_
      refine Q.run zm246 2 (i' := 9) (ls' := [some (.ref 121), some (.int x1), some (.int x2), some (.int x3)]) (st' := [.ref 121, .int x2, .ref 121]) rfl ?_
      refine Q.map (A.gf (gI_of zm246 (e := (15, 3, .getfield 26, [9, 8])) rfl) (hl.lt (a := 121) (by decide)) (hl.T (a := 121) (p := (9, 45)) 43 rfl rfl) (by decide) (hl.R 28 rfl)) ?_
      refine Q.run zm246 1 (i' := 11) (ls' := [some (.ref 121), some (.int x1), some (.int x2), some (.int x3)]) (st' := [.int x1, .ref 127, .int x2, .ref 121]) rfl ?_
      obtain ⟨hc6, h⟩ := ite_so h
      refine Q.map (A.ia (gI_of zm246 (e := (19, 1, .iaload, [])) rfl) (hl.lt (a := 127) (by decide)) (hl.T (a := 127) (p := (100, 9)) 49 rfl rfl) hc6) ?_
      by_cases hc7 : x2 < (sI s 127 (jN x1))
      · rw [if_pos hc7] at h
        refine Q.map (A.bT (gI_of zm246 (e := (20, 3, .if_icmp .lt 7, [15])) rfl) (decide_eq_true hc7)) ?_
        refine Q.run zm246 1 (i' := 16) (ls' := [some (.ref 121), some (.int x1), some (.int x2), some (.int x3)]) (st' := [.int 0, .ref 121]) rfl ?_
        exact dt246_16 hd hl  h
      · rw [if_neg hc7] at h
        refine Q.map (A.bF (gI_of zm246 (e := (20, 3, .if_icmp .lt 7, [15])) rfl) (fun q => hc7 (of_decide_eq_true q))) ?_
        exact dt246_13 hd hl  h
  · rw [if_neg hc4] at h
    refine Q.map (A.zT (gI_of zm246 (e := (6, 3, .ifCond .ne 17, [13])) rfl) (decide_eq_true hc4)) ?_
    exact dt246_13 hd hl  h
/-! 165 FormulaTrees$Tree.hasLikeNode(LFormulaTrees$Tree;I)Z -/
set_option maxRecDepth 100000 in
theorem zm165 : zP[165]? = some zM165 := rfl
def dm165_57 (k37 : Nat → Nat → Int32 → Int32 → Int32 → aS → Option (Int32)) (b0 : Nat) (b1 : Nat) (x2 : Int32) (x4 : Int32) (y0 : Int32) (s : aS) : Option (Int32) :=
  k37 b0 b1 x2 y0 (x4 + 1) s
set_option maxRecDepth 100000 in
theorem dt165_57 {sio : Bool} {tt : Nat} {cc : Nat → Nat → Int32} {d : Nat} (hd : 2 ≤ d) {k37 : Nat → Nat → Int32 → Int32 → Int32 → aS → Option (Int32)} (hk37 : ∀ {b0 : Nat} {b1 : Nat} {x2 : Int32} {x3 : Int32} {x4 : Int32} {s : aS}, Ly tt cc s → aK s b0 3 → aK s b1 3 → ∀ {o : Int32}, k37 b0 b1 x2 x3 x4 s = some o → Q 1 sio tt cc d 165 37 [some (.ref b0), some (.ref b1), some (.int x2), some (.int x3), some (.int x4)] [] s (.inl (some (.int o)), s)) {b0 : Nat} {b1 : Nat} {x2 : Int32} {x4 : Int32} {y0 : Int32} {x3 : Int32} {s : aS} (hl : Ly tt cc s) (hk_b0 : aK s b0 3) (hk_b1 : aK s b1 3) {o : Int32} (h : dm165_57 k37 b0 b1 x2 x4 y0 s = some o) : Q 1 sio tt cc d 165 57 [some (.ref b0), some (.ref b1), some (.int x2), some (.int x3), some (.int x4)] [.int y0] s (.inl (some (.int o)), s) := by
  unfold dm165_57 at h
  obtain ⟨d, rfl⟩ : ∃ e, d = e + 1 := ⟨d - 1, by omega⟩
  refine Q.run zm165 3 (i' := 37) (ls' := [some (.ref b0), some (.ref b1), some (.int x2), some (.int y0), some (.int (x4 + 1))]) (st' := []) rfl ?_
  exact hk37 hl hk_b0 hk_b1 h
def dm165_32 (k15 : Nat → Nat → Int32 → Int32 → Int32 → aS → Option (Int32)) (b0 : Nat) (b1 : Nat) (x2 : Int32) (x4 : Int32) (y0 : Int32) (s : aS) : Option (Int32) :=
  k15 b0 b1 x2 y0 (x4 + 1) s
set_option maxRecDepth 100000 in
theorem dt165_32 {sio : Bool} {tt : Nat} {cc : Nat → Nat → Int32} {d : Nat} (hd : 2 ≤ d) {k15 : Nat → Nat → Int32 → Int32 → Int32 → aS → Option (Int32)} (hk15 : ∀ {b0 : Nat} {b1 : Nat} {x2 : Int32} {x3 : Int32} {x4 : Int32} {s : aS}, Ly tt cc s → aK s b0 3 → aK s b1 3 → ∀ {o : Int32}, k15 b0 b1 x2 x3 x4 s = some o → Q 1 sio tt cc d 165 15 [some (.ref b0), some (.ref b1), some (.int x2), some (.int x3), some (.int x4)] [] s (.inl (some (.int o)), s)) {b0 : Nat} {b1 : Nat} {x2 : Int32} {x4 : Int32} {y0 : Int32} {x3 : Int32} {s : aS} (hl : Ly tt cc s) (hk_b0 : aK s b0 3) (hk_b1 : aK s b1 3) {o : Int32} (h : dm165_32 k15 b0 b1 x2 x4 y0 s = some o) : Q 1 sio tt cc d 165 32 [some (.ref b0), some (.ref b1), some (.int x2), some (.int x3), some (.int x4)] [.int y0] s (.inl (some (.int o)), s) := by
  unfold dm165_32 at h
  obtain ⟨d, rfl⟩ : ∃ e, d = e + 1 := ⟨d - 1, by omega⟩
  refine Q.run zm165 3 (i' := 15) (ls' := [some (.ref b0), some (.ref b1), some (.int x2), some (.int y0), some (.int (x4 + 1))]) (st' := []) rfl ?_
  exact hk15 hl hk_b0 hk_b1 h
def dm165_37 : Nat → Nat → Nat → Int32 → Int32 → Int32 → aS → Option (Int32)
  | 0, _, _, _, _, _, _ => none
  | n + 1, b0, b1, x2, x3, x4, s =>
    bu (dm57 b0 x2 10 s) fun r3 =>
    if r3 ≤ x4 then
      if x3 = 0 ∨ x3 = 1 then
        some x3
      else none
    else
      if x3 = 0 then
        if x3 = 0 ∨ x3 = 1 then
          some x3
        else none
      else
        bu (dm144 b0 x2 x4 s) fun r10 =>
        bu (dm144 b1 x2 x4 s) fun r13 =>
        if r10 = r13 then
          dm165_57 (dm165_37 n) b0 b1 x2 x4 1 s
        else
          dm165_57 (dm165_37 n) b0 b1 x2 x4 0 s
set_option maxRecDepth 100000 in
theorem dt165_37 {sio : Bool} {tt : Nat} {cc : Nat → Nat → Int32} {d : Nat} (hd : 2 ≤ d) : ∀ (n : Nat) {b0 : Nat} {b1 : Nat} {x2 : Int32} {x3 : Int32} {x4 : Int32} {s : aS} (_ : Ly tt cc s) (_ : aK s b0 3) (_ : aK s b1 3) {o : Int32} (_ : dm165_37  n b0 b1 x2 x3 x4 s = some o), Q 1 sio tt cc d 165 37 [some (.ref b0), some (.ref b1), some (.int x2), some (.int x3), some (.int x4)] [] s (.inl (some (.int o)), s) := by
  obtain ⟨d, rfl⟩ : ∃ e, d = e + 1 := ⟨d - 1, by omega⟩
  intro n
  induction n with
  | zero => intro b0 b1 x2 x3 x4 s hl hk_b0 hk_b1 o h; rw [dm165_37] at h; cases h
  | succ n ih =>
    intro b0 b1 x2 x3 x4 s hl hk_b0 hk_b1 o h
    rw [dm165_37] at h
    refine Q.run zm165 4 (i' := 41) (ls' := [some (.ref b0), some (.ref b1), some (.int x2), some (.int x3), some (.int x4)]) (st' := [.int 10, .int x2, .ref b0, .int x4]) rfl ?_
    obtain ⟨r3, hc2, h⟩ := bu_so h
    have hq1 : Q 1 sio tt cc d 57 0 [some (.ref b0), some (.int x2), some (.int 10), none] [] s (.inl (some (.int r3)), s) := dt57 (by omega) hl hk_b0 hc2
    refine Q.callI (gC_vi zm165 (show zM165.2.2.2.2.2[41]? = some (75, 3, .invokevirtual 28, [0, 57, 2, 3]) from rfl) zm57 hk_b0.1 (hl.tr hk_b0).1 rfl (show aCr 2 b0 [.int 10, .int x2, .ref b0, .int x4] 4 = some ([some (.ref b0), some (.int x2), some (.int 10), none], [.int x4]) from rfl)) hq1 ?_
    by_cases hc4 : r3 ≤ x4
    · rw [if_pos hc4] at h
      refine Q.map (A.bT (gI_of zm165 (e := (78, 3, .if_icmp .ge 36, [60])) rfl) (decide_eq_true hc4)) ?_
      refine Q.run zm165 1 (i' := 61) (ls' := [some (.ref b0), some (.ref b1), some (.int x2), some (.int x3), some (.int x4)]) (st' := [.int x3]) rfl ?_
      obtain ⟨hc5, h⟩ := ite_so h
      cases h
      exact Q.ret (A.ri zm165 (show zM165.2.2.2.2.2[61]? = some (115, 1, .ireturn, []) from rfl) rfl (fit1 hc5)) hl
    · rw [if_neg hc4] at h
      refine Q.map (A.bF (gI_of zm165 (e := (78, 3, .if_icmp .ge 36, [60])) rfl) (fun q => hc4 (of_decide_eq_true q))) ?_
      refine Q.run zm165 1 (i' := 44) (ls' := [some (.ref b0), some (.ref b1), some (.int x2), some (.int x3), some (.int x4)]) (st' := [.int x3]) rfl ?_
      by_cases hc6 : x3 = 0
      · rw [if_pos hc6] at h
        refine Q.map (A.zT (gI_of zm165 (e := (82, 3, .ifCond .eq 32, [60])) rfl) (decide_eq_true hc6)) ?_
        refine Q.run zm165 1 (i' := 61) (ls' := [some (.ref b0), some (.ref b1), some (.int x2), some (.int x3), some (.int x4)]) (st' := [.int x3]) rfl ?_
        obtain ⟨hc7, h⟩ := ite_so h
        cases h
        exact Q.ret (A.ri zm165 (show zM165.2.2.2.2.2[61]? = some (115, 1, .ireturn, []) from rfl) rfl (fit1 hc7)) hl
      · rw [if_neg hc6] at h
        refine Q.map (A.zF (gI_of zm165 (e := (82, 3, .ifCond .eq 32, [60])) rfl) (fun q => hc6 (of_decide_eq_true q))) ?_
        refine Q.run zm165 3 (i' := 48) (ls' := [some (.ref b0), some (.ref b1), some (.int x2), some (.int x3), some (.int x4)]) (st' := [.int x4, .int x2, .ref b0]) rfl ?_
        obtain ⟨r10, hc9, h⟩ := bu_so h
        have hq8 : Q 1 sio tt cc d 144 0 [some (.ref b0), some (.int x2), some (.int x4), none] [] s (.inl (some (.int r10)), s) := dt144 (by omega) hl hk_b0 hc9
        refine Q.callI (gC_vi zm165 (show zM165.2.2.2.2.2[48]? = some (89, 3, .invokevirtual 71, [0, 144, 2, 3]) from rfl) zm144 hk_b0.1 (hl.tr hk_b0).1 rfl (show aCr 2 b0 [.int x4, .int x2, .ref b0] 4 = some ([some (.ref b0), some (.int x2), some (.int x4), none], []) from rfl)) hq8 ?_
        refine Q.run zm165 3 (i' := 52) (ls' := [some (.ref b0), some (.ref b1), some (.int x2), some (.int x3), some (.int x4)]) (st' := [.int x4, .int x2, .ref b1, .int r10]) rfl ?_
        obtain ⟨r13, hc12, h⟩ := bu_so h
        have hq11 : Q 1 sio tt cc d 144 0 [some (.ref b1), some (.int x2), some (.int x4), none] [] s (.inl (some (.int r13)), s) := dt144 (by omega) hl hk_b1 hc12
        refine Q.callI (gC_vi zm165 (show zM165.2.2.2.2.2[52]? = some (96, 3, .invokevirtual 71, [0, 144, 2, 3]) from rfl) zm144 hk_b1.1 (hl.tr hk_b1).1 rfl (show aCr 2 b1 [.int x4, .int x2, .ref b1, .int r10] 4 = some ([some (.ref b1), some (.int x2), some (.int x4), none], [.int r10]) from rfl)) hq11 ?_
        by_cases hc14 : r10 = r13
        · rw [if_pos hc14] at h
          refine Q.map (A.bF (gI_of zm165 (e := (99, 3, .if_icmp .ne 7, [56])) rfl) (fun q => of_decide_eq_true q hc14)) ?_
          refine Q.run zm165 2 (i' := 57) (ls' := [some (.ref b0), some (.ref b1), some (.int x2), some (.int x3), some (.int x4)]) (st' := [.int 1]) rfl ?_
          exact dt165_57 hd ih hl hk_b0 hk_b1 h
        · rw [if_neg hc14] at h
          refine Q.map (A.bT (gI_of zm165 (e := (99, 3, .if_icmp .ne 7, [56])) rfl) (decide_eq_true hc14)) ?_
          refine Q.run zm165 1 (i' := 57) (ls' := [some (.ref b0), some (.ref b1), some (.int x2), some (.int x3), some (.int x4)]) (st' := [.int 0]) rfl ?_
          exact dt165_57 hd ih hl hk_b0 hk_b1 h
def dm165_35 (b0 : Nat) (b1 : Nat) (x2 : Int32) (x3 : Int32) (s : aS) : Option (Int32) :=
  dm165_37 5000 b0 b1 x2 x3 0 s
set_option maxRecDepth 100000 in
theorem dt165_35 {sio : Bool} {tt : Nat} {cc : Nat → Nat → Int32} {d : Nat} (hd : 2 ≤ d) {b0 : Nat} {b1 : Nat} {x2 : Int32} {x3 : Int32} {x4 : Int32} {s : aS} (hl : Ly tt cc s) (hk_b0 : aK s b0 3) (hk_b1 : aK s b1 3) {o : Int32} (h : dm165_35  b0 b1 x2 x3 s = some o) : Q 1 sio tt cc d 165 35 [some (.ref b0), some (.ref b1), some (.int x2), some (.int x3), some (.int x4)] [] s (.inl (some (.int o)), s) := by
  unfold dm165_35 at h
  obtain ⟨d, rfl⟩ : ∃ e, d = e + 1 := ⟨d - 1, by omega⟩
  refine Q.run zm165 2 (i' := 37) (ls' := [some (.ref b0), some (.ref b1), some (.int x2), some (.int x3), some (.int 0)]) (st' := []) rfl ?_
  exact dt165_37 hd _ hl hk_b0 hk_b1 h
def dm165_15 : Nat → Nat → Nat → Int32 → Int32 → Int32 → aS → Option (Int32)
  | 0, _, _, _, _, _, _ => none
  | n + 1, b0, b1, x2, x3, x4, s =>
    if 9 ≤ x4 then
      dm165_35 b0 b1 x2 x3 s
    else
      if x3 = 0 then
        dm165_35 b0 b1 x2 x3 s
      else
        bu (dm57 b0 x2 x4 s) fun r5 =>
        bu (dm57 b1 x2 x4 s) fun r8 =>
        if r5 = r8 then
          dm165_32 (dm165_15 n) b0 b1 x2 x4 1 s
        else
          dm165_32 (dm165_15 n) b0 b1 x2 x4 0 s
set_option maxRecDepth 100000 in
theorem dt165_15 {sio : Bool} {tt : Nat} {cc : Nat → Nat → Int32} {d : Nat} (hd : 2 ≤ d) : ∀ (n : Nat) {b0 : Nat} {b1 : Nat} {x2 : Int32} {x3 : Int32} {x4 : Int32} {s : aS} (_ : Ly tt cc s) (_ : aK s b0 3) (_ : aK s b1 3) {o : Int32} (_ : dm165_15  n b0 b1 x2 x3 x4 s = some o), Q 1 sio tt cc d 165 15 [some (.ref b0), some (.ref b1), some (.int x2), some (.int x3), some (.int x4)] [] s (.inl (some (.int o)), s) := by
  obtain ⟨d, rfl⟩ : ∃ e, d = e + 1 := ⟨d - 1, by omega⟩
  intro n
  induction n with
  | zero => intro b0 b1 x2 x3 x4 s hl hk_b0 hk_b1 o h; rw [dm165_15] at h; cases h
  | succ n ih =>
    intro b0 b1 x2 x3 x4 s hl hk_b0 hk_b1 o h
    rw [dm165_15] at h
    refine Q.run zm165 2 (i' := 17) (ls' := [some (.ref b0), some (.ref b1), some (.int x2), some (.int x3), some (.int x4)]) (st' := [.int 9, .int x4]) rfl ?_
    by_cases hc1 : 9 ≤ x4
    · rw [if_pos hc1] at h
      refine Q.map (A.bT (gI_of zm165 (e := (30, 3, .if_icmp .ge 36, [35])) rfl) (decide_eq_true hc1)) ?_
      exact dt165_35 hd hl hk_b0 hk_b1 h
    · rw [if_neg hc1] at h
      refine Q.map (A.bF (gI_of zm165 (e := (30, 3, .if_icmp .ge 36, [35])) rfl) (fun q => hc1 (of_decide_eq_true q))) ?_
      refine Q.run zm165 1 (i' := 19) (ls' := [some (.ref b0), some (.ref b1), some (.int x2), some (.int x3), some (.int x4)]) (st' := [.int x3]) rfl ?_
      by_cases hc2 : x3 = 0
      · rw [if_pos hc2] at h
        refine Q.map (A.zT (gI_of zm165 (e := (34, 3, .ifCond .eq 32, [35])) rfl) (decide_eq_true hc2)) ?_
        exact dt165_35 hd hl hk_b0 hk_b1 h
      · rw [if_neg hc2] at h
        refine Q.map (A.zF (gI_of zm165 (e := (34, 3, .ifCond .eq 32, [35])) rfl) (fun q => hc2 (of_decide_eq_true q))) ?_
        refine Q.run zm165 3 (i' := 23) (ls' := [some (.ref b0), some (.ref b1), some (.int x2), some (.int x3), some (.int x4)]) (st' := [.int x4, .int x2, .ref b0]) rfl ?_
        obtain ⟨r5, hc4, h⟩ := bu_so h
        have hq3 : Q 1 sio tt cc d 57 0 [some (.ref b0), some (.int x2), some (.int x4), none] [] s (.inl (some (.int r5)), s) := dt57 (by omega) hl hk_b0 hc4
        refine Q.callI (gC_vi zm165 (show zM165.2.2.2.2.2[23]? = some (41, 3, .invokevirtual 28, [0, 57, 2, 3]) from rfl) zm57 hk_b0.1 (hl.tr hk_b0).1 rfl (show aCr 2 b0 [.int x4, .int x2, .ref b0] 4 = some ([some (.ref b0), some (.int x2), some (.int x4), none], []) from rfl)) hq3 ?_
        refine Q.run zm165 3 (i' := 27) (ls' := [some (.ref b0), some (.ref b1), some (.int x2), some (.int x3), some (.int x4)]) (st' := [.int x4, .int x2, .ref b1, .int r5]) rfl ?_
        obtain ⟨r8, hc7, h⟩ := bu_so h
        have hq6 : Q 1 sio tt cc d 57 0 [some (.ref b1), some (.int x2), some (.int x4), none] [] s (.inl (some (.int r8)), s) := dt57 (by omega) hl hk_b1 hc7
        refine Q.callI (gC_vi zm165 (show zM165.2.2.2.2.2[27]? = some (48, 3, .invokevirtual 28, [0, 57, 2, 3]) from rfl) zm57 hk_b1.1 (hl.tr hk_b1).1 rfl (show aCr 2 b1 [.int x4, .int x2, .ref b1, .int r5] 4 = some ([some (.ref b1), some (.int x2), some (.int x4), none], [.int r5]) from rfl)) hq6 ?_
        by_cases hc9 : r5 = r8
        · rw [if_pos hc9] at h
          refine Q.map (A.bF (gI_of zm165 (e := (51, 3, .if_icmp .ne 7, [31])) rfl) (fun q => of_decide_eq_true q hc9)) ?_
          refine Q.run zm165 2 (i' := 32) (ls' := [some (.ref b0), some (.ref b1), some (.int x2), some (.int x3), some (.int x4)]) (st' := [.int 1]) rfl ?_
          exact dt165_32 hd ih hl hk_b0 hk_b1 h
        · rw [if_neg hc9] at h
          refine Q.map (A.bT (gI_of zm165 (e := (51, 3, .if_icmp .ne 7, [31])) rfl) (decide_eq_true hc9)) ?_
          refine Q.run zm165 1 (i' := 32) (ls' := [some (.ref b0), some (.ref b1), some (.int x2), some (.int x3), some (.int x4)]) (st' := [.int 0]) rfl ?_
          exact dt165_32 hd ih hl hk_b0 hk_b1 h
def dm165_12 (b0 : Nat) (b1 : Nat) (x2 : Int32) (y0 : Int32) (s : aS) : Option (Int32) :=
  dm165_15 5000 b0 b1 x2 y0 0 s
set_option maxRecDepth 100000 in
theorem dt165_12 {sio : Bool} {tt : Nat} {cc : Nat → Nat → Int32} {d : Nat} (hd : 2 ≤ d) {b0 : Nat} {b1 : Nat} {x2 : Int32} {y0 : Int32} {s : aS} (hl : Ly tt cc s) (hk_b0 : aK s b0 3) (hk_b1 : aK s b1 3) {o : Int32} (h : dm165_12  b0 b1 x2 y0 s = some o) : Q 1 sio tt cc d 165 12 [some (.ref b0), some (.ref b1), some (.int x2), none, none] [.int y0] s (.inl (some (.int o)), s) := by
  unfold dm165_12 at h
  obtain ⟨d, rfl⟩ : ∃ e, d = e + 1 := ⟨d - 1, by omega⟩
  refine Q.run zm165 3 (i' := 15) (ls' := [some (.ref b0), some (.ref b1), some (.int x2), some (.int y0), some (.int 0)]) (st' := []) rfl ?_
  exact dt165_15 hd _ hl hk_b0 hk_b1 h
def dm165 (b0 : Nat) (b1 : Nat) (x2 : Int32) (s : aS) : Option (Int32) :=
  bu (dm57 b0 x2 10 s) fun r3 =>
  bu (dm57 b1 x2 10 s) fun r6 =>
  if r3 = r6 then
    dm165_12 b0 b1 x2 1 s
  else
    dm165_12 b0 b1 x2 0 s
set_option maxRecDepth 100000 in
theorem dt165 {sio : Bool} {tt : Nat} {cc : Nat → Nat → Int32} {d : Nat} (hd : 2 ≤ d) {b0 : Nat} {b1 : Nat} {x2 : Int32} {s : aS} (hl : Ly tt cc s) (hk_b0 : aK s b0 3) (hk_b1 : aK s b1 3) {o : Int32} (h : dm165  b0 b1 x2 s = some o) : Q 1 sio tt cc d 165 0 [some (.ref b0), some (.ref b1), some (.int x2), none, none] [] s (.inl (some (.int o)), s) := by
  unfold dm165 at h
  obtain ⟨d, rfl⟩ : ∃ e, d = e + 1 := ⟨d - 1, by omega⟩
  refine Q.run zm165 3 (i' := 3) (ls' := [some (.ref b0), some (.ref b1), some (.int x2), none, none]) (st' := [.int 10, .int x2, .ref b0]) rfl ?_
  obtain ⟨r3, hc2, h⟩ := bu_so h
  have hq1 : Q 1 sio tt cc d 57 0 [some (.ref b0), some (.int x2), some (.int 10), none] [] s (.inl (some (.int r3)), s) := dt57 (by omega) hl hk_b0 hc2
  refine Q.callI (gC_vi zm165 (show zM165.2.2.2.2.2[3]? = some (4, 3, .invokevirtual 28, [0, 57, 2, 3]) from rfl) zm57 hk_b0.1 (hl.tr hk_b0).1 rfl (show aCr 2 b0 [.int 10, .int x2, .ref b0] 4 = some ([some (.ref b0), some (.int x2), some (.int 10), none], []) from rfl)) hq1 ?_
  refine Q.run zm165 3 (i' := 7) (ls' := [some (.ref b0), some (.ref b1), some (.int x2), none, none]) (st' := [.int 10, .int x2, .ref b1, .int r3]) rfl ?_
  obtain ⟨r6, hc5, h⟩ := bu_so h
  have hq4 : Q 1 sio tt cc d 57 0 [some (.ref b1), some (.int x2), some (.int 10), none] [] s (.inl (some (.int r6)), s) := dt57 (by omega) hl hk_b1 hc5
  refine Q.callI (gC_vi zm165 (show zM165.2.2.2.2.2[7]? = some (11, 3, .invokevirtual 28, [0, 57, 2, 3]) from rfl) zm57 hk_b1.1 (hl.tr hk_b1).1 rfl (show aCr 2 b1 [.int 10, .int x2, .ref b1, .int r3] 4 = some ([some (.ref b1), some (.int x2), some (.int 10), none], [.int r3]) from rfl)) hq4 ?_
  by_cases hc7 : r3 = r6
  · rw [if_pos hc7] at h
    refine Q.map (A.bF (gI_of zm165 (e := (14, 3, .if_icmp .ne 7, [11])) rfl) (fun q => of_decide_eq_true q hc7)) ?_
    refine Q.run zm165 2 (i' := 12) (ls' := [some (.ref b0), some (.ref b1), some (.int x2), none, none]) (st' := [.int 1]) rfl ?_
    exact dt165_12 hd hl hk_b0 hk_b1 h
  · rw [if_neg hc7] at h
    refine Q.map (A.bT (gI_of zm165 (e := (14, 3, .if_icmp .ne 7, [11])) rfl) (decide_eq_true hc7)) ?_
    refine Q.run zm165 1 (i' := 12) (ls' := [some (.ref b0), some (.ref b1), some (.int x2), none, none]) (st' := [.int 0]) rfl ?_
    exact dt165_12 hd hl hk_b0 hk_b1 h
/-! 164 FormulaTrees$Tree.isLike(LFormulaTrees$Tree;)Z -/
set_option maxRecDepth 100000 in
theorem zm164 : zP[164]? = some zM164 := rfl
def dm164_11 : Nat → Nat → Nat → Int32 → Int32 → aS → Option (Int32)
  | 0, _, _, _, _, _ => none
  | n + 1, b0, b1, x2, x3, s =>
    if (sI s b0 2) ≤ x3 then
      if x2 = 0 ∨ x2 = 1 then
        some x2
      else none
    else
      if x2 = 0 then
        if x2 = 0 ∨ x2 = 1 then
          some x2
        else none
      else
        bu (dm165 b0 b1 x3 s) fun r7 =>
        dm164_11 n b0 b1 r7 (x3 + 1) s
set_option maxRecDepth 100000 in
theorem dt164_11 {sio : Bool} {tt : Nat} {cc : Nat → Nat → Int32} {d : Nat} (hd : 3 ≤ d) : ∀ (n : Nat) {b0 : Nat} {b1 : Nat} {x2 : Int32} {x3 : Int32} {s : aS} (_ : Ly tt cc s) (_ : aK s b0 3) (_ : aK s b1 3) {o : Int32} (_ : dm164_11  n b0 b1 x2 x3 s = some o), Q 1 sio tt cc d 164 11 [some (.ref b0), some (.ref b1), some (.int x2), some (.int x3)] [] s (.inl (some (.int o)), s) := by
  obtain ⟨d, rfl⟩ : ∃ e, d = e + 1 := ⟨d - 1, by omega⟩
  intro n
  induction n with
  | zero => intro b0 b1 x2 x3 s hl hk_b0 hk_b1 o h; rw [dm164_11] at h; cases h
  | succ n ih =>
    intro b0 b1 x2 x3 s hl hk_b0 hk_b1 o h
    rw [dm164_11] at h
    refine Q.run zm164 2 (i' := 13) (ls' := [some (.ref b0), some (.ref b1), some (.int x2), some (.int x3)]) (st' := [.ref b0, .int x3]) rfl ?_
    refine Q.map (A.gf (gI_of zm164 (e := (21, 3, .getfield 24, [3, 2])) rfl) hk_b0.1 (hl.tr hk_b0).1 (by decide) rfl) ?_
    by_cases hc1 : (sI s b0 2) ≤ x3
    · rw [if_pos hc1] at h
      refine Q.map (A.bT (gI_of zm164 (e := (24, 3, .if_icmp .ge 20, [24])) rfl) (decide_eq_true hc1)) ?_
      refine Q.run zm164 1 (i' := 25) (ls' := [some (.ref b0), some (.ref b1), some (.int x2), some (.int x3)]) (st' := [.int x2]) rfl ?_
      obtain ⟨hc2, h⟩ := ite_so h
      cases h
      exact Q.ret (A.ri zm164 (show zM164.2.2.2.2.2[25]? = some (45, 1, .ireturn, []) from rfl) rfl (fit1 hc2)) hl
    · rw [if_neg hc1] at h
      refine Q.map (A.bF (gI_of zm164 (e := (24, 3, .if_icmp .ge 20, [24])) rfl) (fun q => hc1 (of_decide_eq_true q))) ?_
      refine Q.run zm164 1 (i' := 16) (ls' := [some (.ref b0), some (.ref b1), some (.int x2), some (.int x3)]) (st' := [.int x2]) rfl ?_
      by_cases hc3 : x2 = 0
      · rw [if_pos hc3] at h
        refine Q.map (A.zT (gI_of zm164 (e := (28, 3, .ifCond .eq 16, [24])) rfl) (decide_eq_true hc3)) ?_
        refine Q.run zm164 1 (i' := 25) (ls' := [some (.ref b0), some (.ref b1), some (.int x2), some (.int x3)]) (st' := [.int x2]) rfl ?_
        obtain ⟨hc4, h⟩ := ite_so h
        cases h
        exact Q.ret (A.ri zm164 (show zM164.2.2.2.2.2[25]? = some (45, 1, .ireturn, []) from rfl) rfl (fit1 hc4)) hl
      · rw [if_neg hc3] at h
        refine Q.map (A.zF (gI_of zm164 (e := (28, 3, .ifCond .eq 16, [24])) rfl) (fun q => hc3 (of_decide_eq_true q))) ?_
        refine Q.run zm164 3 (i' := 20) (ls' := [some (.ref b0), some (.ref b1), some (.int x2), some (.int x3)]) (st' := [.int x3, .ref b1, .ref b0]) rfl ?_
        obtain ⟨r7, hc6, h⟩ := bu_so h
        have hq5 : Q 1 sio tt cc d 165 0 [some (.ref b0), some (.ref b1), some (.int x3), none, none] [] s (.inl (some (.int r7)), s) := dt165 (by omega) hl hk_b0 hk_b1 hc6
        refine Q.callI (gC_vi zm164 (show zM164.2.2.2.2.2[20]? = some (34, 3, .invokevirtual 67, [0, 165, 2, 3]) from rfl) zm165 hk_b0.1 (hl.tr hk_b0).1 rfl (show aCr 2 b0 [.int x3, .ref b1, .ref b0] 5 = some ([some (.ref b0), some (.ref b1), some (.int x3), none, none], []) from rfl)) hq5 ?_
        refine Q.run zm164 3 (i' := 11) (ls' := [some (.ref b0), some (.ref b1), some (.int r7), some (.int (x3 + 1))]) (st' := []) rfl ?_
        exact ih hl hk_b0 hk_b1 h
def dm164_8 (b0 : Nat) (b1 : Nat) (y0 : Int32) (s : aS) : Option (Int32) :=
  dm164_11 5000 b0 b1 y0 0 s
set_option maxRecDepth 100000 in
theorem dt164_8 {sio : Bool} {tt : Nat} {cc : Nat → Nat → Int32} {d : Nat} (hd : 3 ≤ d) {b0 : Nat} {b1 : Nat} {y0 : Int32} {s : aS} (hl : Ly tt cc s) (hk_b0 : aK s b0 3) (hk_b1 : aK s b1 3) {o : Int32} (h : dm164_8  b0 b1 y0 s = some o) : Q 1 sio tt cc d 164 8 [some (.ref b0), some (.ref b1), none, none] [.int y0] s (.inl (some (.int o)), s) := by
  unfold dm164_8 at h
  obtain ⟨d, rfl⟩ : ∃ e, d = e + 1 := ⟨d - 1, by omega⟩
  refine Q.run zm164 3 (i' := 11) (ls' := [some (.ref b0), some (.ref b1), some (.int y0), some (.int 0)]) (st' := []) rfl ?_
  exact dt164_11 hd _ hl hk_b0 hk_b1 h
def dm164 (b0 : Nat) (b1 : Nat) (s : aS) : Option (Int32) :=
  if (sI s b0 2) = (sI s b1 2) then
    dm164_8 b0 b1 1 s
  else
    dm164_8 b0 b1 0 s
set_option maxRecDepth 100000 in
theorem dt164 {sio : Bool} {tt : Nat} {cc : Nat → Nat → Int32} {d : Nat} (hd : 3 ≤ d) {b0 : Nat} {b1 : Nat} {s : aS} (hl : Ly tt cc s) (hk_b0 : aK s b0 3) (hk_b1 : aK s b1 3) {o : Int32} (h : dm164  b0 b1 s = some o) : Q 1 sio tt cc d 164 0 [some (.ref b0), some (.ref b1), none, none] [] s (.inl (some (.int o)), s) := by
  unfold dm164 at h
  obtain ⟨d, rfl⟩ : ∃ e, d = e + 1 := ⟨d - 1, by omega⟩
  refine Q.run zm164 1 (i' := 1) (ls' := [some (.ref b0), some (.ref b1), none, none]) (st' := [.ref b0]) rfl ?_
  refine Q.map (A.gf (gI_of zm164 (e := (1, 3, .getfield 24, [3, 2])) rfl) hk_b0.1 (hl.tr hk_b0).1 (by decide) rfl) ?_
  refine Q.run zm164 1 (i' := 3) (ls' := [some (.ref b0), some (.ref b1), none, none]) (st' := [.ref b1, .int (sI s b0 2)]) rfl ?_
  refine Q.map (A.gf (gI_of zm164 (e := (5, 3, .getfield 24, [3, 2])) rfl) hk_b1.1 (hl.tr hk_b1).1 (by decide) rfl) ?_
  by_cases hc1 : (sI s b0 2) = (sI s b1 2)
  · rw [if_pos hc1] at h
    refine Q.map (A.bF (gI_of zm164 (e := (8, 3, .if_icmp .ne 7, [7])) rfl) (fun q => of_decide_eq_true q hc1)) ?_
    refine Q.run zm164 2 (i' := 8) (ls' := [some (.ref b0), some (.ref b1), none, none]) (st' := [.int 1]) rfl ?_
    exact dt164_8 hd hl hk_b0 hk_b1 h
  · rw [if_neg hc1] at h
    refine Q.map (A.bT (gI_of zm164 (e := (8, 3, .if_icmp .ne 7, [7])) rfl) (decide_eq_true hc1)) ?_
    refine Q.run zm164 1 (i' := 8) (ls' := [some (.ref b0), some (.ref b1), none, none]) (st' := [.int 0]) rfl ?_
    exact dt164_8 hd hl hk_b0 hk_b1 h
/-! 163 FormulaTrees.same(II)Z -/
set_option maxRecDepth 100000 in
theorem zm163 : zP[163]? = some zM163 := rfl
def dm163_12 (s : aS) : Option (xZ × aS) :=
  some (.inr 2, nw s 82 0)
set_option maxRecDepth 100000 in
theorem dt163_12 {sio : Bool} {tt : Nat} {cc : Nat → Nat → Int32} {d : Nat} (hd : 9 ≤ d) {x1 : Int32} {x2 : Int32} {g3 : Option Value} {g4 : Option Value} {s : aS} (hl : Ly tt cc s) {o : xZ × aS} (h : dm163_12  s = some o) : Q 1 sio tt cc d 163 12 [some (.ref 78), some (.int x1), some (.int x2), g3, g4] [] s o := by
  unfold dm163_12 at h
  obtain ⟨d, rfl⟩ : ∃ e, d = e + 1 := ⟨d - 1, by omega⟩
  cases h
  exact Q.t zm163 (show zM163.2.2.2.2.2[12]? = some (22, 3, .new 100, [202]) from rfl) rfl rfl hl.gL (by omega) hl
def dm163 (x1 : Int32) (x2 : Int32) (s : aS) : Option (xZ × aS) :=
  bu (dm54 x1 s) fun r3 =>
  vN r3 (
    bu (dm54 x2 s) fun r9 =>
    vN r9 (
      dm163_12 s
    ) fun b11 =>
      if aK s b11 3 then
        dm163_12 s
      else none
  ) fun b5 =>
    if aK s b5 3 then
      bu (dm54 x2 s) fun r15 =>
      vN r15 (
        dm163_12 s
      ) fun b17 =>
        if aK s b17 3 then
          bu (dm164 b5 b17 s) fun r21 =>
          if r21 = 0 ∨ r21 = 1 then
            some (.inl (some (.int r21)), s)
          else none
        else none
    else none
set_option maxRecDepth 100000 in
theorem dt163 {sio : Bool} {tt : Nat} {cc : Nat → Nat → Int32} {d : Nat} (hd : 9 ≤ d) {x1 : Int32} {x2 : Int32} {s : aS} (hl : Ly tt cc s) {o : xZ × aS} (h : dm163  x1 x2 s = some o) : Q 1 sio tt cc d 163 0 [some (.ref 78), some (.int x1), some (.int x2), none, none] [] s o := by
  unfold dm163 at h
  obtain ⟨d, rfl⟩ : ∃ e, d = e + 1 := ⟨d - 1, by omega⟩
  refine Q.run zm163 2 (i' := 2) (ls' := [some (.ref 78), some (.int x1), some (.int x2), none, none]) (st' := [.int x1, .ref 78]) rfl ?_
  obtain ⟨r3, hc2, h⟩ := bu_so h
  have hq1 : Q 1 sio tt cc d 54 0 [some (.ref 78), some (.int x1)] [] s (.inl (some r3), s) := dt54 (by omega) hl  hc2
  rcases vN_so h with ⟨hv4, h9⟩ | ⟨b5, hv4, h9⟩
  · clear h
    subst hv4
    have h := h9
    refine Q.callR (gC_vi zm163 (show zM163.2.2.2.2.2[2]? = some (2, 3, .invokevirtual 114, [0, 54, 1, 0]) from rfl) zm54 (hl.lt (a := 78) (by decide)) (hl.T (a := 78) (p := (0, 7)) 0 rfl rfl) rfl (show aCr 1 78 [.int x1, .ref 78] 2 = some ([some (.ref 78), some (.int x1)], []) from rfl)) hq1 ?_
    refine Q.run zm163 3 (i' := 6) (ls' := [some (.ref 78), some (.int x1), some (.int x2), some (.null), none]) (st' := [.int x2, .ref 78]) rfl ?_
    obtain ⟨r9, hc8, h⟩ := bu_so h
    have hq7 : Q 1 sio tt cc d 54 0 [some (.ref 78), some (.int x2)] [] s (.inl (some r9), s) := dt54 (by omega) hl  hc8
    rcases vN_so h with ⟨hv10, h9⟩ | ⟨b11, hv10, h9⟩
    · clear h
      subst hv10
      have h := h9
      refine Q.callR (gC_vi zm163 (show zM163.2.2.2.2.2[6]? = some (8, 3, .invokevirtual 114, [0, 54, 1, 0]) from rfl) zm54 (hl.lt (a := 78) (by decide)) (hl.T (a := 78) (p := (0, 7)) 0 rfl rfl) rfl (show aCr 1 78 [.int x2, .ref 78] 2 = some ([some (.ref 78), some (.int x2)], []) from rfl)) hq7 ?_
      refine Q.run zm163 3 (i' := 12) (ls' := [some (.ref 78), some (.int x1), some (.int x2), some (.null), some (.null)]) (st' := []) rfl ?_
      exact dt163_12 hd hl  h
    · clear h
      subst hv10
      have h := h9
      obtain ⟨hr12, h⟩ := ite_so h
      refine Q.callR (gC_vi zm163 (show zM163.2.2.2.2.2[6]? = some (8, 3, .invokevirtual 114, [0, 54, 1, 0]) from rfl) zm54 (hl.lt (a := 78) (by decide)) (hl.T (a := 78) (p := (0, 7)) 0 rfl rfl) rfl (show aCr 1 78 [.int x2, .ref 78] 2 = some ([some (.ref 78), some (.int x2)], []) from rfl)) hq7 ?_
      refine Q.run zm163 3 (i' := 12) (ls' := [some (.ref 78), some (.int x1), some (.int x2), some (.null), some (.ref b11)]) (st' := []) rfl ?_
      exact dt163_12 hd hl  h
  · clear h
    subst hv4
    have h := h9
    obtain ⟨hr6, h⟩ := ite_so h
    refine Q.callR (gC_vi zm163 (show zM163.2.2.2.2.2[2]? = some (2, 3, .invokevirtual 114, [0, 54, 1, 0]) from rfl) zm54 (hl.lt (a := 78) (by decide)) (hl.T (a := 78) (p := (0, 7)) 0 rfl rfl) rfl (show aCr 1 78 [.int x1, .ref 78] 2 = some ([some (.ref 78), some (.int x1)], []) from rfl)) hq1 ?_
    refine Q.run zm163 3 (i' := 6) (ls' := [some (.ref 78), some (.int x1), some (.int x2), some (.ref b5), none]) (st' := [.int x2, .ref 78]) rfl ?_
    obtain ⟨r15, hc14, h⟩ := bu_so h
    have hq13 : Q 1 sio tt cc d 54 0 [some (.ref 78), some (.int x2)] [] s (.inl (some r15), s) := dt54 (by omega) hl  hc14
    rcases vN_so h with ⟨hv16, h9⟩ | ⟨b17, hv16, h9⟩
    · clear h
      subst hv16
      have h := h9
      refine Q.callR (gC_vi zm163 (show zM163.2.2.2.2.2[6]? = some (8, 3, .invokevirtual 114, [0, 54, 1, 0]) from rfl) zm54 (hl.lt (a := 78) (by decide)) (hl.T (a := 78) (p := (0, 7)) 0 rfl rfl) rfl (show aCr 1 78 [.int x2, .ref 78] 2 = some ([some (.ref 78), some (.int x2)], []) from rfl)) hq13 ?_
      refine Q.run zm163 5 (i' := 12) (ls' := [some (.ref 78), some (.int x1), some (.int x2), some (.ref b5), some (.null)]) (st' := []) rfl ?_
      exact dt163_12 hd hl  h
    · clear h
      subst hv16
      have h := h9
      obtain ⟨hr18, h⟩ := ite_so h
      refine Q.callR (gC_vi zm163 (show zM163.2.2.2.2.2[6]? = some (8, 3, .invokevirtual 114, [0, 54, 1, 0]) from rfl) zm54 (hl.lt (a := 78) (by decide)) (hl.T (a := 78) (p := (0, 7)) 0 rfl rfl) rfl (show aCr 1 78 [.int x2, .ref 78] 2 = some ([some (.ref 78), some (.int x2)], []) from rfl)) hq13 ?_
      refine Q.run zm163 7 (i' := 19) (ls' := [some (.ref 78), some (.int x1), some (.int x2), some (.ref b5), some (.ref b17)]) (st' := [.ref b17, .ref b5]) rfl ?_
      obtain ⟨r21, hc20, h⟩ := bu_so h
      have hq19 : Q 1 sio tt cc d 164 0 [some (.ref b5), some (.ref b17), none, none] [] s (.inl (some (.int r21)), s) := dt164 (by omega) hl hr6 hr18 hc20
      refine Q.callI (gC_vi zm163 (show zM163.2.2.2.2.2[19]? = some (35, 3, .invokevirtual 177, [0, 164, 1, 3]) from rfl) zm164 hr6.1 (hl.tr hr6).1 rfl (show aCr 1 b5 [.ref b17, .ref b5] 4 = some ([some (.ref b5), some (.ref b17), none, none], []) from rfl)) hq19 ?_
      obtain ⟨hc22, h⟩ := ite_so h
      cases h
      exact Q.ret (A.ri zm163 (show zM163.2.2.2.2.2[20]? = some (38, 1, .ireturn, []) from rfl) rfl (fit1 hc22)) hl
/-! 13 FormulaTreesLaw.same(LFormulaTrees;II[J)I -/
set_option maxRecDepth 100000 in
theorem zm13 : zP[13]? = some zM13 := rfl
def dm13_10 (y1 : Int32) (y2 : Int64) (s : aS) : Option (Int32 × aS) :=
  if aB y1 1 then
    nx (wJ s 148 (jN y1) y2) fun s2 =>
    some (0, s2)
  else none
set_option maxRecDepth 100000 in
theorem dt13_10 {sio : Bool} {tt : Nat} {cc : Nat → Nat → Int32} {d : Nat} (hd : 10 ≤ d) {y1 : Int32} {y2 : Int64} {x1 : Int32} {x2 : Int32} {s : aS} (hl : Ly tt cc s) {o : Int32 × aS} (h : dm13_10  y1 y2 s = some o) : Q 1 sio tt cc d 13 10 [some (.ref 78), some (.int x1), some (.int x2), some (.ref 148), none] [.long y2, .int y1, .ref 148] s (.inl (some (.int o.1)), o.2) := by
  unfold dm13_10 at h
  obtain ⟨d, rfl⟩ : ∃ e, d = e + 1 := ⟨d - 1, by omega⟩
  obtain ⟨hc1, h⟩ := ite_so h
  obtain ⟨s2, hs3, h⟩ := nx_so h
  refine Q.lS hs3 rfl (gI_of zm13 (e := (16, 1, .lastore, [])) rfl) (hl.lt (a := 148) (by decide)) (by decide) (hl.T (a := 148) (p := (104, 1)) 70 rfl rfl) hc1 ?_
  have hl4 : Ly tt cc s2 := by rw [hs3]; exact hl.wJd
  refine Q.run zm13 2 (i' := 16) (ls' := [some (.ref 78), some (.int x1), some (.int x2), some (.ref 148), none]) (st' := [.int 0]) rfl ?_
  cases h
  exact Q.ret (A.ri zm13 (show zM13.2.2.2.2.2[16]? = some (25, 1, .ireturn, []) from rfl) rfl rfl) hl4
def dm13 (x1 : Int32) (x2 : Int32) (s : aS) : Option (Int32 × aS) :=
  bv (dm163 x1 x2 s) fun z4 s3 =>
  zN z4 (fun v5 =>
    vI v5 fun r7 =>
    if r7 = 0 then
      dm13_10 0 0 s3
    else
      dm13_10 0 1 s3
  ) fun e6 =>
    if e6 = 2 then
      some (1, s3)
    else
      none
set_option maxRecDepth 100000 in
theorem dt13 {sio : Bool} {tt : Nat} {cc : Nat → Nat → Int32} {d : Nat} (hd : 10 ≤ d) {x1 : Int32} {x2 : Int32} {s : aS} (hl : Ly tt cc s) {o : Int32 × aS} (h : dm13  x1 x2 s = some o) : Q 1 sio tt cc d 13 0 [some (.ref 78), some (.int x1), some (.int x2), some (.ref 148), none] [] s (.inl (some (.int o.1)), o.2) := by
  unfold dm13 at h
  obtain ⟨d, rfl⟩ : ∃ e, d = e + 1 := ⟨d - 1, by omega⟩
  refine Q.run zm13 5 (i' := 5) (ls' := [some (.ref 78), some (.int x1), some (.int x2), some (.ref 148), none]) (st' := [.int x2, .int x1, .ref 78, .int 0, .ref 148]) rfl ?_
  obtain ⟨z4, s3, hc2, h⟩ := bv_so h
  have hq1 : Q 1 sio tt cc d 163 0 [some (.ref 78), some (.int x1), some (.int x2), none, none] [] s (z4, s3) := dt163 (by omega) hl  hc2
  rcases zN_so h with ⟨v5, hz10, h8⟩ | ⟨e6, hz10, h8⟩
  · clear h
    subst hz10
    have h := h8
    obtain ⟨r7, hv8, h9⟩ := vI_so h
    clear h
    subst hv8
    have h := h9
    refine Q.callI (gC_vi zm13 (show zM13.2.2.2.2.2[5]? = some (5, 3, .invokevirtual 58, [0, 163, 2, 0]) from rfl) zm163 (hl.lt (a := 78) (by decide)) (hl.T (a := 78) (p := (0, 7)) 0 rfl rfl) rfl (show aCr 2 78 [.int x2, .int x1, .ref 78, .int 0, .ref 148] 5 = some ([some (.ref 78), some (.int x1), some (.int x2), none, none], [.int 0, .ref 148]) from rfl)) hq1 ?_
    by_cases hc9 : r7 = 0
    · rw [if_pos hc9] at h
      refine Q.map (A.zT (gI_of zm13 (e := (8, 3, .ifCond .eq 7, [9])) rfl) (decide_eq_true hc9)) ?_
      refine Q.run zm13 1 (i' := 10) (ls' := [some (.ref 78), some (.int x1), some (.int x2), some (.ref 148), none]) (st' := [.long 0, .int 0, .ref 148]) rfl ?_
      exact dt13_10 hd hq1.1  h
    · rw [if_neg hc9] at h
      refine Q.map (A.zF (gI_of zm13 (e := (8, 3, .ifCond .eq 7, [9])) rfl) (fun q => hc9 (of_decide_eq_true q))) ?_
      refine Q.run zm13 2 (i' := 10) (ls' := [some (.ref 78), some (.int x1), some (.int x2), some (.ref 148), none]) (st' := [.long 1, .int 0, .ref 148]) rfl ?_
      exact dt13_10 hd hq1.1  h
  · clear h
    subst hz10
    have h := h8
    by_cases hc11 : e6 = 2
    · rw [if_pos hc11] at h
      subst hc11
      refine Q.hc (gC_vi zm13 (show zM13.2.2.2.2.2[5]? = some (5, 3, .invokevirtual 58, [0, 163, 2, 0]) from rfl) zm163 (hl.lt (a := 78) (by decide)) (hl.T (a := 78) (p := (0, 7)) 0 rfl rfl) rfl (show aCr 2 78 [.int x2, .int x1, .ref 78, .int 0, .ref 148] 5 = some ([some (.ref 78), some (.int x1), some (.int x2), none, none], [.int 0, .ref 148]) from rfl)) hq1 (t := 12) rfl ?_
      refine Q.run zm13 2 (i' := 14) (ls' := [some (.ref 78), some (.int x1), some (.int x2), some (.ref 148), some (.ref (sL s3 - 1))]) (st' := [.int 1]) rfl ?_
      cases h
      exact Q.ret (A.ri zm13 (show zM13.2.2.2.2.2[14]? = some (23, 1, .ireturn, []) from rfl) rfl rfl) hq1.1
    · rw [if_neg hc11] at h
      cases h
/-! 248 FormulaTreesModel.same(II)Z -/
set_option maxRecDepth 100000 in
theorem zm248 : zP[248]? = some zM248 := rfl
def dm248_104 (k31 : Int32 → Int32 → Int32 → Int32 → aS → Option (Int32 × aS)) (x1 : Int32) (x2 : Int32) (x3 : Int32) (x4 : Int32) (s : aS) : Option (Int32 × aS) :=
  k31 x1 x2 x3 (x4 + 1) s
set_option maxRecDepth 100000 in
theorem dt248_104 {sio : Bool} {tt : Nat} {cc : Nat → Nat → Int32} {d : Nat} (hd : 1 ≤ d) {k31 : Int32 → Int32 → Int32 → Int32 → aS → Option (Int32 × aS)} (hk31 : ∀ {x1 : Int32} {x2 : Int32} {x3 : Int32} {x4 : Int32} {g5 : Option Value} {g6 : Option Value} {g7 : Option Value} {s : aS}, Ly tt cc s → ∀ {o : Int32 × aS}, k31 x1 x2 x3 x4 s = some o → Q 2 sio tt cc d 248 31 [some (.ref 121), some (.int x1), some (.int x2), some (.int x3), some (.int x4), g5, g6, g7] [] s (.inl (some (.int o.1)), o.2)) {x1 : Int32} {x2 : Int32} {x3 : Int32} {x4 : Int32} {x5 : Int32} {x6 : Int32} {x7 : Int32} {s : aS} (hl : Ly tt cc s) {o : Int32 × aS} (h : dm248_104 k31 x1 x2 x3 x4 s = some o) : Q 2 sio tt cc d 248 104 [some (.ref 121), some (.int x1), some (.int x2), some (.int x3), some (.int x4), some (.int x5), some (.int x6), some (.int x7)] [] s (.inl (some (.int o.1)), o.2) := by
  unfold dm248_104 at h
  obtain ⟨d, rfl⟩ : ∃ e, d = e + 1 := ⟨d - 1, by omega⟩
  refine Q.run zm248 2 (i' := 31) (ls' := [some (.ref 121), some (.int x1), some (.int x2), some (.int x3), some (.int (x4 + 1)), some (.int x5), some (.int x6), some (.int x7)]) (st' := []) rfl ?_
  exact hk31 hl  h
def dm248_101 (k31 : Int32 → Int32 → Int32 → Int32 → aS → Option (Int32 × aS)) (k73 : Int32 → Int32 → Int32 → Int32 → Int32 → Int32 → Int32 → aS → Option (Int32 × aS)) (x1 : Int32) (x2 : Int32) (x4 : Int32) (x5 : Int32) (x6 : Int32) (x7 : Int32) (y0 : Int32) (s : aS) : Option (Int32 × aS) :=
  k73 x1 x2 y0 x4 x5 x6 (x7 + 1) s
set_option maxRecDepth 100000 in
theorem dt248_101 {sio : Bool} {tt : Nat} {cc : Nat → Nat → Int32} {d : Nat} (hd : 1 ≤ d) {k31 : Int32 → Int32 → Int32 → Int32 → aS → Option (Int32 × aS)} (hk31 : ∀ {x1 : Int32} {x2 : Int32} {x3 : Int32} {x4 : Int32} {g5 : Option Value} {g6 : Option Value} {g7 : Option Value} {s : aS}, Ly tt cc s → ∀ {o : Int32 × aS}, k31 x1 x2 x3 x4 s = some o → Q 2 sio tt cc d 248 31 [some (.ref 121), some (.int x1), some (.int x2), some (.int x3), some (.int x4), g5, g6, g7] [] s (.inl (some (.int o.1)), o.2)) {k73 : Int32 → Int32 → Int32 → Int32 → Int32 → Int32 → Int32 → aS → Option (Int32 × aS)} (hk73 : ∀ {x1 : Int32} {x2 : Int32} {x3 : Int32} {x4 : Int32} {x5 : Int32} {x6 : Int32} {x7 : Int32} {s : aS}, Ly tt cc s → ∀ {o : Int32 × aS}, k73 x1 x2 x3 x4 x5 x6 x7 s = some o → Q 2 sio tt cc d 248 73 [some (.ref 121), some (.int x1), some (.int x2), some (.int x3), some (.int x4), some (.int x5), some (.int x6), some (.int x7)] [] s (.inl (some (.int o.1)), o.2)) {x1 : Int32} {x2 : Int32} {x4 : Int32} {x5 : Int32} {x6 : Int32} {x7 : Int32} {y0 : Int32} {x3 : Int32} {s : aS} (hl : Ly tt cc s) {o : Int32 × aS} (h : dm248_101 k31 k73 x1 x2 x4 x5 x6 x7 y0 s = some o) : Q 2 sio tt cc d 248 101 [some (.ref 121), some (.int x1), some (.int x2), some (.int x3), some (.int x4), some (.int x5), some (.int x6), some (.int x7)] [.int y0] s (.inl (some (.int o.1)), o.2) := by
  unfold dm248_101 at h
  obtain ⟨d, rfl⟩ : ∃ e, d = e + 1 := ⟨d - 1, by omega⟩
  refine Q.run zm248 3 (i' := 73) (ls' := [some (.ref 121), some (.int x1), some (.int x2), some (.int y0), some (.int x4), some (.int x5), some (.int x6), some (.int (x7 + 1))]) (st' := []) rfl ?_
  exact hk73 hl  h
def dm248_68 (k31 : Int32 → Int32 → Int32 → Int32 → aS → Option (Int32 × aS)) (k51 : Int32 → Int32 → Int32 → Int32 → Int32 → Int32 → Int32 → aS → Option (Int32 × aS)) (x1 : Int32) (x2 : Int32) (x4 : Int32) (x5 : Int32) (x6 : Int32) (x7 : Int32) (y0 : Int32) (s : aS) : Option (Int32 × aS) :=
  k51 x1 x2 y0 x4 x5 x6 (x7 + 1) s
set_option maxRecDepth 100000 in
theorem dt248_68 {sio : Bool} {tt : Nat} {cc : Nat → Nat → Int32} {d : Nat} (hd : 1 ≤ d) {k31 : Int32 → Int32 → Int32 → Int32 → aS → Option (Int32 × aS)} (hk31 : ∀ {x1 : Int32} {x2 : Int32} {x3 : Int32} {x4 : Int32} {g5 : Option Value} {g6 : Option Value} {g7 : Option Value} {s : aS}, Ly tt cc s → ∀ {o : Int32 × aS}, k31 x1 x2 x3 x4 s = some o → Q 2 sio tt cc d 248 31 [some (.ref 121), some (.int x1), some (.int x2), some (.int x3), some (.int x4), g5, g6, g7] [] s (.inl (some (.int o.1)), o.2)) {k51 : Int32 → Int32 → Int32 → Int32 → Int32 → Int32 → Int32 → aS → Option (Int32 × aS)} (hk51 : ∀ {x1 : Int32} {x2 : Int32} {x3 : Int32} {x4 : Int32} {x5 : Int32} {x6 : Int32} {x7 : Int32} {s : aS}, Ly tt cc s → ∀ {o : Int32 × aS}, k51 x1 x2 x3 x4 x5 x6 x7 s = some o → Q 2 sio tt cc d 248 51 [some (.ref 121), some (.int x1), some (.int x2), some (.int x3), some (.int x4), some (.int x5), some (.int x6), some (.int x7)] [] s (.inl (some (.int o.1)), o.2)) {x1 : Int32} {x2 : Int32} {x4 : Int32} {x5 : Int32} {x6 : Int32} {x7 : Int32} {y0 : Int32} {x3 : Int32} {s : aS} (hl : Ly tt cc s) {o : Int32 × aS} (h : dm248_68 k31 k51 x1 x2 x4 x5 x6 x7 y0 s = some o) : Q 2 sio tt cc d 248 68 [some (.ref 121), some (.int x1), some (.int x2), some (.int x3), some (.int x4), some (.int x5), some (.int x6), some (.int x7)] [.int y0] s (.inl (some (.int o.1)), o.2) := by
  unfold dm248_68 at h
  obtain ⟨d, rfl⟩ : ∃ e, d = e + 1 := ⟨d - 1, by omega⟩
  refine Q.run zm248 3 (i' := 51) (ls' := [some (.ref 121), some (.int x1), some (.int x2), some (.int y0), some (.int x4), some (.int x5), some (.int x6), some (.int (x7 + 1))]) (st' := []) rfl ?_
  exact hk51 hl  h
def dm248_87 (k31 : Int32 → Int32 → Int32 → Int32 → aS → Option (Int32 × aS)) (k73 : Int32 → Int32 → Int32 → Int32 → Int32 → Int32 → Int32 → aS → Option (Int32 × aS)) (x1 : Int32) (x2 : Int32) (x4 : Int32) (x5 : Int32) (x6 : Int32) (x7 : Int32) (s : aS) : Option (Int32 × aS) :=
  bu (dm247 x1 x5 x7 s) fun r3 =>
  bu (dm247 x2 x6 x7 s) fun r6 =>
  if r3 = r6 then
    dm248_101 k31 k73 x1 x2 x4 x5 x6 x7 1 s
  else
    dm248_101 k31 k73 x1 x2 x4 x5 x6 x7 0 s
set_option maxRecDepth 100000 in
theorem dt248_87 {sio : Bool} {tt : Nat} {cc : Nat → Nat → Int32} {d : Nat} (hd : 1 ≤ d) {k31 : Int32 → Int32 → Int32 → Int32 → aS → Option (Int32 × aS)} (hk31 : ∀ {x1 : Int32} {x2 : Int32} {x3 : Int32} {x4 : Int32} {g5 : Option Value} {g6 : Option Value} {g7 : Option Value} {s : aS}, Ly tt cc s → ∀ {o : Int32 × aS}, k31 x1 x2 x3 x4 s = some o → Q 2 sio tt cc d 248 31 [some (.ref 121), some (.int x1), some (.int x2), some (.int x3), some (.int x4), g5, g6, g7] [] s (.inl (some (.int o.1)), o.2)) {k73 : Int32 → Int32 → Int32 → Int32 → Int32 → Int32 → Int32 → aS → Option (Int32 × aS)} (hk73 : ∀ {x1 : Int32} {x2 : Int32} {x3 : Int32} {x4 : Int32} {x5 : Int32} {x6 : Int32} {x7 : Int32} {s : aS}, Ly tt cc s → ∀ {o : Int32 × aS}, k73 x1 x2 x3 x4 x5 x6 x7 s = some o → Q 2 sio tt cc d 248 73 [some (.ref 121), some (.int x1), some (.int x2), some (.int x3), some (.int x4), some (.int x5), some (.int x6), some (.int x7)] [] s (.inl (some (.int o.1)), o.2)) {x1 : Int32} {x2 : Int32} {x4 : Int32} {x5 : Int32} {x6 : Int32} {x7 : Int32} {x3 : Int32} {s : aS} (hl : Ly tt cc s) {o : Int32 × aS} (h : dm248_87 k31 k73 x1 x2 x4 x5 x6 x7 s = some o) : Q 2 sio tt cc d 248 87 [some (.ref 121), some (.int x1), some (.int x2), some (.int x3), some (.int x4), some (.int x5), some (.int x6), some (.int x7)] [] s (.inl (some (.int o.1)), o.2) := by
  unfold dm248_87 at h
  obtain ⟨d, rfl⟩ : ∃ e, d = e + 1 := ⟨d - 1, by omega⟩
  refine Q.run zm248 4 (i' := 91) (ls' := [some (.ref 121), some (.int x1), some (.int x2), some (.int x3), some (.int x4), some (.int x5), some (.int x6), some (.int x7)]) (st' := [.int x7, .int x5, .int x1, .ref 121]) rfl ?_
  obtain ⟨r3, hc2, h⟩ := bu_so h
  have hq1 : Q 2 sio tt cc d 247 0 [some (.ref 121), some (.int x1), some (.int x5), some (.int x7), none, none, none, none] [] s (.inl (some (.int r3)), s) := dt247 (by omega) hl  hc2
  refine Q.callI (gC_vi zm248 (show zM248.2.2.2.2.2[91]? = some (167, 3, .invokevirtual 371, [0, 247, 3, 9]) from rfl) zm247 (hl.lt (a := 121) (by decide)) (hl.T (a := 121) (p := (9, 45)) 43 rfl rfl) rfl (show aCr 3 121 [.int x7, .int x5, .int x1, .ref 121] 8 = some ([some (.ref 121), some (.int x1), some (.int x5), some (.int x7), none, none, none, none], []) from rfl)) hq1 ?_
  refine Q.run zm248 4 (i' := 96) (ls' := [some (.ref 121), some (.int x1), some (.int x2), some (.int x3), some (.int x4), some (.int x5), some (.int x6), some (.int x7)]) (st' := [.int x7, .int x6, .int x2, .ref 121, .int r3]) rfl ?_
  obtain ⟨r6, hc5, h⟩ := bu_so h
  have hq4 : Q 2 sio tt cc d 247 0 [some (.ref 121), some (.int x2), some (.int x6), some (.int x7), none, none, none, none] [] s (.inl (some (.int r6)), s) := dt247 (by omega) hl  hc5
  refine Q.callI (gC_vi zm248 (show zM248.2.2.2.2.2[96]? = some (176, 3, .invokevirtual 371, [0, 247, 3, 9]) from rfl) zm247 (hl.lt (a := 121) (by decide)) (hl.T (a := 121) (p := (9, 45)) 43 rfl rfl) rfl (show aCr 3 121 [.int x7, .int x6, .int x2, .ref 121, .int r3] 8 = some ([some (.ref 121), some (.int x2), some (.int x6), some (.int x7), none, none, none, none], [.int r3]) from rfl)) hq4 ?_
  by_cases hc7 : r3 = r6
  · rw [if_pos hc7] at h
    refine Q.map (A.bF (gI_of zm248 (e := (179, 3, .if_icmp .ne 7, [100])) rfl) (fun q => of_decide_eq_true q hc7)) ?_
    refine Q.run zm248 2 (i' := 101) (ls' := [some (.ref 121), some (.int x1), some (.int x2), some (.int x3), some (.int x4), some (.int x5), some (.int x6), some (.int x7)]) (st' := [.int 1]) rfl ?_
    exact dt248_101 hd hk31 hk73 hl  h
  · rw [if_neg hc7] at h
    refine Q.map (A.bT (gI_of zm248 (e := (179, 3, .if_icmp .ne 7, [100])) rfl) (decide_eq_true hc7)) ?_
    refine Q.run zm248 1 (i' := 101) (ls' := [some (.ref 121), some (.int x1), some (.int x2), some (.int x3), some (.int x4), some (.int x5), some (.int x6), some (.int x7)]) (st' := [.int 0]) rfl ?_
    exact dt248_101 hd hk31 hk73 hl  h
def dm248_67 (k31 : Int32 → Int32 → Int32 → Int32 → aS → Option (Int32 × aS)) (k51 : Int32 → Int32 → Int32 → Int32 → Int32 → Int32 → Int32 → aS → Option (Int32 × aS)) (x1 : Int32) (x2 : Int32) (x4 : Int32) (x5 : Int32) (x6 : Int32) (x7 : Int32) (s : aS) : Option (Int32 × aS) :=
  dm248_68 k31 k51 x1 x2 x4 x5 x6 x7 0 s
set_option maxRecDepth 100000 in
theorem dt248_67 {sio : Bool} {tt : Nat} {cc : Nat → Nat → Int32} {d : Nat} (hd : 1 ≤ d) {k31 : Int32 → Int32 → Int32 → Int32 → aS → Option (Int32 × aS)} (hk31 : ∀ {x1 : Int32} {x2 : Int32} {x3 : Int32} {x4 : Int32} {g5 : Option Value} {g6 : Option Value} {g7 : Option Value} {s : aS}, Ly tt cc s → ∀ {o : Int32 × aS}, k31 x1 x2 x3 x4 s = some o → Q 2 sio tt cc d 248 31 [some (.ref 121), some (.int x1), some (.int x2), some (.int x3), some (.int x4), g5, g6, g7] [] s (.inl (some (.int o.1)), o.2)) {k51 : Int32 → Int32 → Int32 → Int32 → Int32 → Int32 → Int32 → aS → Option (Int32 × aS)} (hk51 : ∀ {x1 : Int32} {x2 : Int32} {x3 : Int32} {x4 : Int32} {x5 : Int32} {x6 : Int32} {x7 : Int32} {s : aS}, Ly tt cc s → ∀ {o : Int32 × aS}, k51 x1 x2 x3 x4 x5 x6 x7 s = some o → Q 2 sio tt cc d 248 51 [some (.ref 121), some (.int x1), some (.int x2), some (.int x3), some (.int x4), some (.int x5), some (.int x6), some (.int x7)] [] s (.inl (some (.int o.1)), o.2)) {x1 : Int32} {x2 : Int32} {x4 : Int32} {x5 : Int32} {x6 : Int32} {x7 : Int32} {x3 : Int32} {s : aS} (hl : Ly tt cc s) {o : Int32 × aS} (h : dm248_67 k31 k51 x1 x2 x4 x5 x6 x7 s = some o) : Q 2 sio tt cc d 248 67 [some (.ref 121), some (.int x1), some (.int x2), some (.int x3), some (.int x4), some (.int x5), some (.int x6), some (.int x7)] [] s (.inl (some (.int o.1)), o.2) := by
  unfold dm248_67 at h
  obtain ⟨d, rfl⟩ : ∃ e, d = e + 1 := ⟨d - 1, by omega⟩
  refine Q.run zm248 1 (i' := 68) (ls' := [some (.ref 121), some (.int x1), some (.int x2), some (.int x3), some (.int x4), some (.int x5), some (.int x6), some (.int x7)]) (st' := [.int 0]) rfl ?_
  exact dt248_68 hd hk31 hk51 hl  h
def dm248_73 (k31 : Int32 → Int32 → Int32 → Int32 → aS → Option (Int32 × aS)) : Nat → Int32 → Int32 → Int32 → Int32 → Int32 → Int32 → Int32 → aS → Option (Int32 × aS)
  | 0, _, _, _, _, _, _, _, _ => none
  | n + 1, x1, x2, x3, x4, x5, x6, x7, s =>
    if x3 = 0 then
      dm248_104 k31 x1 x2 x3 x4 s
    else
      bu (dm247 x1 x5 x7 s) fun r4 =>
      if 0 ≤ r4 then
        dm248_87 k31 (dm248_73 k31 n) x1 x2 x4 x5 x6 x7 s
      else
        bu (dm247 x2 x6 x7 s) fun r8 =>
        if r8 < 0 then
          dm248_104 k31 x1 x2 x3 x4 s
        else
          dm248_87 k31 (dm248_73 k31 n) x1 x2 x4 x5 x6 x7 s
set_option maxRecDepth 100000 in
theorem dt248_73 {sio : Bool} {tt : Nat} {cc : Nat → Nat → Int32} {d : Nat} (hd : 1 ≤ d) {k31 : Int32 → Int32 → Int32 → Int32 → aS → Option (Int32 × aS)} (hk31 : ∀ {x1 : Int32} {x2 : Int32} {x3 : Int32} {x4 : Int32} {g5 : Option Value} {g6 : Option Value} {g7 : Option Value} {s : aS}, Ly tt cc s → ∀ {o : Int32 × aS}, k31 x1 x2 x3 x4 s = some o → Q 2 sio tt cc d 248 31 [some (.ref 121), some (.int x1), some (.int x2), some (.int x3), some (.int x4), g5, g6, g7] [] s (.inl (some (.int o.1)), o.2)) : ∀ (n : Nat) {x1 : Int32} {x2 : Int32} {x3 : Int32} {x4 : Int32} {x5 : Int32} {x6 : Int32} {x7 : Int32} {s : aS} (_ : Ly tt cc s) {o : Int32 × aS} (_ : dm248_73 k31 n x1 x2 x3 x4 x5 x6 x7 s = some o), Q 2 sio tt cc d 248 73 [some (.ref 121), some (.int x1), some (.int x2), some (.int x3), some (.int x4), some (.int x5), some (.int x6), some (.int x7)] [] s (.inl (some (.int o.1)), o.2) := by
  obtain ⟨d, rfl⟩ : ∃ e, d = e + 1 := ⟨d - 1, by omega⟩
  intro n
  induction n with
  | zero => intro x1 x2 x3 x4 x5 x6 x7 s hl o h; rw [dm248_73] at h; cases h
  | succ n ih =>
    intro x1 x2 x3 x4 x5 x6 x7 s hl o h
    rw [dm248_73] at h
    refine Q.run zm248 1 (i' := 74) (ls' := [some (.ref 121), some (.int x1), some (.int x2), some (.int x3), some (.int x4), some (.int x5), some (.int x6), some (.int x7)]) (st' := [.int x3]) rfl ?_
    by_cases hc1 : x3 = 0
    · rw [if_pos hc1] at h
      refine Q.map (A.zT (gI_of zm248 (e := (134, 3, .ifCond .eq 60, [104])) rfl) (decide_eq_true hc1)) ?_
      exact dt248_104 hd hk31 hl  h
    · rw [if_neg hc1] at h
      refine Q.map (A.zF (gI_of zm248 (e := (134, 3, .ifCond .eq 60, [104])) rfl) (fun q => hc1 (of_decide_eq_true q))) ?_
      refine Q.run zm248 4 (i' := 79) (ls' := [some (.ref 121), some (.int x1), some (.int x2), some (.int x3), some (.int x4), some (.int x5), some (.int x6), some (.int x7)]) (st' := [.int x7, .int x5, .int x1, .ref 121]) rfl ?_
      obtain ⟨r4, hc3, h⟩ := bu_so h
      have hq2 : Q 2 sio tt cc d 247 0 [some (.ref 121), some (.int x1), some (.int x5), some (.int x7), none, none, none, none] [] s (.inl (some (.int r4)), s) := dt247 (by omega) hl  hc3
      refine Q.callI (gC_vi zm248 (show zM248.2.2.2.2.2[79]? = some (143, 3, .invokevirtual 371, [0, 247, 3, 9]) from rfl) zm247 (hl.lt (a := 121) (by decide)) (hl.T (a := 121) (p := (9, 45)) 43 rfl rfl) rfl (show aCr 3 121 [.int x7, .int x5, .int x1, .ref 121] 8 = some ([some (.ref 121), some (.int x1), some (.int x5), some (.int x7), none, none, none, none], []) from rfl)) hq2 ?_
      by_cases hc5 : 0 ≤ r4
      · rw [if_pos hc5] at h
        refine Q.map (A.zT (gI_of zm248 (e := (146, 3, .ifCond .ge 15, [87])) rfl) (decide_eq_true hc5)) ?_
        exact dt248_87 hd hk31 ih hl  h
      · rw [if_neg hc5] at h
        refine Q.map (A.zF (gI_of zm248 (e := (146, 3, .ifCond .ge 15, [87])) rfl) (fun q => hc5 (of_decide_eq_true q))) ?_
        refine Q.run zm248 4 (i' := 85) (ls' := [some (.ref 121), some (.int x1), some (.int x2), some (.int x3), some (.int x4), some (.int x5), some (.int x6), some (.int x7)]) (st' := [.int x7, .int x6, .int x2, .ref 121]) rfl ?_
        obtain ⟨r8, hc7, h⟩ := bu_so h
        have hq6 : Q 2 sio tt cc d 247 0 [some (.ref 121), some (.int x2), some (.int x6), some (.int x7), none, none, none, none] [] s (.inl (some (.int r8)), s) := dt247 (by omega) hl  hc7
        refine Q.callI (gC_vi zm248 (show zM248.2.2.2.2.2[85]? = some (155, 3, .invokevirtual 371, [0, 247, 3, 9]) from rfl) zm247 (hl.lt (a := 121) (by decide)) (hl.T (a := 121) (p := (9, 45)) 43 rfl rfl) rfl (show aCr 3 121 [.int x7, .int x6, .int x2, .ref 121] 8 = some ([some (.ref 121), some (.int x2), some (.int x6), some (.int x7), none, none, none, none], []) from rfl)) hq6 ?_
        by_cases hc9 : r8 < 0
        · rw [if_pos hc9] at h
          refine Q.map (A.zT (gI_of zm248 (e := (158, 3, .ifCond .lt 36, [104])) rfl) (decide_eq_true hc9)) ?_
          exact dt248_104 hd hk31 hl  h
        · rw [if_neg hc9] at h
          refine Q.map (A.zF (gI_of zm248 (e := (158, 3, .ifCond .lt 36, [104])) rfl) (fun q => hc9 (of_decide_eq_true q))) ?_
          exact dt248_87 hd hk31 ih hl  h
def dm248_51 (k31 : Int32 → Int32 → Int32 → Int32 → aS → Option (Int32 × aS)) : Nat → Int32 → Int32 → Int32 → Int32 → Int32 → Int32 → Int32 → aS → Option (Int32 × aS)
  | 0, _, _, _, _, _, _, _, _ => none
  | n + 1, x1, x2, x3, x4, x5, x6, x7, s =>
    if 9 ≤ x7 then
      dm248_73 k31 5000 x1 x2 x3 x4 x5 x6 0 s
    else
      if x3 = 0 then
        dm248_67 k31 (dm248_51 k31 n) x1 x2 x4 x5 x6 x7 s
      else
        bu (dm245 x5 x7 s) fun r5 =>
        bu (dm245 x6 x7 s) fun r8 =>
        if r5 = r8 then
          dm248_68 k31 (dm248_51 k31 n) x1 x2 x4 x5 x6 x7 1 s
        else
          dm248_67 k31 (dm248_51 k31 n) x1 x2 x4 x5 x6 x7 s
set_option maxRecDepth 100000 in
theorem dt248_51 {sio : Bool} {tt : Nat} {cc : Nat → Nat → Int32} {d : Nat} (hd : 1 ≤ d) {k31 : Int32 → Int32 → Int32 → Int32 → aS → Option (Int32 × aS)} (hk31 : ∀ {x1 : Int32} {x2 : Int32} {x3 : Int32} {x4 : Int32} {g5 : Option Value} {g6 : Option Value} {g7 : Option Value} {s : aS}, Ly tt cc s → ∀ {o : Int32 × aS}, k31 x1 x2 x3 x4 s = some o → Q 2 sio tt cc d 248 31 [some (.ref 121), some (.int x1), some (.int x2), some (.int x3), some (.int x4), g5, g6, g7] [] s (.inl (some (.int o.1)), o.2)) : ∀ (n : Nat) {x1 : Int32} {x2 : Int32} {x3 : Int32} {x4 : Int32} {x5 : Int32} {x6 : Int32} {x7 : Int32} {s : aS} (_ : Ly tt cc s) {o : Int32 × aS} (_ : dm248_51 k31 n x1 x2 x3 x4 x5 x6 x7 s = some o), Q 2 sio tt cc d 248 51 [some (.ref 121), some (.int x1), some (.int x2), some (.int x3), some (.int x4), some (.int x5), some (.int x6), some (.int x7)] [] s (.inl (some (.int o.1)), o.2) := by
  obtain ⟨d, rfl⟩ : ∃ e, d = e + 1 := ⟨d - 1, by omega⟩
  intro n
  induction n with
  | zero => intro x1 x2 x3 x4 x5 x6 x7 s hl o h; rw [dm248_51] at h; cases h
  | succ n ih =>
    intro x1 x2 x3 x4 x5 x6 x7 s hl o h
    rw [dm248_51] at h
    refine Q.run zm248 2 (i' := 53) (ls' := [some (.ref 121), some (.int x1), some (.int x2), some (.int x3), some (.int x4), some (.int x5), some (.int x6), some (.int x7)]) (st' := [.int 9, .int x7]) rfl ?_
    by_cases hc1 : 9 ≤ x7
    · rw [if_pos hc1] at h
      refine Q.map (A.bT (gI_of zm248 (e := (92, 3, .if_icmp .ge 38, [71])) rfl) (decide_eq_true hc1)) ?_
      refine Q.run zm248 2 (i' := 73) (ls' := [some (.ref 121), some (.int x1), some (.int x2), some (.int x3), some (.int x4), some (.int x5), some (.int x6), some (.int 0)]) (st' := []) rfl ?_
      exact dt248_73 hd hk31 _ hl  h
    · rw [if_neg hc1] at h
      refine Q.map (A.bF (gI_of zm248 (e := (92, 3, .if_icmp .ge 38, [71])) rfl) (fun q => hc1 (of_decide_eq_true q))) ?_
      refine Q.run zm248 1 (i' := 55) (ls' := [some (.ref 121), some (.int x1), some (.int x2), some (.int x3), some (.int x4), some (.int x5), some (.int x6), some (.int x7)]) (st' := [.int x3]) rfl ?_
      by_cases hc2 : x3 = 0
      · rw [if_pos hc2] at h
        refine Q.map (A.zT (gI_of zm248 (e := (96, 3, .ifCond .eq 26, [67])) rfl) (decide_eq_true hc2)) ?_
        exact dt248_67 hd hk31 ih hl  h
      · rw [if_neg hc2] at h
        refine Q.map (A.zF (gI_of zm248 (e := (96, 3, .ifCond .eq 26, [67])) rfl) (fun q => hc2 (of_decide_eq_true q))) ?_
        refine Q.run zm248 3 (i' := 59) (ls' := [some (.ref 121), some (.int x1), some (.int x2), some (.int x3), some (.int x4), some (.int x5), some (.int x6), some (.int x7)]) (st' := [.int x7, .int x5, .ref 121]) rfl ?_
        obtain ⟨r5, hc4, h⟩ := bu_so h
        have hq3 : Q 2 sio tt cc d 245 0 [some (.ref 121), some (.int x5), some (.int x7)] [] s (.inl (some (.int r5)), s) := dt245 (by omega) hl  hc4
        refine Q.callI (gC_vi zm248 (show zM248.2.2.2.2.2[59]? = some (104, 3, .invokevirtual 368, [0, 245, 2, 9]) from rfl) zm245 (hl.lt (a := 121) (by decide)) (hl.T (a := 121) (p := (9, 45)) 43 rfl rfl) rfl (show aCr 2 121 [.int x7, .int x5, .ref 121] 3 = some ([some (.ref 121), some (.int x5), some (.int x7)], []) from rfl)) hq3 ?_
        refine Q.run zm248 3 (i' := 63) (ls' := [some (.ref 121), some (.int x1), some (.int x2), some (.int x3), some (.int x4), some (.int x5), some (.int x6), some (.int x7)]) (st' := [.int x7, .int x6, .ref 121, .int r5]) rfl ?_
        obtain ⟨r8, hc7, h⟩ := bu_so h
        have hq6 : Q 2 sio tt cc d 245 0 [some (.ref 121), some (.int x6), some (.int x7)] [] s (.inl (some (.int r8)), s) := dt245 (by omega) hl  hc7
        refine Q.callI (gC_vi zm248 (show zM248.2.2.2.2.2[63]? = some (112, 3, .invokevirtual 368, [0, 245, 2, 9]) from rfl) zm245 (hl.lt (a := 121) (by decide)) (hl.T (a := 121) (p := (9, 45)) 43 rfl rfl) rfl (show aCr 2 121 [.int x7, .int x6, .ref 121, .int r5] 3 = some ([some (.ref 121), some (.int x6), some (.int x7)], [.int r5]) from rfl)) hq6 ?_
        by_cases hc9 : r5 = r8
        · rw [if_pos hc9] at h
          refine Q.map (A.bF (gI_of zm248 (e := (115, 3, .if_icmp .ne 7, [67])) rfl) (fun q => of_decide_eq_true q hc9)) ?_
          refine Q.run zm248 2 (i' := 68) (ls' := [some (.ref 121), some (.int x1), some (.int x2), some (.int x3), some (.int x4), some (.int x5), some (.int x6), some (.int x7)]) (st' := [.int 1]) rfl ?_
          exact dt248_68 hd hk31 ih hl  h
        · rw [if_neg hc9] at h
          refine Q.map (A.bT (gI_of zm248 (e := (115, 3, .if_icmp .ne 7, [67])) rfl) (decide_eq_true hc9)) ?_
          exact dt248_67 hd hk31 ih hl  h
def dm248_31 : Nat → Int32 → Int32 → Int32 → Int32 → aS → Option (Int32 × aS)
  | 0, _, _, _, _, _ => none
  | n + 1, x1, x2, x3, x4, s =>
    if aB x1 9 then
      if (sI s 127 (jN x1)) ≤ x4 then
        if x3 = 0 ∨ x3 = 1 then
          some (x3, s)
        else none
      else
        dm248_51 (dm248_31 n) 5000 x1 x2 x3 x4 ((128 * x1) + x4) ((128 * x2) + x4) 0 s
    else none
set_option maxRecDepth 100000 in
theorem dt248_31 {sio : Bool} {tt : Nat} {cc : Nat → Nat → Int32} {d : Nat} (hd : 1 ≤ d) : ∀ (n : Nat) {x1 : Int32} {x2 : Int32} {x3 : Int32} {x4 : Int32} {g5 : Option Value} {g6 : Option Value} {g7 : Option Value} {s : aS} (_ : Ly tt cc s) {o : Int32 × aS} (_ : dm248_31  n x1 x2 x3 x4 s = some o), Q 2 sio tt cc d 248 31 [some (.ref 121), some (.int x1), some (.int x2), some (.int x3), some (.int x4), g5, g6, g7] [] s (.inl (some (.int o.1)), o.2) := by
  obtain ⟨d, rfl⟩ : ∃ e, d = e + 1 := ⟨d - 1, by omega⟩
  intro n
  induction n with
  | zero => intro x1 x2 x3 x4 g5 g6 g7 s hl o h; rw [dm248_31] at h; cases h
  | succ n ih =>
    intro x1 x2 x3 x4 g5 g6 g7 s hl o h
    rw [dm248_31] at h
    refine Q.run zm248 2 (i' := 33) (ls' := [some (.ref 121), some (.int x1), some (.int x2), some (.int x3), some (.int x4), g5, g6, g7]) (st' := [.ref 121, .int x4]) rfl ?_
    refine Q.map (A.gf (gI_of zm248 (e := (57, 3, .getfield 26, [9, 8])) rfl) (hl.lt (a := 121) (by decide)) (hl.T (a := 121) (p := (9, 45)) 43 rfl rfl) (by decide) (hl.R 28 rfl)) ?_
    refine Q.run zm248 1 (i' := 35) (ls' := [some (.ref 121), some (.int x1), some (.int x2), some (.int x3), some (.int x4), g5, g6, g7]) (st' := [.int x1, .ref 127, .int x4]) rfl ?_
    obtain ⟨hc1, h⟩ := ite_so h
    refine Q.map (A.ia (gI_of zm248 (e := (61, 1, .iaload, [])) rfl) (hl.lt (a := 127) (by decide)) (hl.T (a := 127) (p := (100, 9)) 49 rfl rfl) hc1) ?_
    by_cases hc2 : (sI s 127 (jN x1)) ≤ x4
    · rw [if_pos hc2] at h
      refine Q.map (A.bT (gI_of zm248 (e := (62, 3, .if_icmp .ge 138, [106])) rfl) (decide_eq_true hc2)) ?_
      refine Q.run zm248 1 (i' := 107) (ls' := [some (.ref 121), some (.int x1), some (.int x2), some (.int x3), some (.int x4), g5, g6, g7]) (st' := [.int x3]) rfl ?_
      obtain ⟨hc3, h⟩ := ite_so h
      cases h
      exact Q.ret (A.ri zm248 (show zM248.2.2.2.2.2[107]? = some (201, 1, .ireturn, []) from rfl) rfl (fit1 hc3)) hl
    · rw [if_neg hc2] at h
      refine Q.map (A.bF (gI_of zm248 (e := (62, 3, .if_icmp .ge 138, [106])) rfl) (fun q => hc2 (of_decide_eq_true q))) ?_
      refine Q.run zm248 14 (i' := 51) (ls' := [some (.ref 121), some (.int x1), some (.int x2), some (.int x3), some (.int x4), some (.int ((128 * x1) + x4)), some (.int ((128 * x2) + x4)), some (.int 0)]) (st' := []) rfl ?_
      exact dt248_51 hd ih _ hl  h
def dm248_12 (x1 : Int32) (x2 : Int32) (y1 : Int32) (s : aS) : Option (Int32 × aS) :=
  nx (wI s 121 0 y1) fun s1 =>
  if 0 < (sI s1 121 0) then
    some (0, s1)
  else
    if aB x1 9 then
      if aB x2 9 then
        if (sI s1 127 (jN x1)) = (sI s1 127 (jN x2)) then
          dm248_31 5000 x1 x2 1 0 s1
        else
          some (0, s1)
      else none
    else none
set_option maxRecDepth 100000 in
theorem dt248_12 {sio : Bool} {tt : Nat} {cc : Nat → Nat → Int32} {d : Nat} (hd : 1 ≤ d) {x1 : Int32} {x2 : Int32} {y1 : Int32} {s : aS} (hl : Ly tt cc s) {o : Int32 × aS} (h : dm248_12  x1 x2 y1 s = some o) : Q 2 sio tt cc d 248 12 [some (.ref 121), some (.int x1), some (.int x2), none, none, none, none, none] [.int y1, .ref 121] s (.inl (some (.int o.1)), o.2) := by
  unfold dm248_12 at h
  obtain ⟨d, rfl⟩ : ∃ e, d = e + 1 := ⟨d - 1, by omega⟩
  obtain ⟨s1, hs2, h⟩ := nx_so h
  refine Q.pf hs2 rfl (gI_of zm248 (e := (22, 3, .putfield 89, [9, 0, 0])) rfl) (hl.lt (a := 121) (by decide)) (by decide) (hl.T (a := 121) (p := (9, 45)) 43 rfl rfl) (by decide) rfl rfl ?_
  have hl3 : Ly tt cc s1 := by rw [hs2]; exact hl.wId (by decide)
  refine Q.run zm248 1 (i' := 14) (ls' := [some (.ref 121), some (.int x1), some (.int x2), none, none, none, none, none]) (st' := [.ref 121]) rfl ?_
  refine Q.map (A.gf (gI_of zm248 (e := (26, 3, .getfield 89, [9, 0])) rfl) (hl3.lt (a := 121) (by decide)) (hl3.T (a := 121) (p := (9, 45)) 43 rfl rfl) (by decide) rfl) ?_
  by_cases hc4 : 0 < (sI s1 121 0)
  · rw [if_pos hc4] at h
    refine Q.map (A.zT (gI_of zm248 (e := (29, 3, .ifCond .gt 18, [25])) rfl) (decide_eq_true hc4)) ?_
    refine Q.run zm248 1 (i' := 26) (ls' := [some (.ref 121), some (.int x1), some (.int x2), none, none, none, none, none]) (st' := [.int 0]) rfl ?_
    cases h
    exact Q.ret (A.ri zm248 (show zM248.2.2.2.2.2[26]? = some (48, 1, .ireturn, []) from rfl) rfl rfl) hl3
  · rw [if_neg hc4] at h
    refine Q.map (A.zF (gI_of zm248 (e := (29, 3, .ifCond .gt 18, [25])) rfl) (fun q => hc4 (of_decide_eq_true q))) ?_
    refine Q.run zm248 1 (i' := 17) (ls' := [some (.ref 121), some (.int x1), some (.int x2), none, none, none, none, none]) (st' := [.ref 121]) rfl ?_
    refine Q.map (A.gf (gI_of zm248 (e := (33, 3, .getfield 26, [9, 8])) rfl) (hl3.lt (a := 121) (by decide)) (hl3.T (a := 121) (p := (9, 45)) 43 rfl rfl) (by decide) (hl3.R 28 rfl)) ?_
    refine Q.run zm248 1 (i' := 19) (ls' := [some (.ref 121), some (.int x1), some (.int x2), none, none, none, none, none]) (st' := [.int x1, .ref 127]) rfl ?_
    obtain ⟨hc5, h⟩ := ite_so h
    refine Q.map (A.ia (gI_of zm248 (e := (37, 1, .iaload, [])) rfl) (hl3.lt (a := 127) (by decide)) (hl3.T (a := 127) (p := (100, 9)) 49 rfl rfl) hc5) ?_
    refine Q.run zm248 1 (i' := 21) (ls' := [some (.ref 121), some (.int x1), some (.int x2), none, none, none, none, none]) (st' := [.ref 121, .int (sI s1 127 (jN x1))]) rfl ?_
    refine Q.map (A.gf (gI_of zm248 (e := (39, 3, .getfield 26, [9, 8])) rfl) (hl3.lt (a := 121) (by decide)) (hl3.T (a := 121) (p := (9, 45)) 43 rfl rfl) (by decide) (hl3.R 28 rfl)) ?_
    refine Q.run zm248 1 (i' := 23) (ls' := [some (.ref 121), some (.int x1), some (.int x2), none, none, none, none, none]) (st' := [.int x2, .ref 127, .int (sI s1 127 (jN x1))]) rfl ?_
    obtain ⟨hc6, h⟩ := ite_so h
    refine Q.map (A.ia (gI_of zm248 (e := (43, 1, .iaload, [])) rfl) (hl3.lt (a := 127) (by decide)) (hl3.T (a := 127) (p := (100, 9)) 49 rfl rfl) hc6) ?_
    by_cases hc7 : (sI s1 127 (jN x1)) = (sI s1 127 (jN x2))
    · rw [if_pos hc7] at h
      refine Q.map (A.bT (gI_of zm248 (e := (44, 3, .if_icmp .eq 5, [27])) rfl) (decide_eq_true hc7)) ?_
      refine Q.run zm248 4 (i' := 31) (ls' := [some (.ref 121), some (.int x1), some (.int x2), some (.int 1), some (.int 0), none, none, none]) (st' := []) rfl ?_
      exact dt248_31 hd _ hl3  h
    · rw [if_neg hc7] at h
      refine Q.map (A.bF (gI_of zm248 (e := (44, 3, .if_icmp .eq 5, [27])) rfl) (fun q => hc7 (of_decide_eq_true q))) ?_
      refine Q.run zm248 1 (i' := 26) (ls' := [some (.ref 121), some (.int x1), some (.int x2), none, none, none, none, none]) (st' := [.int 0]) rfl ?_
      cases h
      exact Q.ret (A.ri zm248 (show zM248.2.2.2.2.2[26]? = some (48, 1, .ireturn, []) from rfl) rfl rfl) hl3
def dm248_9 (x1 : Int32) (x2 : Int32) (s : aS) : Option (Int32 × aS) :=
  dm248_12 x1 x2 1 s
set_option maxRecDepth 100000 in
theorem dt248_9 {sio : Bool} {tt : Nat} {cc : Nat → Nat → Int32} {d : Nat} (hd : 1 ≤ d) {x1 : Int32} {x2 : Int32} {s : aS} (hl : Ly tt cc s) {o : Int32 × aS} (h : dm248_9  x1 x2 s = some o) : Q 2 sio tt cc d 248 9 [some (.ref 121), some (.int x1), some (.int x2), none, none, none, none, none] [.ref 121] s (.inl (some (.int o.1)), o.2) := by
  unfold dm248_9 at h
  obtain ⟨d, rfl⟩ : ∃ e, d = e + 1 := ⟨d - 1, by omega⟩
  refine Q.run zm248 2 (i' := 12) (ls' := [some (.ref 121), some (.int x1), some (.int x2), none, none, none, none, none]) (st' := [.int 1, .ref 121]) rfl ?_
  exact dt248_12 hd hl  h
def dm248 (x1 : Int32) (x2 : Int32) (s : aS) : Option (Int32 × aS) :=
  bu (dm225 x1 s) fun r3 =>
  if r3 = 0 then
    bu (dm225 x2 s) fun r7 =>
    if r7 = 0 then
      dm248_12 x1 x2 0 s
    else
      dm248_9 x1 x2 s
  else
    dm248_9 x1 x2 s
set_option maxRecDepth 100000 in
theorem dt248 {sio : Bool} {tt : Nat} {cc : Nat → Nat → Int32} {d : Nat} (hd : 1 ≤ d) {x1 : Int32} {x2 : Int32} {s : aS} (hl : Ly tt cc s) {o : Int32 × aS} (h : dm248  x1 x2 s = some o) : Q 2 sio tt cc d 248 0 [some (.ref 121), some (.int x1), some (.int x2), none, none, none, none, none] [] s (.inl (some (.int o.1)), o.2) := by
  unfold dm248 at h
  obtain ⟨d, rfl⟩ : ∃ e, d = e + 1 := ⟨d - 1, by omega⟩
  refine Q.run zm248 3 (i' := 3) (ls' := [some (.ref 121), some (.int x1), some (.int x2), none, none, none, none, none]) (st' := [.int x1, .ref 121, .ref 121]) rfl ?_
  obtain ⟨r3, hc2, h⟩ := bu_so h
  have hq1 : Q 2 sio tt cc d 225 0 [some (.ref 121), some (.int x1)] [] s (.inl (some (.int r3)), s) := dt225 (by omega) hl  hc2
  refine Q.callI (gC_vi zm248 (show zM248.2.2.2.2.2[3]? = some (3, 3, .invokevirtual 310, [0, 225, 1, 9]) from rfl) zm225 (hl.lt (a := 121) (by decide)) (hl.T (a := 121) (p := (9, 45)) 43 rfl rfl) rfl (show aCr 1 121 [.int x1, .ref 121, .ref 121] 2 = some ([some (.ref 121), some (.int x1)], [.ref 121]) from rfl)) hq1 ?_
  by_cases hc4 : r3 = 0
  · rw [if_pos hc4] at h
    refine Q.map (A.zF (gI_of zm248 (e := (6, 3, .ifCond .ne 11, [9])) rfl) (fun q => of_decide_eq_true q hc4)) ?_
    refine Q.run zm248 2 (i' := 7) (ls' := [some (.ref 121), some (.int x1), some (.int x2), none, none, none, none, none]) (st' := [.int x2, .ref 121, .ref 121]) rfl ?_
    obtain ⟨r7, hc6, h⟩ := bu_so h
    have hq5 : Q 2 sio tt cc d 225 0 [some (.ref 121), some (.int x2)] [] s (.inl (some (.int r7)), s) := dt225 (by omega) hl  hc6
    refine Q.callI (gC_vi zm248 (show zM248.2.2.2.2.2[7]? = some (11, 3, .invokevirtual 310, [0, 225, 1, 9]) from rfl) zm225 (hl.lt (a := 121) (by decide)) (hl.T (a := 121) (p := (9, 45)) 43 rfl rfl) rfl (show aCr 1 121 [.int x2, .ref 121, .ref 121] 2 = some ([some (.ref 121), some (.int x2)], [.ref 121]) from rfl)) hq5 ?_
    by_cases hc8 : r7 = 0
    · rw [if_pos hc8] at h
      refine Q.map (A.zT (gI_of zm248 (e := (14, 3, .ifCond .eq 7, [11])) rfl) (decide_eq_true hc8)) ?_
      refine Q.run zm248 1 (i' := 12) (ls' := [some (.ref 121), some (.int x1), some (.int x2), none, none, none, none, none]) (st' := [.int 0, .ref 121]) rfl ?_
      exact dt248_12 hd hl  h
    · rw [if_neg hc8] at h
      refine Q.map (A.zF (gI_of zm248 (e := (14, 3, .ifCond .eq 7, [11])) rfl) (fun q => hc8 (of_decide_eq_true q))) ?_
      exact dt248_9 hd hl  h
  · rw [if_neg hc4] at h
    refine Q.map (A.zT (gI_of zm248 (e := (6, 3, .ifCond .ne 11, [9])) rfl) (decide_eq_true hc4)) ?_
    exact dt248_9 hd hl  h
/-! 167 FormulaTrees$Sheets.howMany()I -/
set_option maxRecDepth 100000 in
theorem zm167 : zP[167]? = some zM167 := rfl
def dm167 (s : aS) : Option (Int32) :=
  some (sI s 81 2)
set_option maxRecDepth 100000 in
theorem dt167 {sio : Bool} {tt : Nat} {cc : Nat → Nat → Int32} {d : Nat} (hd : 0 ≤ d) {s : aS} (hl : Ly tt cc s) {o : Int32} (h : dm167  s = some o) : Q 1 sio tt cc d 167 0 [some (.ref 81)] [] s (.inl (some (.int o)), s) := by
  unfold dm167 at h
  refine Q.run zm167 1 (i' := 1) (ls' := [some (.ref 81)]) (st' := [.ref 81]) rfl ?_
  refine Q.map (A.gf (gI_of zm167 (e := (1, 3, .getfield 24, [2, 2])) rfl) (hl.lt (a := 81) (by decide)) (hl.T (a := 81) (p := (2, 3)) 3 rfl rfl) (by decide) rfl) ?_
  cases h
  exact Q.ret (A.ri zm167 (show zM167.2.2.2.2.2[2]? = some (4, 1, .ireturn, []) from rfl) rfl rfl) hl
/-! 168 FormulaTrees.formulasThere()I -/
set_option maxRecDepth 100000 in
theorem zm168 : zP[168]? = some zM168 := rfl
def dm168_19 (k4 : Int32 → Int32 → aS → Option (Int32)) (x2 : Int32) (y0 : Int32) (y1 : Int32) (s : aS) : Option (Int32) :=
  k4 (y0 + y1) (x2 + 1) s
set_option maxRecDepth 100000 in
theorem dt168_19 {sio : Bool} {tt : Nat} {cc : Nat → Nat → Int32} {d : Nat} (hd : 0 ≤ d) {k4 : Int32 → Int32 → aS → Option (Int32)} (hk4 : ∀ {x1 : Int32} {x2 : Int32} {s : aS}, Ly tt cc s → ∀ {o : Int32}, k4 x1 x2 s = some o → Q 1 sio tt cc d 168 4 [some (.ref 78), some (.int x1), some (.int x2)] [] s (.inl (some (.int o)), s)) {x2 : Int32} {y0 : Int32} {y1 : Int32} {x1 : Int32} {s : aS} (hl : Ly tt cc s) {o : Int32} (h : dm168_19 k4 x2 y0 y1 s = some o) : Q 1 sio tt cc d 168 19 [some (.ref 78), some (.int x1), some (.int x2)] [.int y1, .int y0] s (.inl (some (.int o)), s) := by
  unfold dm168_19 at h
  refine Q.run zm168 4 (i' := 4) (ls' := [some (.ref 78), some (.int (y0 + y1)), some (.int (x2 + 1))]) (st' := []) rfl ?_
  exact hk4 hl  h
def dm168_4 : Nat → Int32 → Int32 → aS → Option (Int32)
  | 0, _, _, _ => none
  | n + 1, x1, x2, s =>
    if 8 ≤ x2 then
      some x1
    else
      if aB x2 8 then
        if (sI s 101 (jN x2)) = (-1) then
          dm168_19 (dm168_4 n) x2 x1 0 s
        else
          dm168_19 (dm168_4 n) x2 x1 1 s
      else none
set_option maxRecDepth 100000 in
theorem dt168_4 {sio : Bool} {tt : Nat} {cc : Nat → Nat → Int32} {d : Nat} (hd : 0 ≤ d) : ∀ (n : Nat) {x1 : Int32} {x2 : Int32} {s : aS} (_ : Ly tt cc s) {o : Int32} (_ : dm168_4  n x1 x2 s = some o), Q 1 sio tt cc d 168 4 [some (.ref 78), some (.int x1), some (.int x2)] [] s (.inl (some (.int o)), s) := by
  intro n
  induction n with
  | zero => intro x1 x2 s hl o h; rw [dm168_4] at h; cases h
  | succ n ih =>
    intro x1 x2 s hl o h
    rw [dm168_4] at h
    refine Q.run zm168 2 (i' := 6) (ls' := [some (.ref 78), some (.int x1), some (.int x2)]) (st' := [.ref 78, .int x2]) rfl ?_
    refine Q.map (A.gf (gI_of zm168 (e := (6, 3, .getfield 31, [0, 3])) rfl) (hl.lt (a := 78) (by decide)) (hl.T (a := 78) (p := (0, 7)) 0 rfl rfl) (by decide) (hl.R 3 rfl)) ?_
    refine Q.map (A.al (gI_of zm168 (e := (9, 1, .arraylength, [])) rfl) (hl.lt (a := 101) (by decide)) (hl.T (a := 101) (p := (100, 8)) 23 rfl rfl) (by decide)) ?_
    by_cases hc1 : 8 ≤ x2
    · rw [if_pos hc1] at h
      refine Q.map (A.bT (gI_of zm168 (e := (10, 3, .if_icmp .ge 27, [23])) rfl) (decide_eq_true hc1)) ?_
      refine Q.run zm168 1 (i' := 24) (ls' := [some (.ref 78), some (.int x1), some (.int x2)]) (st' := [.int x1]) rfl ?_
      cases h
      exact Q.ret (A.ri zm168 (show zM168.2.2.2.2.2[24]? = some (38, 1, .ireturn, []) from rfl) rfl rfl) hl
    · rw [if_neg hc1] at h
      refine Q.map (A.bF (gI_of zm168 (e := (10, 3, .if_icmp .ge 27, [23])) rfl) (fun q => hc1 (of_decide_eq_true q))) ?_
      refine Q.run zm168 2 (i' := 11) (ls' := [some (.ref 78), some (.int x1), some (.int x2)]) (st' := [.ref 78, .int x1]) rfl ?_
      refine Q.map (A.gf (gI_of zm168 (e := (15, 3, .getfield 31, [0, 3])) rfl) (hl.lt (a := 78) (by decide)) (hl.T (a := 78) (p := (0, 7)) 0 rfl rfl) (by decide) (hl.R 3 rfl)) ?_
      refine Q.run zm168 1 (i' := 13) (ls' := [some (.ref 78), some (.int x1), some (.int x2)]) (st' := [.int x2, .ref 101, .int x1]) rfl ?_
      obtain ⟨hc2, h⟩ := ite_so h
      refine Q.map (A.ia (gI_of zm168 (e := (19, 1, .iaload, [])) rfl) (hl.lt (a := 101) (by decide)) (hl.T (a := 101) (p := (100, 8)) 23 rfl rfl) hc2) ?_
      refine Q.run zm168 1 (i' := 15) (ls' := [some (.ref 78), some (.int x1), some (.int x2)]) (st' := [.int (-1), .int (sI s 101 (jN x2)), .int x1]) rfl ?_
      by_cases hc3 : (sI s 101 (jN x2)) = (-1)
      · rw [if_pos hc3] at h
        refine Q.map (A.bT (gI_of zm168 (e := (21, 3, .if_icmp .eq 7, [18])) rfl) (decide_eq_true hc3)) ?_
        refine Q.run zm168 1 (i' := 19) (ls' := [some (.ref 78), some (.int x1), some (.int x2)]) (st' := [.int 0, .int x1]) rfl ?_
        exact dt168_19 hd ih hl  h
      · rw [if_neg hc3] at h
        refine Q.map (A.bF (gI_of zm168 (e := (21, 3, .if_icmp .eq 7, [18])) rfl) (fun q => hc3 (of_decide_eq_true q))) ?_
        refine Q.run zm168 2 (i' := 19) (ls' := [some (.ref 78), some (.int x1), some (.int x2)]) (st' := [.int 1, .int x1]) rfl ?_
        exact dt168_19 hd ih hl  h
def dm168 (s : aS) : Option (Int32) :=
  dm168_4 5000 0 0 s
set_option maxRecDepth 100000 in
theorem dt168 {sio : Bool} {tt : Nat} {cc : Nat → Nat → Int32} {d : Nat} (hd : 0 ≤ d) {s : aS} (hl : Ly tt cc s) {o : Int32} (h : dm168  s = some o) : Q 1 sio tt cc d 168 0 [some (.ref 78), none, none] [] s (.inl (some (.int o)), s) := by
  unfold dm168 at h
  refine Q.run zm168 4 (i' := 4) (ls' := [some (.ref 78), some (.int 0), some (.int 0)]) (st' := []) rfl ?_
  exact dt168_4 hd _ hl  h
/-! 166 FormulaTrees.count(I)I -/
set_option maxRecDepth 100000 in
theorem zm166 : zP[166]? = some zM166 := rfl
def dm166_5 (s : aS) : Option (xZ × aS) :=
  some (.inr 0, nw s 80 0)
set_option maxRecDepth 100000 in
theorem dt166_5 {sio : Bool} {tt : Nat} {cc : Nat → Nat → Int32} {d : Nat} (hd : 9 ≤ d) {x1 : Int32} {s : aS} (hl : Ly tt cc s) {o : xZ × aS} (h : dm166_5  s = some o) : Q 1 sio tt cc d 166 5 [some (.ref 78), some (.int x1)] [] s o := by
  unfold dm166_5 at h
  obtain ⟨d, rfl⟩ : ∃ e, d = e + 1 := ⟨d - 1, by omega⟩
  cases h
  exact Q.t zm166 (show zM166.2.2.2.2.2[5]? = some (10, 3, .new 58, [200]) from rfl) rfl rfl hl.gL (by omega) hl
def dm166 (x1 : Int32) (s : aS) : Option (xZ × aS) :=
  if x1 < 0 then
    dm166_5 s
  else
    if x1 ≤ 9 then
      if x1 = 0 then
        bu (dm167 s) fun r6 =>
        some (.inl (some (.int r6)), s)
      else
        if x1 = 1 then
          bu (dm168 s) fun r10 =>
          some (.inl (some (.int r10)), s)
        else
          if aB (x1 - 2) 8 then
            some (.inl (some (.int (sI s 101 (jN (x1 - 2))))), s)
          else none
    else
      dm166_5 s
set_option maxRecDepth 100000 in
theorem dt166 {sio : Bool} {tt : Nat} {cc : Nat → Nat → Int32} {d : Nat} (hd : 9 ≤ d) {x1 : Int32} {s : aS} (hl : Ly tt cc s) {o : xZ × aS} (h : dm166  x1 s = some o) : Q 1 sio tt cc d 166 0 [some (.ref 78), some (.int x1)] [] s o := by
  unfold dm166 at h
  obtain ⟨d, rfl⟩ : ∃ e, d = e + 1 := ⟨d - 1, by omega⟩
  refine Q.run zm166 1 (i' := 1) (ls' := [some (.ref 78), some (.int x1)]) (st' := [.int x1]) rfl ?_
  by_cases hc1 : x1 < 0
  · rw [if_pos hc1] at h
    refine Q.map (A.zT (gI_of zm166 (e := (1, 3, .ifCond .lt 9, [5])) rfl) (decide_eq_true hc1)) ?_
    exact dt166_5 hd hl  h
  · rw [if_neg hc1] at h
    refine Q.map (A.zF (gI_of zm166 (e := (1, 3, .ifCond .lt 9, [5])) rfl) (fun q => hc1 (of_decide_eq_true q))) ?_
    refine Q.run zm166 2 (i' := 4) (ls' := [some (.ref 78), some (.int x1)]) (st' := [.int 9, .int x1]) rfl ?_
    by_cases hc2 : x1 ≤ 9
    · rw [if_pos hc2] at h
      refine Q.map (A.bT (gI_of zm166 (e := (7, 3, .if_icmp .le 13, [10])) rfl) (decide_eq_true hc2)) ?_
      refine Q.run zm166 1 (i' := 11) (ls' := [some (.ref 78), some (.int x1)]) (st' := [.int x1]) rfl ?_
      by_cases hc3 : x1 = 0
      · rw [if_pos hc3] at h
        refine Q.map (A.zF (gI_of zm166 (e := (21, 3, .ifCond .ne 11, [16])) rfl) (fun q => of_decide_eq_true q hc3)) ?_
        refine Q.run zm166 1 (i' := 13) (ls' := [some (.ref 78), some (.int x1)]) (st' := [.ref 78]) rfl ?_
        refine Q.map (A.gf (gI_of zm166 (e := (25, 3, .getfield 21, [0, 1])) rfl) (hl.lt (a := 78) (by decide)) (hl.T (a := 78) (p := (0, 7)) 0 rfl rfl) (by decide) (hl.R 1 rfl)) ?_
        obtain ⟨r6, hc5, h⟩ := bu_so h
        have hq4 : Q 1 sio tt cc d 167 0 [some (.ref 81)] [] s (.inl (some (.int r6)), s) := dt167 (by omega) hl  hc5
        refine Q.callI (gC_vi zm166 (show zM166.2.2.2.2.2[14]? = some (28, 3, .invokevirtual 183, [0, 167, 0, 2]) from rfl) zm167 (hl.lt (a := 81) (by decide)) (hl.T (a := 81) (p := (2, 3)) 3 rfl rfl) rfl (show aCr 0 81 [.ref 81] 1 = some ([some (.ref 81)], []) from rfl)) hq4 ?_
        cases h
        exact Q.ret (A.ri zm166 (show zM166.2.2.2.2.2[15]? = some (31, 1, .ireturn, []) from rfl) rfl rfl) hl
      · rw [if_neg hc3] at h
        refine Q.map (A.zT (gI_of zm166 (e := (21, 3, .ifCond .ne 11, [16])) rfl) (decide_eq_true hc3)) ?_
        refine Q.run zm166 2 (i' := 18) (ls' := [some (.ref 78), some (.int x1)]) (st' := [.int 1, .int x1]) rfl ?_
        by_cases hc7 : x1 = 1
        · rw [if_pos hc7] at h
          refine Q.map (A.bF (gI_of zm166 (e := (34, 3, .if_icmp .ne 10, [22])) rfl) (fun q => of_decide_eq_true q hc7)) ?_
          refine Q.run zm166 1 (i' := 20) (ls' := [some (.ref 78), some (.int x1)]) (st' := [.ref 78]) rfl ?_
          obtain ⟨r10, hc9, h⟩ := bu_so h
          have hq8 : Q 1 sio tt cc d 168 0 [some (.ref 78), none, none] [] s (.inl (some (.int r10)), s) := dt168 (by omega) hl  hc9
          refine Q.callI (gC_vi zm166 (show zM166.2.2.2.2.2[20]? = some (38, 3, .invokevirtual 186, [0, 168, 0, 0]) from rfl) zm168 (hl.lt (a := 78) (by decide)) (hl.T (a := 78) (p := (0, 7)) 0 rfl rfl) rfl (show aCr 0 78 [.ref 78] 3 = some ([some (.ref 78), none, none], []) from rfl)) hq8 ?_
          refine Q.run zm166 1 (i' := 28) (ls' := [some (.ref 78), some (.int x1)]) (st' := [.int r10]) rfl ?_
          cases h
          exact Q.ret (A.ri zm166 (show zM166.2.2.2.2.2[28]? = some (52, 1, .ireturn, []) from rfl) rfl rfl) hl
        · rw [if_neg hc7] at h
          refine Q.map (A.bT (gI_of zm166 (e := (34, 3, .if_icmp .ne 10, [22])) rfl) (decide_eq_true hc7)) ?_
          refine Q.run zm166 1 (i' := 23) (ls' := [some (.ref 78), some (.int x1)]) (st' := [.ref 78]) rfl ?_
          refine Q.map (A.gf (gI_of zm166 (e := (45, 3, .getfield 31, [0, 3])) rfl) (hl.lt (a := 78) (by decide)) (hl.T (a := 78) (p := (0, 7)) 0 rfl rfl) (by decide) (hl.R 3 rfl)) ?_
          refine Q.run zm166 3 (i' := 27) (ls' := [some (.ref 78), some (.int x1)]) (st' := [.int (x1 - 2), .ref 101]) rfl ?_
          obtain ⟨hc11, h⟩ := ite_so h
          refine Q.map (A.ia (gI_of zm166 (e := (51, 1, .iaload, [])) rfl) (hl.lt (a := 101) (by decide)) (hl.T (a := 101) (p := (100, 8)) 23 rfl rfl) hc11) ?_
          cases h
          exact Q.ret (A.ri zm166 (show zM166.2.2.2.2.2[28]? = some (52, 1, .ireturn, []) from rfl) rfl rfl) hl
    · rw [if_neg hc2] at h
      refine Q.map (A.bF (gI_of zm166 (e := (7, 3, .if_icmp .le 13, [10])) rfl) (fun q => hc2 (of_decide_eq_true q))) ?_
      exact dt166_5 hd hl  h
/-! 14 FormulaTreesLaw.count(LFormulaTrees;I[J)I -/
set_option maxRecDepth 100000 in
theorem zm14 : zP[14]? = some zM14 := rfl
def dm14 (x1 : Int32) (s : aS) : Option (Int32 × aS) :=
  bv (dm166 x1 s) fun z4 s3 =>
  zN z4 (fun v5 =>
    vI v5 fun r7 =>
    if aB 0 1 then
      nx (wJ s3 148 (jN 0) r7.toInt64) fun s10 =>
      some (0, s10)
    else none
  ) fun e6 =>
    if e6 = 0 then
      some (1, s3)
    else
      none
set_option maxRecDepth 100000 in
theorem dt14 {sio : Bool} {tt : Nat} {cc : Nat → Nat → Int32} {d : Nat} (hd : 10 ≤ d) {x1 : Int32} {s : aS} (hl : Ly tt cc s) {o : Int32 × aS} (h : dm14  x1 s = some o) : Q 1 sio tt cc d 14 0 [some (.ref 78), some (.int x1), some (.ref 148), none] [] s (.inl (some (.int o.1)), o.2) := by
  unfold dm14 at h
  obtain ⟨d, rfl⟩ : ∃ e, d = e + 1 := ⟨d - 1, by omega⟩
  refine Q.run zm14 4 (i' := 4) (ls' := [some (.ref 78), some (.int x1), some (.ref 148), none]) (st' := [.int x1, .ref 78, .int 0, .ref 148]) rfl ?_
  obtain ⟨z4, s3, hc2, h⟩ := bv_so h
  have hq1 : Q 1 sio tt cc d 166 0 [some (.ref 78), some (.int x1)] [] s (z4, s3) := dt166 (by omega) hl  hc2
  rcases zN_so h with ⟨v5, hz13, h8⟩ | ⟨e6, hz13, h8⟩
  · clear h
    subst hz13
    have h := h8
    obtain ⟨r7, hv8, h9⟩ := vI_so h
    clear h
    subst hv8
    have h := h9
    refine Q.callI (gC_vi zm14 (show zM14.2.2.2.2.2[4]? = some (4, 3, .invokevirtual 62, [0, 166, 1, 0]) from rfl) zm166 (hl.lt (a := 78) (by decide)) (hl.T (a := 78) (p := (0, 7)) 0 rfl rfl) rfl (show aCr 1 78 [.int x1, .ref 78, .int 0, .ref 148] 2 = some ([some (.ref 78), some (.int x1)], [.int 0, .ref 148]) from rfl)) hq1 ?_
    refine Q.run zm14 1 (i' := 6) (ls' := [some (.ref 78), some (.int x1), some (.ref 148), none]) (st' := [.long r7.toInt64, .int 0, .ref 148]) rfl ?_
    obtain ⟨hc9, h⟩ := ite_so h
    obtain ⟨s10, hs11, h⟩ := nx_so h
    refine Q.lS hs11 rfl (gI_of zm14 (e := (8, 1, .lastore, [])) rfl) (hq1.1.lt (a := 148) (by decide)) (by decide) (hq1.1.T (a := 148) (p := (104, 1)) 70 rfl rfl) hc9 ?_
    have hl12 : Ly tt cc s10 := by rw [hs11]; exact hq1.1.wJd
    refine Q.run zm14 2 (i' := 12) (ls' := [some (.ref 78), some (.int x1), some (.ref 148), none]) (st' := [.int 0]) rfl ?_
    cases h
    exact Q.ret (A.ri zm14 (show zM14.2.2.2.2.2[12]? = some (16, 1, .ireturn, []) from rfl) rfl rfl) hl12
  · clear h
    subst hz13
    have h := h8
    by_cases hc14 : e6 = 0
    · rw [if_pos hc14] at h
      subst hc14
      refine Q.hc (gC_vi zm14 (show zM14.2.2.2.2.2[4]? = some (4, 3, .invokevirtual 62, [0, 166, 1, 0]) from rfl) zm166 (hl.lt (a := 78) (by decide)) (hl.T (a := 78) (p := (0, 7)) 0 rfl rfl) rfl (show aCr 1 78 [.int x1, .ref 78, .int 0, .ref 148] 2 = some ([some (.ref 78), some (.int x1)], [.int 0, .ref 148]) from rfl)) hq1 (t := 8) rfl ?_
      refine Q.run zm14 2 (i' := 10) (ls' := [some (.ref 78), some (.int x1), some (.ref 148), some (.ref (sL s3 - 1))]) (st' := [.int 1]) rfl ?_
      cases h
      exact Q.ret (A.ri zm14 (show zM14.2.2.2.2.2[10]? = some (14, 1, .ireturn, []) from rfl) rfl rfl) hq1.1
    · rw [if_neg hc14] at h
      cases h
