/-! 50 FormulaTrees$Sheets.looksLikeCell(LFormulaTrees$Letters;)Z -/
set_option maxRecDepth 100000 in
theorem zm50 : zP[50]? = some zM50 := rfl
def dm50_26 (b0 : Nat) (x1 : Int32) (x2 : Int32) (s : aS) : Option (Int32) :=
  if x1 < 1 then
    some 0
  else
    if 3 < x1 then
      some 0
    else
      if x2 ≤ x1 then
        some 0
      else
        bu (dm28 b0 s) fun r6 =>
        if x2 = r6 then
          some 1
        else
          some 0
set_option maxRecDepth 100000 in
theorem dt50_26 {sio : Bool} {tt : Nat} {cc : Nat → Nat → Int32} {d : Nat} (hd : 1 ≤ d) {b0 : Nat} {x1 : Int32} {x2 : Int32} {s : aS} (hl : Ly tt cc s) (hk_b0 : aK s b0 1) {o : Int32} (h : dm50_26  b0 x1 x2 s = some o) : Q 1 sio tt cc d 50 26 [some (.ref b0), some (.int x1), some (.int x2)] [] s (.inl (some (.int o)), s) := by
  unfold dm50_26 at h
  obtain ⟨d, rfl⟩ : ∃ e, d = e + 1 := ⟨d - 1, by omega⟩
  refine Q.run zm50 2 (i' := 28) (ls' := [some (.ref b0), some (.int x1), some (.int x2)]) (st' := [.int 1, .int x1]) rfl ?_
  by_cases hc1 : x1 < 1
  · rw [if_pos hc1] at h
    refine Q.map (A.bT (gI_of zm50 (e := (56, 3, .if_icmp .lt 25, [41])) rfl) (decide_eq_true hc1)) ?_
    refine Q.run zm50 1 (i' := 42) (ls' := [some (.ref b0), some (.int x1), some (.int x2)]) (st' := [.int 0]) rfl ?_
    cases h
    exact Q.ret (A.ri zm50 (show zM50.2.2.2.2.2[42]? = some (82, 1, .ireturn, []) from rfl) rfl rfl) hl
  · rw [if_neg hc1] at h
    refine Q.map (A.bF (gI_of zm50 (e := (56, 3, .if_icmp .lt 25, [41])) rfl) (fun q => hc1 (of_decide_eq_true q))) ?_
    refine Q.run zm50 2 (i' := 31) (ls' := [some (.ref b0), some (.int x1), some (.int x2)]) (st' := [.int 3, .int x1]) rfl ?_
    by_cases hc2 : 3 < x1
    · rw [if_pos hc2] at h
      refine Q.map (A.bT (gI_of zm50 (e := (61, 3, .if_icmp .gt 20, [41])) rfl) (decide_eq_true hc2)) ?_
      refine Q.run zm50 1 (i' := 42) (ls' := [some (.ref b0), some (.int x1), some (.int x2)]) (st' := [.int 0]) rfl ?_
      cases h
      exact Q.ret (A.ri zm50 (show zM50.2.2.2.2.2[42]? = some (82, 1, .ireturn, []) from rfl) rfl rfl) hl
    · rw [if_neg hc2] at h
      refine Q.map (A.bF (gI_of zm50 (e := (61, 3, .if_icmp .gt 20, [41])) rfl) (fun q => hc2 (of_decide_eq_true q))) ?_
      refine Q.run zm50 2 (i' := 34) (ls' := [some (.ref b0), some (.int x1), some (.int x2)]) (st' := [.int x1, .int x2]) rfl ?_
      by_cases hc3 : x2 ≤ x1
      · rw [if_pos hc3] at h
        refine Q.map (A.bT (gI_of zm50 (e := (66, 3, .if_icmp .le 15, [41])) rfl) (decide_eq_true hc3)) ?_
        refine Q.run zm50 1 (i' := 42) (ls' := [some (.ref b0), some (.int x1), some (.int x2)]) (st' := [.int 0]) rfl ?_
        cases h
        exact Q.ret (A.ri zm50 (show zM50.2.2.2.2.2[42]? = some (82, 1, .ireturn, []) from rfl) rfl rfl) hl
      · rw [if_neg hc3] at h
        refine Q.map (A.bF (gI_of zm50 (e := (66, 3, .if_icmp .le 15, [41])) rfl) (fun q => hc3 (of_decide_eq_true q))) ?_
        refine Q.run zm50 2 (i' := 37) (ls' := [some (.ref b0), some (.int x1), some (.int x2)]) (st' := [.ref b0, .int x2]) rfl ?_
        obtain ⟨r6, hc5, h⟩ := bu_so h
        have hq4 : Q 1 sio tt cc d 28 0 [some (.ref b0)] [] s (.inl (some (.int r6)), s) := dt28 (by omega) hl hk_b0 hc5
        refine Q.callI (gC_vi zm50 (show zM50.2.2.2.2.2[37]? = some (71, 3, .invokevirtual 47, [0, 28, 0, 1]) from rfl) zm28 hk_b0.1 (hl.le hk_b0).1 rfl (show aCr 0 b0 [.ref b0, .int x2] 1 = some ([some (.ref b0)], [.int x2]) from rfl)) hq4 ?_
        by_cases hc7 : x2 = r6
        · rw [if_pos hc7] at h
          refine Q.map (A.bF (gI_of zm50 (e := (74, 3, .if_icmp .ne 7, [41])) rfl) (fun q => of_decide_eq_true q hc7)) ?_
          refine Q.run zm50 2 (i' := 42) (ls' := [some (.ref b0), some (.int x1), some (.int x2)]) (st' := [.int 1]) rfl ?_
          cases h
          exact Q.ret (A.ri zm50 (show zM50.2.2.2.2.2[42]? = some (82, 1, .ireturn, []) from rfl) rfl rfl) hl
        · rw [if_neg hc7] at h
          refine Q.map (A.bT (gI_of zm50 (e := (74, 3, .if_icmp .ne 7, [41])) rfl) (decide_eq_true hc7)) ?_
          refine Q.run zm50 1 (i' := 42) (ls' := [some (.ref b0), some (.int x1), some (.int x2)]) (st' := [.int 0]) rfl ?_
          cases h
          exact Q.ret (A.ri zm50 (show zM50.2.2.2.2.2[42]? = some (82, 1, .ireturn, []) from rfl) rfl rfl) hl
def dm50_15 : Nat → Nat → Int32 → Int32 → aS → Option (Int32)
  | 0, _, _, _, _ => none
  | n + 1, b0, x1, x2, s =>
    bu (dm28 b0 s) fun r3 =>
    if r3 ≤ x2 then
      dm50_26 b0 x1 x2 s
    else
      bu (dm34 b0 x2 s) fun r7 =>
      bu (dm47 r7) fun r10 =>
      if r10 = 0 then
        dm50_26 b0 x1 x2 s
      else
        dm50_15 n b0 x1 (x2 + 1) s
set_option maxRecDepth 100000 in
theorem dt50_15 {sio : Bool} {tt : Nat} {cc : Nat → Nat → Int32} {d : Nat} (hd : 1 ≤ d) : ∀ (n : Nat) {b0 : Nat} {x1 : Int32} {x2 : Int32} {s : aS} (_ : Ly tt cc s) (_ : aK s b0 1) {o : Int32} (_ : dm50_15  n b0 x1 x2 s = some o), Q 1 sio tt cc d 50 15 [some (.ref b0), some (.int x1), some (.int x2)] [] s (.inl (some (.int o)), s) := by
  obtain ⟨d, rfl⟩ : ∃ e, d = e + 1 := ⟨d - 1, by omega⟩
  intro n
  induction n with
  | zero => intro b0 x1 x2 s hl hk_b0 o h; rw [dm50_15] at h; cases h
  | succ n ih =>
    intro b0 x1 x2 s hl hk_b0 o h
    rw [dm50_15] at h
    refine Q.run zm50 2 (i' := 17) (ls' := [some (.ref b0), some (.int x1), some (.int x2)]) (st' := [.ref b0, .int x2]) rfl ?_
    obtain ⟨r3, hc2, h⟩ := bu_so h
    have hq1 : Q 1 sio tt cc d 28 0 [some (.ref b0)] [] s (.inl (some (.int r3)), s) := dt28 (by omega) hl hk_b0 hc2
    refine Q.callI (gC_vi zm50 (show zM50.2.2.2.2.2[17]? = some (31, 3, .invokevirtual 47, [0, 28, 0, 1]) from rfl) zm28 hk_b0.1 (hl.le hk_b0).1 rfl (show aCr 0 b0 [.ref b0, .int x2] 1 = some ([some (.ref b0)], [.int x2]) from rfl)) hq1 ?_
    by_cases hc4 : r3 ≤ x2
    · rw [if_pos hc4] at h
      refine Q.map (A.bT (gI_of zm50 (e := (34, 3, .if_icmp .ge 20, [26])) rfl) (decide_eq_true hc4)) ?_
      exact dt50_26 hd hl hk_b0 h
    · rw [if_neg hc4] at h
      refine Q.map (A.bF (gI_of zm50 (e := (34, 3, .if_icmp .ge 20, [26])) rfl) (fun q => hc4 (of_decide_eq_true q))) ?_
      refine Q.run zm50 2 (i' := 21) (ls' := [some (.ref b0), some (.int x1), some (.int x2)]) (st' := [.int x2, .ref b0]) rfl ?_
      obtain ⟨r7, hc6, h⟩ := bu_so h
      have hq5 : Q 1 sio tt cc d 34 0 [some (.ref b0), some (.int x2)] [] s (.inl (some (.int r7)), s) := dt34 (by omega) hl hk_b0 hc6
      refine Q.callI (gC_vi zm50 (show zM50.2.2.2.2.2[21]? = some (39, 3, .invokevirtual 32, [0, 34, 1, 1]) from rfl) zm34 hk_b0.1 (hl.le hk_b0).1 rfl (show aCr 1 b0 [.int x2, .ref b0] 2 = some ([some (.ref b0), some (.int x2)], []) from rfl)) hq5 ?_
      obtain ⟨r10, hc9, h⟩ := bu_so h
      have hq8 : Q 1 sio tt cc d 47 0 [some (.int r7)] [] s (.inl (some (.int r10)), s) := dt47 (by omega) hl  hc9
      refine Q.callI (gC_st zm50 (show zM50.2.2.2.2.2[22]? = some (42, 3, .invokestatic 88, [0, 47, 1]) from rfl) zm47 (show aC 1 [.int r7] 1 = some ([some (.int r7)], []) from rfl)) hq8 ?_
      by_cases hc11 : r10 = 0
      · rw [if_pos hc11] at h
        refine Q.map (A.zT (gI_of zm50 (e := (45, 3, .ifCond .eq 9, [26])) rfl) (decide_eq_true hc11)) ?_
        exact dt50_26 hd hl hk_b0 h
      · rw [if_neg hc11] at h
        refine Q.map (A.zF (gI_of zm50 (e := (45, 3, .ifCond .eq 9, [26])) rfl) (fun q => hc11 (of_decide_eq_true q))) ?_
        refine Q.run zm50 2 (i' := 15) (ls' := [some (.ref b0), some (.int x1), some (.int (x2 + 1))]) (st' := []) rfl ?_
        exact ih hl hk_b0 h
def dm50_13 (b0 : Nat) (x1 : Int32) (s : aS) : Option (Int32) :=
  dm50_15 5000 b0 x1 x1 s
set_option maxRecDepth 100000 in
theorem dt50_13 {sio : Bool} {tt : Nat} {cc : Nat → Nat → Int32} {d : Nat} (hd : 1 ≤ d) {b0 : Nat} {x1 : Int32} {s : aS} (hl : Ly tt cc s) (hk_b0 : aK s b0 1) {o : Int32} (h : dm50_13  b0 x1 s = some o) : Q 1 sio tt cc d 50 13 [some (.ref b0), some (.int x1), none] [] s (.inl (some (.int o)), s) := by
  unfold dm50_13 at h
  obtain ⟨d, rfl⟩ : ∃ e, d = e + 1 := ⟨d - 1, by omega⟩
  refine Q.run zm50 2 (i' := 15) (ls' := [some (.ref b0), some (.int x1), some (.int x1)]) (st' := []) rfl ?_
  exact dt50_15 hd _ hl hk_b0 h
def dm50_2 : Nat → Nat → Int32 → aS → Option (Int32)
  | 0, _, _, _ => none
  | n + 1, b0, x1, s =>
    bu (dm28 b0 s) fun r3 =>
    if r3 ≤ x1 then
      dm50_13 b0 x1 s
    else
      bu (dm34 b0 x1 s) fun r7 =>
      bu (dm45 r7) fun r10 =>
      if r10 = 0 then
        dm50_13 b0 x1 s
      else
        dm50_2 n b0 (x1 + 1) s
set_option maxRecDepth 100000 in
theorem dt50_2 {sio : Bool} {tt : Nat} {cc : Nat → Nat → Int32} {d : Nat} (hd : 1 ≤ d) : ∀ (n : Nat) {b0 : Nat} {x1 : Int32} {s : aS} (_ : Ly tt cc s) (_ : aK s b0 1) {o : Int32} (_ : dm50_2  n b0 x1 s = some o), Q 1 sio tt cc d 50 2 [some (.ref b0), some (.int x1), none] [] s (.inl (some (.int o)), s) := by
  obtain ⟨d, rfl⟩ : ∃ e, d = e + 1 := ⟨d - 1, by omega⟩
  intro n
  induction n with
  | zero => intro b0 x1 s hl hk_b0 o h; rw [dm50_2] at h; cases h
  | succ n ih =>
    intro b0 x1 s hl hk_b0 o h
    rw [dm50_2] at h
    refine Q.run zm50 2 (i' := 4) (ls' := [some (.ref b0), some (.int x1), none]) (st' := [.ref b0, .int x1]) rfl ?_
    obtain ⟨r3, hc2, h⟩ := bu_so h
    have hq1 : Q 1 sio tt cc d 28 0 [some (.ref b0)] [] s (.inl (some (.int r3)), s) := dt28 (by omega) hl hk_b0 hc2
    refine Q.callI (gC_vi zm50 (show zM50.2.2.2.2.2[4]? = some (4, 3, .invokevirtual 47, [0, 28, 0, 1]) from rfl) zm28 hk_b0.1 (hl.le hk_b0).1 rfl (show aCr 0 b0 [.ref b0, .int x1] 1 = some ([some (.ref b0)], [.int x1]) from rfl)) hq1 ?_
    by_cases hc4 : r3 ≤ x1
    · rw [if_pos hc4] at h
      refine Q.map (A.bT (gI_of zm50 (e := (7, 3, .if_icmp .ge 20, [13])) rfl) (decide_eq_true hc4)) ?_
      exact dt50_13 hd hl hk_b0 h
    · rw [if_neg hc4] at h
      refine Q.map (A.bF (gI_of zm50 (e := (7, 3, .if_icmp .ge 20, [13])) rfl) (fun q => hc4 (of_decide_eq_true q))) ?_
      refine Q.run zm50 2 (i' := 8) (ls' := [some (.ref b0), some (.int x1), none]) (st' := [.int x1, .ref b0]) rfl ?_
      obtain ⟨r7, hc6, h⟩ := bu_so h
      have hq5 : Q 1 sio tt cc d 34 0 [some (.ref b0), some (.int x1)] [] s (.inl (some (.int r7)), s) := dt34 (by omega) hl hk_b0 hc6
      refine Q.callI (gC_vi zm50 (show zM50.2.2.2.2.2[8]? = some (12, 3, .invokevirtual 32, [0, 34, 1, 1]) from rfl) zm34 hk_b0.1 (hl.le hk_b0).1 rfl (show aCr 1 b0 [.int x1, .ref b0] 2 = some ([some (.ref b0), some (.int x1)], []) from rfl)) hq5 ?_
      obtain ⟨r10, hc9, h⟩ := bu_so h
      have hq8 : Q 1 sio tt cc d 45 0 [some (.int r7)] [] s (.inl (some (.int r10)), s) := dt45 (by omega) hl  hc9
      refine Q.callI (gC_st zm50 (show zM50.2.2.2.2.2[9]? = some (15, 3, .invokestatic 83, [0, 45, 1]) from rfl) zm45 (show aC 1 [.int r7] 1 = some ([some (.int r7)], []) from rfl)) hq8 ?_
      by_cases hc11 : r10 = 0
      · rw [if_pos hc11] at h
        refine Q.map (A.zT (gI_of zm50 (e := (18, 3, .ifCond .eq 9, [13])) rfl) (decide_eq_true hc11)) ?_
        exact dt50_13 hd hl hk_b0 h
      · rw [if_neg hc11] at h
        refine Q.map (A.zF (gI_of zm50 (e := (18, 3, .ifCond .eq 9, [13])) rfl) (fun q => hc11 (of_decide_eq_true q))) ?_
        refine Q.run zm50 2 (i' := 2) (ls' := [some (.ref b0), some (.int (x1 + 1)), none]) (st' := []) rfl ?_
        exact ih hl hk_b0 h
def dm50 (b0 : Nat) (s : aS) : Option (Int32) :=
  dm50_2 5000 b0 0 s
set_option maxRecDepth 100000 in
theorem dt50 {sio : Bool} {tt : Nat} {cc : Nat → Nat → Int32} {d : Nat} (hd : 1 ≤ d) {b0 : Nat} {s : aS} (hl : Ly tt cc s) (hk_b0 : aK s b0 1) {o : Int32} (h : dm50  b0 s = some o) : Q 1 sio tt cc d 50 0 [some (.ref b0), none, none] [] s (.inl (some (.int o)), s) := by
  unfold dm50 at h
  obtain ⟨d, rfl⟩ : ∃ e, d = e + 1 := ⟨d - 1, by omega⟩
  refine Q.run zm50 2 (i' := 2) (ls' := [some (.ref b0), some (.int 0), none]) (st' := []) rfl ?_
  exact dt50_2 hd _ hl hk_b0 h
/-! 42 FormulaTrees$Sheets.needsQuotes(LFormulaTrees$Letters;)Z -/
set_option maxRecDepth 100000 in
theorem zm42 : zP[42]? = some zM42 := rfl
def dm42_23 (s : aS) : Option (Int32 × aS) :=
  some (1, s)
set_option maxRecDepth 100000 in
theorem dt42_23 {sio : Bool} {tt : Nat} {cc : Nat → Nat → Int32} {d : Nat} (hd : 6 ≤ d) {b0 : Nat} {x1 : Int32} {x2 : Int32} {s : aS} (hl : Ly tt cc s) {o : Int32 × aS} (h : dm42_23  s = some o) : Q 1 sio tt cc d 42 23 [some (.ref b0), some (.int x1), some (.int x2)] [] s (.inl (some (.int o.1)), o.2) := by
  unfold dm42_23 at h
  obtain ⟨d, rfl⟩ : ∃ e, d = e + 1 := ⟨d - 1, by omega⟩
  refine Q.run zm42 2 (i' := 26) (ls' := [some (.ref b0), some (.int x1), some (.int x2)]) (st' := [.int 1]) rfl ?_
  cases h
  exact Q.ret (A.ri zm42 (show zM42.2.2.2.2.2[26]? = some (46, 1, .ireturn, []) from rfl) rfl rfl) hl
def dm42_11 (b0 : Nat) (x1 : Int32) (y0 : Int32) (s : aS) : Option (Int32 × aS) :=
  if y0 = 0 then
    dm42_23 s
  else
    bv (dm48 b0 0 x1 s) fun r5 s4 =>
    if r5 = (-1) then
      bu (dm50 b0 s4) fun r10 =>
      if r10 = 0 then
        some (0, s4)
      else
        dm42_23 s4
    else
      dm42_23 s4
set_option maxRecDepth 100000 in
theorem dt42_11 {sio : Bool} {tt : Nat} {cc : Nat → Nat → Int32} {d : Nat} (hd : 6 ≤ d) {b0 : Nat} {x1 : Int32} {y0 : Int32} {s : aS} (hl : Ly tt cc s) (hk_b0 : aK s b0 1) {o : Int32 × aS} (h : dm42_11  b0 x1 y0 s = some o) : Q 1 sio tt cc d 42 11 [some (.ref b0), some (.int x1), none] [.int y0] s (.inl (some (.int o.1)), o.2) := by
  unfold dm42_11 at h
  obtain ⟨d, rfl⟩ : ∃ e, d = e + 1 := ⟨d - 1, by omega⟩
  refine Q.run zm42 2 (i' := 13) (ls' := [some (.ref b0), some (.int x1), some (.int y0)]) (st' := [.int y0]) rfl ?_
  by_cases hc1 : y0 = 0
  · rw [if_pos hc1] at h
    refine Q.map (A.zT (gI_of zm42 (e := (21, 3, .ifCond .eq 20, [23])) rfl) (decide_eq_true hc1)) ?_
    exact dt42_23 hd hl  h
  · rw [if_neg hc1] at h
    refine Q.map (A.zF (gI_of zm42 (e := (21, 3, .ifCond .eq 20, [23])) rfl) (fun q => hc1 (of_decide_eq_true q))) ?_
    refine Q.run zm42 3 (i' := 17) (ls' := [some (.ref b0), some (.int x1), some (.int y0)]) (st' := [.int x1, .int 0, .ref b0]) rfl ?_
    obtain ⟨r5, s4, hc3, h⟩ := bv_so h
    have hq2 : Q 1 sio tt cc d 48 0 [some (.ref b0), some (.int 0), some (.int x1)] [] s (.inl (some (.int r5)), s4) := dt48 (by omega) hl hk_b0 hc3
    refine Q.callI (gC_vi zm42 (show zM42.2.2.2.2.2[17]? = some (27, 3, .invokevirtual 76, [0, 48, 2, 1]) from rfl) zm48 hk_b0.1 (hl.le hk_b0).1 rfl (show aCr 2 b0 [.int x1, .int 0, .ref b0] 3 = some ([some (.ref b0), some (.int 0), some (.int x1)], []) from rfl)) hq2 ?_
    have hr6 : aK s4 b0 1 := hq2.2.1.k hk_b0
    refine Q.run zm42 1 (i' := 19) (ls' := [some (.ref b0), some (.int x1), some (.int y0)]) (st' := [.int (-1), .int r5]) rfl ?_
    by_cases hc7 : r5 = (-1)
    · rw [if_pos hc7] at h
      refine Q.map (A.bF (gI_of zm42 (e := (31, 3, .if_icmp .ne 10, [23])) rfl) (fun q => of_decide_eq_true q hc7)) ?_
      refine Q.run zm42 1 (i' := 21) (ls' := [some (.ref b0), some (.int x1), some (.int y0)]) (st' := [.ref b0]) rfl ?_
      obtain ⟨r10, hc9, h⟩ := bu_so h
      have hq8 : Q 1 sio tt cc d 50 0 [some (.ref b0), none, none] [] s4 (.inl (some (.int r10)), s4) := dt50 (by omega) hq2.1 hr6 hc9
      refine Q.callI (gC_st zm42 (show zM42.2.2.2.2.2[21]? = some (35, 3, .invokestatic 80, [0, 50, 1]) from rfl) zm50 (show aC 1 [.ref b0] 3 = some ([some (.ref b0), none, none], []) from rfl)) hq8 ?_
      by_cases hc11 : r10 = 0
      · rw [if_pos hc11] at h
        refine Q.map (A.zT (gI_of zm42 (e := (38, 3, .ifCond .eq 7, [25])) rfl) (decide_eq_true hc11)) ?_
        refine Q.run zm42 1 (i' := 26) (ls' := [some (.ref b0), some (.int x1), some (.int y0)]) (st' := [.int 0]) rfl ?_
        cases h
        exact Q.ret (A.ri zm42 (show zM42.2.2.2.2.2[26]? = some (46, 1, .ireturn, []) from rfl) rfl rfl) hq2.1
      · rw [if_neg hc11] at h
        refine Q.map (A.zF (gI_of zm42 (e := (38, 3, .ifCond .eq 7, [25])) rfl) (fun q => hc11 (of_decide_eq_true q))) ?_
        exact dt42_23 hd hq2.1  h
    · rw [if_neg hc7] at h
      refine Q.map (A.bT (gI_of zm42 (e := (31, 3, .if_icmp .ne 10, [23])) rfl) (decide_eq_true hc7)) ?_
      exact dt42_23 hd hq2.1  h
def dm42 (b0 : Nat) (s : aS) : Option (Int32 × aS) :=
  bu (dm28 b0 s) fun r3 =>
  bu (dm43 b0 0 s) fun r6 =>
  if r6 = r3 then
    dm42_11 b0 r3 1 s
  else
    dm42_11 b0 r3 0 s
set_option maxRecDepth 100000 in
theorem dt42 {sio : Bool} {tt : Nat} {cc : Nat → Nat → Int32} {d : Nat} (hd : 6 ≤ d) {b0 : Nat} {s : aS} (hl : Ly tt cc s) (hk_b0 : aK s b0 1) {o : Int32 × aS} (h : dm42  b0 s = some o) : Q 1 sio tt cc d 42 0 [some (.ref b0), none, none] [] s (.inl (some (.int o.1)), o.2) := by
  unfold dm42 at h
  obtain ⟨d, rfl⟩ : ∃ e, d = e + 1 := ⟨d - 1, by omega⟩
  refine Q.run zm42 1 (i' := 1) (ls' := [some (.ref b0), none, none]) (st' := [.ref b0]) rfl ?_
  obtain ⟨r3, hc2, h⟩ := bu_so h
  have hq1 : Q 1 sio tt cc d 28 0 [some (.ref b0)] [] s (.inl (some (.int r3)), s) := dt28 (by omega) hl hk_b0 hc2
  refine Q.callI (gC_vi zm42 (show zM42.2.2.2.2.2[1]? = some (1, 3, .invokevirtual 47, [0, 28, 0, 1]) from rfl) zm28 hk_b0.1 (hl.le hk_b0).1 rfl (show aCr 0 b0 [.ref b0] 1 = some ([some (.ref b0)], []) from rfl)) hq1 ?_
  refine Q.run zm42 3 (i' := 5) (ls' := [some (.ref b0), some (.int r3), none]) (st' := [.int 0, .ref b0]) rfl ?_
  obtain ⟨r6, hc5, h⟩ := bu_so h
  have hq4 : Q 1 sio tt cc d 43 0 [some (.ref b0), some (.int 0), none] [] s (.inl (some (.int r6)), s) := dt43 (by omega) hl hk_b0 hc5
  refine Q.callI (gC_vi zm42 (show zM42.2.2.2.2.2[5]? = some (7, 3, .invokevirtual 73, [0, 43, 1, 1]) from rfl) zm43 hk_b0.1 (hl.le hk_b0).1 rfl (show aCr 1 b0 [.int 0, .ref b0] 3 = some ([some (.ref b0), some (.int 0), none], []) from rfl)) hq4 ?_
  refine Q.run zm42 1 (i' := 7) (ls' := [some (.ref b0), some (.int r3), none]) (st' := [.int r3, .int r6]) rfl ?_
  by_cases hc7 : r6 = r3
  · rw [if_pos hc7] at h
    refine Q.map (A.bF (gI_of zm42 (e := (11, 3, .if_icmp .ne 7, [10])) rfl) (fun q => of_decide_eq_true q hc7)) ?_
    refine Q.run zm42 2 (i' := 11) (ls' := [some (.ref b0), some (.int r3), none]) (st' := [.int 1]) rfl ?_
    exact dt42_11 hd hl hk_b0 h
  · rw [if_neg hc7] at h
    refine Q.map (A.bT (gI_of zm42 (e := (11, 3, .if_icmp .ne 7, [10])) rfl) (decide_eq_true hc7)) ?_
    refine Q.run zm42 1 (i' := 11) (ls' := [some (.ref b0), some (.int r3), none]) (st' := [.int 0]) rfl ?_
    exact dt42_11 hd hl hk_b0 h
/-! 39 FormulaTrees$Sheets.giveName(ILFormulaTrees$Letters;)V -/
set_option maxRecDepth 100000 in
theorem zm39 : zP[39]? = some zM39 := rfl
def dm39 (x1 : Int32) (b2 : Nat) (s : aS) : Option (aS) :=
  bu (dm40 x1 s) fun r3 =>
  if r3 = 0 then
    some s
  else
    if aB x1 8 then
      bu (dm41 (84 + 2 * jN x1) b2 s) fun s10 =>
      bv (dm42 b2 s10) fun r16 s15 =>
      if aB x1 8 then
        nx (wI s15 83 (jN x1) (r16 &&& 1)) fun s20 =>
        some s20
      else none
    else none
set_option maxRecDepth 100000 in
theorem dt39 {sio : Bool} {tt : Nat} {cc : Nat → Nat → Int32} {d : Nat} (hd : 7 ≤ d) {x1 : Int32} {b2 : Nat} {s : aS} (hl : Ly tt cc s) (hk_b2 : aK s b2 1) {o : aS} (h : dm39  x1 b2 s = some o) : Q 1 sio tt cc d 39 0 [some (.ref 81), some (.int x1), some (.ref b2)] [] s (.inl none, o) := by
  unfold dm39 at h
  obtain ⟨d, rfl⟩ : ∃ e, d = e + 1 := ⟨d - 1, by omega⟩
  refine Q.run zm39 2 (i' := 2) (ls' := [some (.ref 81), some (.int x1), some (.ref b2)]) (st' := [.int x1, .ref 81]) rfl ?_
  obtain ⟨r3, hc2, h⟩ := bu_so h
  have hq1 : Q 1 sio tt cc d 40 0 [some (.ref 81), some (.int x1)] [] s (.inl (some (.int r3)), s) := dt40 (by omega) hl  hc2
  refine Q.callI (gC_vi zm39 (show zM39.2.2.2.2.2[2]? = some (2, 3, .invokevirtual 28, [0, 40, 1, 2]) from rfl) zm40 (hl.lt (a := 81) (by decide)) (hl.T (a := 81) (p := (2, 3)) 3 rfl rfl) rfl (show aCr 1 81 [.int x1, .ref 81] 2 = some ([some (.ref 81), some (.int x1)], []) from rfl)) hq1 ?_
  by_cases hc4 : r3 = 0
  · rw [if_pos hc4] at h
    refine Q.map (A.zT (gI_of zm39 (e := (5, 3, .ifCond .eq 23, [16])) rfl) (decide_eq_true hc4)) ?_
    cases h
    exact Q.ret (A.rv zm39 (show zM39.2.2.2.2.2[16]? = some (28, 1, .return_, []) from rfl) rfl) hl
  · rw [if_neg hc4] at h
    refine Q.map (A.zF (gI_of zm39 (e := (5, 3, .ifCond .eq 23, [16])) rfl) (fun q => hc4 (of_decide_eq_true q))) ?_
    refine Q.run zm39 1 (i' := 5) (ls' := [some (.ref 81), some (.int x1), some (.ref b2)]) (st' := [.ref 81]) rfl ?_
    refine Q.map (A.gf (gI_of zm39 (e := (9, 3, .getfield 11, [2, 0])) rfl) (hl.lt (a := 81) (by decide)) (hl.T (a := 81) (p := (2, 3)) 3 rfl rfl) (by decide) (hl.R 6 rfl)) ?_
    refine Q.run zm39 1 (i' := 7) (ls' := [some (.ref 81), some (.int x1), some (.ref b2)]) (st' := [.int x1, .ref 82]) rfl ?_
    obtain ⟨hc5, h⟩ := ite_so h
    have hn6 := lay_names hl hc5.2
    refine Q.map (A.aa (gI_of zm39 (e := (13, 1, .aaload, [])) rfl) (hl.lt (a := 82) (by decide)) (hl.T (a := 82) (p := (111, 8)) 4 rfl rfl) (by decide) hc5 hn6.2) ?_
    have hr7 := hn6.1
    refine Q.run zm39 1 (i' := 9) (ls' := [some (.ref 81), some (.int x1), some (.ref b2)]) (st' := [.ref b2, .ref (84 + 2 * jN x1)]) rfl ?_
    obtain ⟨s10, hc9, h⟩ := bu_so h
    have hq8 : Q 1 sio tt cc d 41 0 [some (.ref (84 + 2 * jN x1)), some (.ref b2), none] [] s (.inl none, s10) := dt41 (by omega) hl hr7 hk_b2 hc9
    refine Q.callV (gC_vi zm39 (show zM39.2.2.2.2.2[9]? = some (15, 3, .invokevirtual 66, [0, 41, 1, 1]) from rfl) zm41 hr7.1 (hl.le hr7).1 rfl (show aCr 1 (84 + 2 * jN x1) [.ref b2, .ref (84 + 2 * jN x1)] 3 = some ([some (.ref (84 + 2 * jN x1)), some (.ref b2), none], []) from rfl)) hq8 ?_
    have hr11 : aK s10 b2 1 := hq8.2.1.k hk_b2
    have hr12 : aK s10 (84 + 2 * jN x1) 1 := hq8.2.1.k hr7
    refine Q.run zm39 1 (i' := 11) (ls' := [some (.ref 81), some (.int x1), some (.ref b2)]) (st' := [.ref 81]) rfl ?_
    refine Q.map (A.gf (gI_of zm39 (e := (19, 3, .getfield 17, [2, 1])) rfl) (hq8.1.lt (a := 81) (by decide)) (hq8.1.T (a := 81) (p := (2, 3)) 3 rfl rfl) (by decide) (hq8.1.R 7 rfl)) ?_
    refine Q.run zm39 2 (i' := 14) (ls' := [some (.ref 81), some (.int x1), some (.ref b2)]) (st' := [.ref b2, .int x1, .ref 83]) rfl ?_
    obtain ⟨r16, s15, hc14, h⟩ := bv_so h
    have hq13 : Q 1 sio tt cc d 42 0 [some (.ref b2), none, none] [] s10 (.inl (some (.int r16)), s15) := dt42 (by omega) hq8.1 hr11 hc14
    refine Q.callI (gC_st zm39 (show zM39.2.2.2.2.2[14]? = some (24, 3, .invokestatic 70, [0, 42, 1]) from rfl) zm42 (show aC 1 [.ref b2, .int x1, .ref 83] 3 = some ([some (.ref b2), none, none], [.int x1, .ref 83]) from rfl)) hq13 ?_
    have hr17 : aK s15 b2 1 := hq13.2.1.k hr11
    have hr18 : aK s15 (84 + 2 * jN x1) 1 := hq13.2.1.k hr12
    obtain ⟨hc19, h⟩ := ite_so h
    obtain ⟨s20, hs21, h⟩ := nx_so h
    refine Q.bs hs21 rfl (gI_of zm39 (e := (27, 1, .bastore, [])) rfl) (hq13.1.lt (a := 83) (by decide)) (by decide) (hq13.1.T (a := 83) (p := (103, 8)) 5 rfl rfl) hc19 ?_
    have hl22 : Ly tt cc s20 := by rw [hs21]; exact hq13.1.wId (by decide)
    have hr23 : aK s20 b2 1 := by rw [hs21]; exact hr17
    have hr24 : aK s20 (84 + 2 * jN x1) 1 := by rw [hs21]; exact hr18
    cases h
    exact Q.ret (A.rv zm39 (show zM39.2.2.2.2.2[16]? = some (28, 1, .return_, []) from rfl) rfl) hl22
/-! 38 FormulaTrees$Sheets.found(LFormulaTrees$Letters;)I -/
set_option maxRecDepth 100000 in
theorem zm38 : zP[38]? = some zM38 := rfl
def dm38 (b1 : Nat) (s : aS) : Option (Int32 × aS) :=
  bu (dm37 s) fun r3 =>
  if r3 = 0 then
    nx (wI s 81 2 ((sI s 81 2) + 1)) fun s5 =>
    bu (dm39 ((sI s5 81 2) - 1) b1 s5) fun s11 =>
    some ((sI s11 81 2) - 1, s11)
  else
    some ((-1), s)
set_option maxRecDepth 100000 in
theorem dt38 {sio : Bool} {tt : Nat} {cc : Nat → Nat → Int32} {d : Nat} (hd : 8 ≤ d) {b1 : Nat} {s : aS} (hl : Ly tt cc s) (hk_b1 : aK s b1 1) {o : Int32 × aS} (h : dm38  b1 s = some o) : Q 1 sio tt cc d 38 0 [some (.ref 81), some (.ref b1)] [] s (.inl (some (.int o.1)), o.2) := by
  unfold dm38 at h
  obtain ⟨d, rfl⟩ : ∃ e, d = e + 1 := ⟨d - 1, by omega⟩
  refine Q.run zm38 1 (i' := 1) (ls' := [some (.ref 81), some (.ref b1)]) (st' := [.ref 81]) rfl ?_
  obtain ⟨r3, hc2, h⟩ := bu_so h
  have hq1 : Q 1 sio tt cc d 37 0 [some (.ref 81)] [] s (.inl (some (.int r3)), s) := dt37 (by omega) hl  hc2
  refine Q.callI (gC_vi zm38 (show zM38.2.2.2.2.2[1]? = some (1, 3, .invokevirtual 58, [0, 37, 0, 2]) from rfl) zm37 (hl.lt (a := 81) (by decide)) (hl.T (a := 81) (p := (2, 3)) 3 rfl rfl) rfl (show aCr 0 81 [.ref 81] 1 = some ([some (.ref 81)], []) from rfl)) hq1 ?_
  by_cases hc4 : r3 = 0
  · rw [if_pos hc4] at h
    refine Q.map (A.zT (gI_of zm38 (e := (4, 3, .ifCond .eq 5, [5])) rfl) (decide_eq_true hc4)) ?_
    refine Q.run zm38 2 (i' := 7) (ls' := [some (.ref 81), some (.ref b1)]) (st' := [.ref 81, .ref 81]) rfl ?_
    refine Q.map (A.gf (gI_of zm38 (e := (11, 3, .getfield 24, [2, 2])) rfl) (hl.lt (a := 81) (by decide)) (hl.T (a := 81) (p := (2, 3)) 3 rfl rfl) (by decide) rfl) ?_
    refine Q.run zm38 2 (i' := 10) (ls' := [some (.ref 81), some (.ref b1)]) (st' := [.int ((sI s 81 2) + 1), .ref 81]) rfl ?_
    obtain ⟨s5, hs6, h⟩ := nx_so h
    refine Q.pf hs6 rfl (gI_of zm38 (e := (16, 3, .putfield 24, [2, 2, 0])) rfl) (hl.lt (a := 81) (by decide)) (by decide) (hl.T (a := 81) (p := (2, 3)) 3 rfl rfl) (by decide) rfl rfl ?_
    have hl7 : Ly tt cc s5 := by rw [hs6]; exact hl.wId (by decide)
    have hr8 : aK s5 b1 1 := by rw [hs6]; exact hk_b1
    refine Q.run zm38 2 (i' := 13) (ls' := [some (.ref 81), some (.ref b1)]) (st' := [.ref 81, .ref 81]) rfl ?_
    refine Q.map (A.gf (gI_of zm38 (e := (21, 3, .getfield 24, [2, 2])) rfl) (hl7.lt (a := 81) (by decide)) (hl7.T (a := 81) (p := (2, 3)) 3 rfl rfl) (by decide) rfl) ?_
    refine Q.run zm38 3 (i' := 17) (ls' := [some (.ref 81), some (.ref b1)]) (st' := [.ref b1, .int ((sI s5 81 2) - 1), .ref 81]) rfl ?_
    obtain ⟨s11, hc10, h⟩ := bu_so h
    have hq9 : Q 1 sio tt cc d 39 0 [some (.ref 81), some (.int ((sI s5 81 2) - 1)), some (.ref b1)] [] s5 (.inl none, s11) := dt39 (by omega) hl7 hr8 hc10
    refine Q.callV (gC_vi zm38 (show zM38.2.2.2.2.2[17]? = some (27, 3, .invokevirtual 62, [0, 39, 2, 2]) from rfl) zm39 (hl7.lt (a := 81) (by decide)) (hl7.T (a := 81) (p := (2, 3)) 3 rfl rfl) rfl (show aCr 2 81 [.ref b1, .int ((sI s5 81 2) - 1), .ref 81] 3 = some ([some (.ref 81), some (.int ((sI s5 81 2) - 1)), some (.ref b1)], []) from rfl)) hq9 ?_
    have hr12 : aK s11 b1 1 := hq9.2.1.k hr8
    refine Q.run zm38 1 (i' := 19) (ls' := [some (.ref 81), some (.ref b1)]) (st' := [.ref 81]) rfl ?_
    refine Q.map (A.gf (gI_of zm38 (e := (31, 3, .getfield 24, [2, 2])) rfl) (hq9.1.lt (a := 81) (by decide)) (hq9.1.T (a := 81) (p := (2, 3)) 3 rfl rfl) (by decide) rfl) ?_
    refine Q.run zm38 2 (i' := 22) (ls' := [some (.ref 81), some (.ref b1)]) (st' := [.int ((sI s11 81 2) - 1)]) rfl ?_
    cases h
    exact Q.ret (A.ri zm38 (show zM38.2.2.2.2.2[22]? = some (36, 1, .ireturn, []) from rfl) rfl rfl) hq9.1
  · rw [if_neg hc4] at h
    refine Q.map (A.zF (gI_of zm38 (e := (4, 3, .ifCond .eq 5, [5])) rfl) (fun q => hc4 (of_decide_eq_true q))) ?_
    refine Q.run zm38 1 (i' := 4) (ls' := [some (.ref 81), some (.ref b1)]) (st' := [.int (-1)]) rfl ?_
    cases h
    exact Q.ret (A.ri zm38 (show zM38.2.2.2.2.2[4]? = some (8, 1, .ireturn, []) from rfl) rfl rfl) hl
/-! 30 FormulaTrees.sheet()I -/
set_option maxRecDepth 100000 in
theorem zm30 : zP[30]? = some zM30 := rfl
def dm30 (s : aS) : Option (xZ × aS) :=
  bu (dm31 79 (-1) s) fun r3 =>
  if r3 = 0 then
    some (.inr 0, nw s 80 0)
  else
    bu (dm37 s) fun r7 =>
    if r7 = 0 then
      bv (dm38 79 s) fun r12 s11 =>
      some (.inl (some (.int r12)), s11)
    else
      some (.inr 1, nw s 81 0)
set_option maxRecDepth 100000 in
theorem dt30 {sio : Bool} {tt : Nat} {cc : Nat → Nat → Int32} {d : Nat} (hd : 9 ≤ d) {s : aS} (hl : Ly tt cc s) {o : xZ × aS} (h : dm30  s = some o) : Q 1 sio tt cc d 30 0 [some (.ref 78)] [] s o := by
  unfold dm30 at h
  obtain ⟨d, rfl⟩ : ∃ e, d = e + 1 := ⟨d - 1, by omega⟩
  refine Q.run zm30 1 (i' := 1) (ls' := [some (.ref 78)]) (st' := [.ref 78]) rfl ?_
  refine Q.map (A.gf (gI_of zm30 (e := (1, 3, .getfield 21, [0, 1])) rfl) (hl.lt (a := 78) (by decide)) (hl.T (a := 78) (p := (0, 7)) 0 rfl rfl) (by decide) (hl.R 1 rfl)) ?_
  refine Q.run zm30 1 (i' := 3) (ls' := [some (.ref 78)]) (st' := [.ref 78, .ref 81]) rfl ?_
  refine Q.map (A.gf (gI_of zm30 (e := (5, 3, .getfield 14, [0, 0])) rfl) (hl.lt (a := 78) (by decide)) (hl.T (a := 78) (p := (0, 7)) 0 rfl rfl) (by decide) (hl.R 0 rfl)) ?_
  refine Q.run zm30 1 (i' := 5) (ls' := [some (.ref 78)]) (st' := [.int (-1), .ref 79, .ref 81]) rfl ?_
  obtain ⟨r3, hc2, h⟩ := bu_so h
  have hq1 : Q 1 sio tt cc d 31 0 [some (.ref 81), some (.ref 79), some (.int (-1)), none] [] s (.inl (some (.int r3)), s) := dt31 (by omega) hl (hl.Kd (a := 79) (c := 1) (n := 2) 1 rfl rfl (by decide)) hc2
  refine Q.callI (gC_vi zm30 (show zM30.2.2.2.2.2[5]? = some (9, 3, .invokevirtual 80, [0, 31, 2, 2]) from rfl) zm31 (hl.lt (a := 81) (by decide)) (hl.T (a := 81) (p := (2, 3)) 3 rfl rfl) rfl (show aCr 2 81 [.int (-1), .ref 79, .ref 81] 4 = some ([some (.ref 81), some (.ref 79), some (.int (-1)), none], []) from rfl)) hq1 ?_
  by_cases hc4 : r3 = 0
  · rw [if_pos hc4] at h
    refine Q.map (A.zF (gI_of zm30 (e := (12, 3, .ifCond .ne 13, [12])) rfl) (fun q => of_decide_eq_true q hc4)) ?_
    cases h
    exact Q.t zm30 (show zM30.2.2.2.2.2[7]? = some (15, 3, .new 58, [200]) from rfl) rfl rfl hl.gL (by omega) hl
  · rw [if_neg hc4] at h
    refine Q.map (A.zT (gI_of zm30 (e := (12, 3, .ifCond .ne 13, [12])) rfl) (decide_eq_true hc4)) ?_
    refine Q.run zm30 1 (i' := 13) (ls' := [some (.ref 78)]) (st' := [.ref 78]) rfl ?_
    refine Q.map (A.gf (gI_of zm30 (e := (26, 3, .getfield 21, [0, 1])) rfl) (hl.lt (a := 78) (by decide)) (hl.T (a := 78) (p := (0, 7)) 0 rfl rfl) (by decide) (hl.R 1 rfl)) ?_
    obtain ⟨r7, hc6, h⟩ := bu_so h
    have hq5 : Q 1 sio tt cc d 37 0 [some (.ref 81)] [] s (.inl (some (.int r7)), s) := dt37 (by omega) hl  hc6
    refine Q.callI (gC_vi zm30 (show zM30.2.2.2.2.2[14]? = some (29, 3, .invokevirtual 86, [0, 37, 0, 2]) from rfl) zm37 (hl.lt (a := 81) (by decide)) (hl.T (a := 81) (p := (2, 3)) 3 rfl rfl) rfl (show aCr 0 81 [.ref 81] 1 = some ([some (.ref 81)], []) from rfl)) hq5 ?_
    by_cases hc8 : r7 = 0
    · rw [if_pos hc8] at h
      refine Q.map (A.zT (gI_of zm30 (e := (32, 3, .ifCond .eq 13, [21])) rfl) (decide_eq_true hc8)) ?_
      refine Q.run zm30 1 (i' := 22) (ls' := [some (.ref 78)]) (st' := [.ref 78]) rfl ?_
      refine Q.map (A.gf (gI_of zm30 (e := (46, 3, .getfield 21, [0, 1])) rfl) (hl.lt (a := 78) (by decide)) (hl.T (a := 78) (p := (0, 7)) 0 rfl rfl) (by decide) (hl.R 1 rfl)) ?_
      refine Q.run zm30 1 (i' := 24) (ls' := [some (.ref 78)]) (st' := [.ref 78, .ref 81]) rfl ?_
      refine Q.map (A.gf (gI_of zm30 (e := (50, 3, .getfield 14, [0, 0])) rfl) (hl.lt (a := 78) (by decide)) (hl.T (a := 78) (p := (0, 7)) 0 rfl rfl) (by decide) (hl.R 0 rfl)) ?_
      obtain ⟨r12, s11, hc10, h⟩ := bv_so h
      have hq9 : Q 1 sio tt cc d 38 0 [some (.ref 81), some (.ref 79)] [] s (.inl (some (.int r12)), s11) := dt38 (by omega) hl (hl.Kd (a := 79) (c := 1) (n := 2) 1 rfl rfl (by decide)) hc10
      refine Q.callI (gC_vi zm30 (show zM30.2.2.2.2.2[25]? = some (53, 3, .invokevirtual 92, [0, 38, 1, 2]) from rfl) zm38 (hl.lt (a := 81) (by decide)) (hl.T (a := 81) (p := (2, 3)) 3 rfl rfl) rfl (show aCr 1 81 [.ref 79, .ref 81] 2 = some ([some (.ref 81), some (.ref 79)], []) from rfl)) hq9 ?_
      cases h
      exact Q.ret (A.ri zm30 (show zM30.2.2.2.2.2[26]? = some (56, 1, .ireturn, []) from rfl) rfl rfl) hq9.1
    · rw [if_neg hc8] at h
      refine Q.map (A.zF (gI_of zm30 (e := (32, 3, .ifCond .eq 13, [21])) rfl) (fun q => hc8 (of_decide_eq_true q))) ?_
      cases h
      exact Q.t zm30 (show zM30.2.2.2.2.2[16]? = some (35, 3, .new 69, [201]) from rfl) rfl rfl hl.gL (by omega) hl
/-! 2 FormulaTreesLaw.sheet(LFormulaTrees;[J)I -/
set_option maxRecDepth 100000 in
theorem zm2 : zP[2]? = some zM2 := rfl
def dm2 (s : aS) : Option (Int32 × aS) :=
  bv (dm30 s) fun z4 s3 =>
  zN z4 (fun v5 =>
    vI v5 fun r7 =>
    if aB 0 1 then
      nx (wJ s3 148 (jN 0) r7.toInt64) fun s10 =>
      some (0, s10)
    else none
  ) fun e6 =>
    if e6 = 0 then
      some (1, s3)
    else
      if e6 = 1 then
        some (2, s3)
      else
        none
set_option maxRecDepth 100000 in
theorem dt2 {sio : Bool} {tt : Nat} {cc : Nat → Nat → Int32} {d : Nat} (hd : 10 ≤ d) {s : aS} (hl : Ly tt cc s) {o : Int32 × aS} (h : dm2  s = some o) : Q 1 sio tt cc d 2 0 [some (.ref 78), some (.ref 148), none] [] s (.inl (some (.int o.1)), o.2) := by
  unfold dm2 at h
  obtain ⟨d, rfl⟩ : ∃ e, d = e + 1 := ⟨d - 1, by omega⟩
  refine Q.run zm2 3 (i' := 3) (ls' := [some (.ref 78), some (.ref 148), none]) (st' := [.ref 78, .int 0, .ref 148]) rfl ?_
  obtain ⟨z4, s3, hc2, h⟩ := bv_so h
  have hq1 : Q 1 sio tt cc d 30 0 [some (.ref 78)] [] s (z4, s3) := dt30 (by omega) hl  hc2
  rcases zN_so h with ⟨v5, hz13, h8⟩ | ⟨e6, hz13, h8⟩
  · clear h
    subst hz13
    have h := h8
    obtain ⟨r7, hv8, h9⟩ := vI_so h
    clear h
    subst hv8
    have h := h9
    refine Q.callI (gC_vi zm2 (show zM2.2.2.2.2.2[3]? = some (3, 3, .invokevirtual 17, [0, 30, 0, 0]) from rfl) zm30 (hl.lt (a := 78) (by decide)) (hl.T (a := 78) (p := (0, 7)) 0 rfl rfl) rfl (show aCr 0 78 [.ref 78, .int 0, .ref 148] 1 = some ([some (.ref 78)], [.int 0, .ref 148]) from rfl)) hq1 ?_
    refine Q.run zm2 1 (i' := 5) (ls' := [some (.ref 78), some (.ref 148), none]) (st' := [.long r7.toInt64, .int 0, .ref 148]) rfl ?_
    obtain ⟨hc9, h⟩ := ite_so h
    obtain ⟨s10, hs11, h⟩ := nx_so h
    refine Q.lS hs11 rfl (gI_of zm2 (e := (7, 1, .lastore, [])) rfl) (hq1.1.lt (a := 148) (by decide)) (by decide) (hq1.1.T (a := 148) (p := (104, 1)) 70 rfl rfl) hc9 ?_
    have hl12 : Ly tt cc s10 := by rw [hs11]; exact hq1.1.wJd
    refine Q.run zm2 2 (i' := 14) (ls' := [some (.ref 78), some (.ref 148), none]) (st' := [.int 0]) rfl ?_
    cases h
    exact Q.ret (A.ri zm2 (show zM2.2.2.2.2.2[14]? = some (18, 1, .ireturn, []) from rfl) rfl rfl) hl12
  · clear h
    subst hz13
    have h := h8
    by_cases hc14 : e6 = 0
    · rw [if_pos hc14] at h
      subst hc14
      refine Q.hc (gC_vi zm2 (show zM2.2.2.2.2.2[3]? = some (3, 3, .invokevirtual 17, [0, 30, 0, 0]) from rfl) zm30 (hl.lt (a := 78) (by decide)) (hl.T (a := 78) (p := (0, 7)) 0 rfl rfl) rfl (show aCr 0 78 [.ref 78, .int 0, .ref 148] 1 = some ([some (.ref 78)], [.int 0, .ref 148]) from rfl)) hq1 (t := 7) rfl ?_
      refine Q.run zm2 2 (i' := 9) (ls' := [some (.ref 78), some (.ref 148), some (.ref (sL s3 - 1))]) (st' := [.int 1]) rfl ?_
      cases h
      exact Q.ret (A.ri zm2 (show zM2.2.2.2.2.2[9]? = some (13, 1, .ireturn, []) from rfl) rfl rfl) hq1.1
    · rw [if_neg hc14] at h
      by_cases hc15 : e6 = 1
      · rw [if_pos hc15] at h
        subst hc15
        refine Q.hc (gC_vi zm2 (show zM2.2.2.2.2.2[3]? = some (3, 3, .invokevirtual 17, [0, 30, 0, 0]) from rfl) zm30 (hl.lt (a := 78) (by decide)) (hl.T (a := 78) (p := (0, 7)) 0 rfl rfl) rfl (show aCr 0 78 [.ref 78, .int 0, .ref 148] 1 = some ([some (.ref 78)], [.int 0, .ref 148]) from rfl)) hq1 (t := 10) rfl ?_
        refine Q.run zm2 2 (i' := 12) (ls' := [some (.ref 78), some (.ref 148), some (.ref (sL s3 - 1))]) (st' := [.int 2]) rfl ?_
        cases h
        exact Q.ret (A.ri zm2 (show zM2.2.2.2.2.2[12]? = some (16, 1, .ireturn, []) from rfl) rfl rfl) hq1.1
      · rw [if_neg hc15] at h
        cases h
/-! 176 FormulaTreesModel.ch(I)I -/
set_option maxRecDepth 100000 in
theorem zm176 : zP[176]? = some zM176 := rfl
def dm176 (x1 : Int32) (s : aS) : Option (Int32) :=
  if (sI s 121 1) ≤ x1 then
    some 0
  else
    if aB x1 256 then
      some (sI s 122 (jN x1))
    else none
set_option maxRecDepth 100000 in
theorem dt176 {sio : Bool} {tt : Nat} {cc : Nat → Nat → Int32} {d : Nat} (hd : 0 ≤ d) {x1 : Int32} {s : aS} (hl : Ly tt cc s) {o : Int32} (h : dm176  x1 s = some o) : Q 2 sio tt cc d 176 0 [some (.ref 121), some (.int x1)] [] s (.inl (some (.int o)), s) := by
  unfold dm176 at h
  refine Q.run zm176 2 (i' := 2) (ls' := [some (.ref 121), some (.int x1)]) (st' := [.ref 121, .int x1]) rfl ?_
  refine Q.map (A.gf (gI_of zm176 (e := (2, 3, .getfield 103, [9, 1])) rfl) (hl.lt (a := 121) (by decide)) (hl.T (a := 121) (p := (9, 45)) 43 rfl rfl) (by decide) rfl) ?_
  by_cases hc1 : (sI s 121 1) ≤ x1
  · rw [if_pos hc1] at h
    refine Q.map (A.bT (gI_of zm176 (e := (5, 3, .if_icmp .ge 12, [9])) rfl) (decide_eq_true hc1)) ?_
    refine Q.run zm176 1 (i' := 10) (ls' := [some (.ref 121), some (.int x1)]) (st' := [.int 0]) rfl ?_
    cases h
    exact Q.ret (A.ri zm176 (show zM176.2.2.2.2.2[10]? = some (18, 1, .ireturn, []) from rfl) rfl rfl) hl
  · rw [if_neg hc1] at h
    refine Q.map (A.bF (gI_of zm176 (e := (5, 3, .if_icmp .ge 12, [9])) rfl) (fun q => hc1 (of_decide_eq_true q))) ?_
    refine Q.run zm176 1 (i' := 5) (ls' := [some (.ref 121), some (.int x1)]) (st' := [.ref 121]) rfl ?_
    refine Q.map (A.gf (gI_of zm176 (e := (9, 3, .getfield 7, [9, 2])) rfl) (hl.lt (a := 121) (by decide)) (hl.T (a := 121) (p := (9, 45)) 43 rfl rfl) (by decide) (hl.R 23 rfl)) ?_
    refine Q.run zm176 1 (i' := 7) (ls' := [some (.ref 121), some (.int x1)]) (st' := [.int x1, .ref 122]) rfl ?_
    obtain ⟨hc2, h⟩ := ite_so h
    refine Q.map (A.ia (gI_of zm176 (e := (13, 1, .iaload, [])) rfl) (hl.lt (a := 122) (by decide)) (hl.T (a := 122) (p := (100, 256)) 44 rfl rfl) hc2) ?_
    refine Q.run zm176 1 (i' := 10) (ls' := [some (.ref 121), some (.int x1)]) (st' := [.int (sI s 122 (jN x1))]) rfl ?_
    cases h
    exact Q.ret (A.ri zm176 (show zM176.2.2.2.2.2[10]? = some (18, 1, .ireturn, []) from rfl) rfl rfl) hl
/-! 175 FormulaTreesModel.isName()Z -/
set_option maxRecDepth 100000 in
theorem zm175 : zP[175]? = some zM175 := rfl
def dm175_62 (k27 : Int32 → Int32 → aS → Option (Int32)) (x2 : Int32) (y0 : Int32) (s : aS) : Option (Int32) :=
  k27 y0 (x2 + 1) s
set_option maxRecDepth 100000 in
theorem dt175_62 {sio : Bool} {tt : Nat} {cc : Nat → Nat → Int32} {d : Nat} (hd : 1 ≤ d) {k27 : Int32 → Int32 → aS → Option (Int32)} (hk27 : ∀ {x1 : Int32} {x2 : Int32} {g3 : Option Value} {s : aS}, Ly tt cc s → ∀ {o : Int32}, k27 x1 x2 s = some o → Q 2 sio tt cc d 175 27 [some (.ref 121), some (.int x1), some (.int x2), g3] [] s (.inl (some (.int o)), s)) {x2 : Int32} {y0 : Int32} {x1 : Int32} {x3 : Int32} {s : aS} (hl : Ly tt cc s) {o : Int32} (h : dm175_62 k27 x2 y0 s = some o) : Q 2 sio tt cc d 175 62 [some (.ref 121), some (.int x1), some (.int x2), some (.int x3)] [.int y0] s (.inl (some (.int o)), s) := by
  unfold dm175_62 at h
  obtain ⟨d, rfl⟩ : ∃ e, d = e + 1 := ⟨d - 1, by omega⟩
  refine Q.run zm175 3 (i' := 27) (ls' := [some (.ref 121), some (.int y0), some (.int (x2 + 1)), some (.int x3)]) (st' := []) rfl ?_
  exact hk27 hl  h
def dm175_61 (k27 : Int32 → Int32 → aS → Option (Int32)) (x2 : Int32) (s : aS) : Option (Int32) :=
  dm175_62 k27 x2 0 s
set_option maxRecDepth 100000 in
theorem dt175_61 {sio : Bool} {tt : Nat} {cc : Nat → Nat → Int32} {d : Nat} (hd : 1 ≤ d) {k27 : Int32 → Int32 → aS → Option (Int32)} (hk27 : ∀ {x1 : Int32} {x2 : Int32} {g3 : Option Value} {s : aS}, Ly tt cc s → ∀ {o : Int32}, k27 x1 x2 s = some o → Q 2 sio tt cc d 175 27 [some (.ref 121), some (.int x1), some (.int x2), g3] [] s (.inl (some (.int o)), s)) {x2 : Int32} {x1 : Int32} {x3 : Int32} {s : aS} (hl : Ly tt cc s) {o : Int32} (h : dm175_61 k27 x2 s = some o) : Q 2 sio tt cc d 175 61 [some (.ref 121), some (.int x1), some (.int x2), some (.int x3)] [] s (.inl (some (.int o)), s) := by
  unfold dm175_61 at h
  obtain ⟨d, rfl⟩ : ∃ e, d = e + 1 := ⟨d - 1, by omega⟩
  refine Q.run zm175 1 (i' := 62) (ls' := [some (.ref 121), some (.int x1), some (.int x2), some (.int x3)]) (st' := [.int 0]) rfl ?_
  exact dt175_62 hd hk27 hl  h
def dm175_27 : Nat → Int32 → Int32 → aS → Option (Int32)
  | 0, _, _, _ => none
  | n + 1, x1, x2, s =>
    if (sI s 121 1) ≤ x2 then
      if x1 = 0 ∨ x1 = 1 then
        some x1
      else none
    else
      if x1 = 0 then
        if x1 = 0 ∨ x1 = 1 then
          some x1
        else none
      else
        if aB x2 256 then
          if (sI s 122 (jN x2)) = 58 then
            dm175_61 (dm175_27 n) x2 s
          else
            if (sI s 122 (jN x2)) = 92 then
              dm175_61 (dm175_27 n) x2 s
            else
              if (sI s 122 (jN x2)) = 47 then
                dm175_61 (dm175_27 n) x2 s
              else
                if (sI s 122 (jN x2)) = 63 then
                  dm175_61 (dm175_27 n) x2 s
                else
                  if (sI s 122 (jN x2)) = 42 then
                    dm175_61 (dm175_27 n) x2 s
                  else
                    if (sI s 122 (jN x2)) = 91 then
                      dm175_61 (dm175_27 n) x2 s
                    else
                      if (sI s 122 (jN x2)) = 93 then
                        dm175_61 (dm175_27 n) x2 s
                      else
                        dm175_62 (dm175_27 n) x2 1 s
        else none
set_option maxRecDepth 100000 in
theorem dt175_27 {sio : Bool} {tt : Nat} {cc : Nat → Nat → Int32} {d : Nat} (hd : 1 ≤ d) : ∀ (n : Nat) {x1 : Int32} {x2 : Int32} {g3 : Option Value} {s : aS} (_ : Ly tt cc s) {o : Int32} (_ : dm175_27  n x1 x2 s = some o), Q 2 sio tt cc d 175 27 [some (.ref 121), some (.int x1), some (.int x2), g3] [] s (.inl (some (.int o)), s) := by
  obtain ⟨d, rfl⟩ : ∃ e, d = e + 1 := ⟨d - 1, by omega⟩
  intro n
  induction n with
  | zero => intro x1 x2 g3 s hl o h; rw [dm175_27] at h; cases h
  | succ n ih =>
    intro x1 x2 g3 s hl o h
    rw [dm175_27] at h
    refine Q.run zm175 2 (i' := 29) (ls' := [some (.ref 121), some (.int x1), some (.int x2), g3]) (st' := [.ref 121, .int x2]) rfl ?_
    refine Q.map (A.gf (gI_of zm175 (e := (52, 3, .getfield 103, [9, 1])) rfl) (hl.lt (a := 121) (by decide)) (hl.T (a := 121) (p := (9, 45)) 43 rfl rfl) (by decide) rfl) ?_
    by_cases hc1 : (sI s 121 1) ≤ x2
    · rw [if_pos hc1] at h
      refine Q.map (A.bT (gI_of zm175 (e := (55, 3, .if_icmp .ge 68, [65])) rfl) (decide_eq_true hc1)) ?_
      refine Q.run zm175 1 (i' := 66) (ls' := [some (.ref 121), some (.int x1), some (.int x2), g3]) (st' := [.int x1]) rfl ?_
      obtain ⟨hc2, h⟩ := ite_so h
      cases h
      exact Q.ret (A.ri zm175 (show zM175.2.2.2.2.2[66]? = some (124, 1, .ireturn, []) from rfl) rfl (fit1 hc2)) hl
    · rw [if_neg hc1] at h
      refine Q.map (A.bF (gI_of zm175 (e := (55, 3, .if_icmp .ge 68, [65])) rfl) (fun q => hc1 (of_decide_eq_true q))) ?_
      refine Q.run zm175 1 (i' := 32) (ls' := [some (.ref 121), some (.int x1), some (.int x2), g3]) (st' := [.int x1]) rfl ?_
      by_cases hc3 : x1 = 0
      · rw [if_pos hc3] at h
        refine Q.map (A.zT (gI_of zm175 (e := (59, 3, .ifCond .eq 64, [65])) rfl) (decide_eq_true hc3)) ?_
        refine Q.run zm175 1 (i' := 66) (ls' := [some (.ref 121), some (.int x1), some (.int x2), g3]) (st' := [.int x1]) rfl ?_
        obtain ⟨hc4, h⟩ := ite_so h
        cases h
        exact Q.ret (A.ri zm175 (show zM175.2.2.2.2.2[66]? = some (124, 1, .ireturn, []) from rfl) rfl (fit1 hc4)) hl
      · rw [if_neg hc3] at h
        refine Q.map (A.zF (gI_of zm175 (e := (59, 3, .ifCond .eq 64, [65])) rfl) (fun q => hc3 (of_decide_eq_true q))) ?_
        refine Q.run zm175 1 (i' := 34) (ls' := [some (.ref 121), some (.int x1), some (.int x2), g3]) (st' := [.ref 121]) rfl ?_
        refine Q.map (A.gf (gI_of zm175 (e := (63, 3, .getfield 7, [9, 2])) rfl) (hl.lt (a := 121) (by decide)) (hl.T (a := 121) (p := (9, 45)) 43 rfl rfl) (by decide) (hl.R 23 rfl)) ?_
        refine Q.run zm175 1 (i' := 36) (ls' := [some (.ref 121), some (.int x1), some (.int x2), g3]) (st' := [.int x2, .ref 122]) rfl ?_
        obtain ⟨hc5, h⟩ := ite_so h
        refine Q.map (A.ia (gI_of zm175 (e := (67, 1, .iaload, [])) rfl) (hl.lt (a := 122) (by decide)) (hl.T (a := 122) (p := (100, 256)) 44 rfl rfl) hc5) ?_
        refine Q.run zm175 3 (i' := 40) (ls' := [some (.ref 121), some (.int x1), some (.int x2), some (.int (sI s 122 (jN x2)))]) (st' := [.int 58, .int (sI s 122 (jN x2))]) rfl ?_
        by_cases hc6 : (sI s 122 (jN x2)) = 58
        · rw [if_pos hc6] at h
          refine Q.map (A.bT (gI_of zm175 (e := (72, 3, .if_icmp .eq 43, [61])) rfl) (decide_eq_true hc6)) ?_
          exact dt175_61 hd ih hl  h
        · rw [if_neg hc6] at h
          refine Q.map (A.bF (gI_of zm175 (e := (72, 3, .if_icmp .eq 43, [61])) rfl) (fun q => hc6 (of_decide_eq_true q))) ?_
          refine Q.run zm175 2 (i' := 43) (ls' := [some (.ref 121), some (.int x1), some (.int x2), some (.int (sI s 122 (jN x2)))]) (st' := [.int 92, .int (sI s 122 (jN x2))]) rfl ?_
          by_cases hc7 : (sI s 122 (jN x2)) = 92
          · rw [if_pos hc7] at h
            refine Q.map (A.bT (gI_of zm175 (e := (78, 3, .if_icmp .eq 37, [61])) rfl) (decide_eq_true hc7)) ?_
            exact dt175_61 hd ih hl  h
          · rw [if_neg hc7] at h
            refine Q.map (A.bF (gI_of zm175 (e := (78, 3, .if_icmp .eq 37, [61])) rfl) (fun q => hc7 (of_decide_eq_true q))) ?_
            refine Q.run zm175 2 (i' := 46) (ls' := [some (.ref 121), some (.int x1), some (.int x2), some (.int (sI s 122 (jN x2)))]) (st' := [.int 47, .int (sI s 122 (jN x2))]) rfl ?_
            by_cases hc8 : (sI s 122 (jN x2)) = 47
            · rw [if_pos hc8] at h
              refine Q.map (A.bT (gI_of zm175 (e := (84, 3, .if_icmp .eq 31, [61])) rfl) (decide_eq_true hc8)) ?_
              exact dt175_61 hd ih hl  h
            · rw [if_neg hc8] at h
              refine Q.map (A.bF (gI_of zm175 (e := (84, 3, .if_icmp .eq 31, [61])) rfl) (fun q => hc8 (of_decide_eq_true q))) ?_
              refine Q.run zm175 2 (i' := 49) (ls' := [some (.ref 121), some (.int x1), some (.int x2), some (.int (sI s 122 (jN x2)))]) (st' := [.int 63, .int (sI s 122 (jN x2))]) rfl ?_
              by_cases hc9 : (sI s 122 (jN x2)) = 63
              · rw [if_pos hc9] at h
                refine Q.map (A.bT (gI_of zm175 (e := (90, 3, .if_icmp .eq 25, [61])) rfl) (decide_eq_true hc9)) ?_
                exact dt175_61 hd ih hl  h
              · rw [if_neg hc9] at h
                refine Q.map (A.bF (gI_of zm175 (e := (90, 3, .if_icmp .eq 25, [61])) rfl) (fun q => hc9 (of_decide_eq_true q))) ?_
                refine Q.run zm175 2 (i' := 52) (ls' := [some (.ref 121), some (.int x1), some (.int x2), some (.int (sI s 122 (jN x2)))]) (st' := [.int 42, .int (sI s 122 (jN x2))]) rfl ?_
                by_cases hc10 : (sI s 122 (jN x2)) = 42
                · rw [if_pos hc10] at h
                  refine Q.map (A.bT (gI_of zm175 (e := (96, 3, .if_icmp .eq 19, [61])) rfl) (decide_eq_true hc10)) ?_
                  exact dt175_61 hd ih hl  h
                · rw [if_neg hc10] at h
                  refine Q.map (A.bF (gI_of zm175 (e := (96, 3, .if_icmp .eq 19, [61])) rfl) (fun q => hc10 (of_decide_eq_true q))) ?_
                  refine Q.run zm175 2 (i' := 55) (ls' := [some (.ref 121), some (.int x1), some (.int x2), some (.int (sI s 122 (jN x2)))]) (st' := [.int 91, .int (sI s 122 (jN x2))]) rfl ?_
                  by_cases hc11 : (sI s 122 (jN x2)) = 91
                  · rw [if_pos hc11] at h
                    refine Q.map (A.bT (gI_of zm175 (e := (102, 3, .if_icmp .eq 13, [61])) rfl) (decide_eq_true hc11)) ?_
                    exact dt175_61 hd ih hl  h
                  · rw [if_neg hc11] at h
                    refine Q.map (A.bF (gI_of zm175 (e := (102, 3, .if_icmp .eq 13, [61])) rfl) (fun q => hc11 (of_decide_eq_true q))) ?_
                    refine Q.run zm175 2 (i' := 58) (ls' := [some (.ref 121), some (.int x1), some (.int x2), some (.int (sI s 122 (jN x2)))]) (st' := [.int 93, .int (sI s 122 (jN x2))]) rfl ?_
                    by_cases hc12 : (sI s 122 (jN x2)) = 93
                    · rw [if_pos hc12] at h
                      refine Q.map (A.bT (gI_of zm175 (e := (108, 3, .if_icmp .eq 7, [61])) rfl) (decide_eq_true hc12)) ?_
                      exact dt175_61 hd ih hl  h
                    · rw [if_neg hc12] at h
                      refine Q.map (A.bF (gI_of zm175 (e := (108, 3, .if_icmp .eq 7, [61])) rfl) (fun q => hc12 (of_decide_eq_true q))) ?_
                      refine Q.run zm175 2 (i' := 62) (ls' := [some (.ref 121), some (.int x1), some (.int x2), some (.int (sI s 122 (jN x2)))]) (st' := [.int 1]) rfl ?_
                      exact dt175_62 hd ih hl  h
def dm175_24 (y0 : Int32) (s : aS) : Option (Int32) :=
  dm175_27 5000 y0 0 s
set_option maxRecDepth 100000 in
theorem dt175_24 {sio : Bool} {tt : Nat} {cc : Nat → Nat → Int32} {d : Nat} (hd : 1 ≤ d) {y0 : Int32} {s : aS} (hl : Ly tt cc s) {o : Int32} (h : dm175_24  y0 s = some o) : Q 2 sio tt cc d 175 24 [some (.ref 121), none, none, none] [.int y0] s (.inl (some (.int o)), s) := by
  unfold dm175_24 at h
  obtain ⟨d, rfl⟩ : ∃ e, d = e + 1 := ⟨d - 1, by omega⟩
  refine Q.run zm175 3 (i' := 27) (ls' := [some (.ref 121), some (.int y0), some (.int 0), none]) (st' := []) rfl ?_
  exact dt175_27 hd _ hl  h
def dm175_23 (s : aS) : Option (Int32) :=
  dm175_24 0 s
set_option maxRecDepth 100000 in
theorem dt175_23 {sio : Bool} {tt : Nat} {cc : Nat → Nat → Int32} {d : Nat} (hd : 1 ≤ d) {s : aS} (hl : Ly tt cc s) {o : Int32} (h : dm175_23  s = some o) : Q 2 sio tt cc d 175 23 [some (.ref 121), none, none, none] [] s (.inl (some (.int o)), s) := by
  unfold dm175_23 at h
  obtain ⟨d, rfl⟩ : ∃ e, d = e + 1 := ⟨d - 1, by omega⟩
  refine Q.run zm175 1 (i' := 24) (ls' := [some (.ref 121), none, none, none]) (st' := [.int 0]) rfl ?_
  exact dt175_24 hd hl  h
def dm175 (s : aS) : Option (Int32) :=
  if (sI s 121 1) < 1 then
    dm175_23 s
  else
    if 31 < (sI s 121 1) then
      dm175_23 s
    else
      bu (dm176 0 s) fun r5 =>
      if r5 = 39 then
        dm175_23 s
      else
        bu (dm176 ((sI s 121 1) - 1) s) fun r9 =>
        if r9 = 39 then
          dm175_23 s
        else
          dm175_24 1 s
set_option maxRecDepth 100000 in
theorem dt175 {sio : Bool} {tt : Nat} {cc : Nat → Nat → Int32} {d : Nat} (hd : 1 ≤ d) {s : aS} (hl : Ly tt cc s) {o : Int32} (h : dm175  s = some o) : Q 2 sio tt cc d 175 0 [some (.ref 121), none, none, none] [] s (.inl (some (.int o)), s) := by
  unfold dm175 at h
  obtain ⟨d, rfl⟩ : ∃ e, d = e + 1 := ⟨d - 1, by omega⟩
  refine Q.run zm175 1 (i' := 1) (ls' := [some (.ref 121), none, none, none]) (st' := [.ref 121]) rfl ?_
  refine Q.map (A.gf (gI_of zm175 (e := (1, 3, .getfield 103, [9, 1])) rfl) (hl.lt (a := 121) (by decide)) (hl.T (a := 121) (p := (9, 45)) 43 rfl rfl) (by decide) rfl) ?_
  refine Q.run zm175 1 (i' := 3) (ls' := [some (.ref 121), none, none, none]) (st' := [.int 1, .int (sI s 121 1)]) rfl ?_
  by_cases hc1 : (sI s 121 1) < 1
  · rw [if_pos hc1] at h
    refine Q.map (A.bT (gI_of zm175 (e := (5, 3, .if_icmp .lt 41, [23])) rfl) (decide_eq_true hc1)) ?_
    exact dt175_23 hd hl  h
  · rw [if_neg hc1] at h
    refine Q.map (A.bF (gI_of zm175 (e := (5, 3, .if_icmp .lt 41, [23])) rfl) (fun q => hc1 (of_decide_eq_true q))) ?_
    refine Q.run zm175 1 (i' := 5) (ls' := [some (.ref 121), none, none, none]) (st' := [.ref 121]) rfl ?_
    refine Q.map (A.gf (gI_of zm175 (e := (9, 3, .getfield 103, [9, 1])) rfl) (hl.lt (a := 121) (by decide)) (hl.T (a := 121) (p := (9, 45)) 43 rfl rfl) (by decide) rfl) ?_
    refine Q.run zm175 1 (i' := 7) (ls' := [some (.ref 121), none, none, none]) (st' := [.int 31, .int (sI s 121 1)]) rfl ?_
    by_cases hc2 : 31 < (sI s 121 1)
    · rw [if_pos hc2] at h
      refine Q.map (A.bT (gI_of zm175 (e := (14, 3, .if_icmp .gt 32, [23])) rfl) (decide_eq_true hc2)) ?_
      exact dt175_23 hd hl  h
    · rw [if_neg hc2] at h
      refine Q.map (A.bF (gI_of zm175 (e := (14, 3, .if_icmp .gt 32, [23])) rfl) (fun q => hc2 (of_decide_eq_true q))) ?_
      refine Q.run zm175 2 (i' := 10) (ls' := [some (.ref 121), none, none, none]) (st' := [.int 0, .ref 121]) rfl ?_
      obtain ⟨r5, hc4, h⟩ := bu_so h
      have hq3 : Q 2 sio tt cc d 176 0 [some (.ref 121), some (.int 0)] [] s (.inl (some (.int r5)), s) := dt176 (by omega) hl  hc4
      refine Q.callI (gC_vi zm175 (show zM175.2.2.2.2.2[10]? = some (19, 3, .invokevirtual 113, [0, 176, 1, 9]) from rfl) zm176 (hl.lt (a := 121) (by decide)) (hl.T (a := 121) (p := (9, 45)) 43 rfl rfl) rfl (show aCr 1 121 [.int 0, .ref 121] 2 = some ([some (.ref 121), some (.int 0)], []) from rfl)) hq3 ?_
      refine Q.run zm175 1 (i' := 12) (ls' := [some (.ref 121), none, none, none]) (st' := [.int 39, .int r5]) rfl ?_
      by_cases hc6 : r5 = 39
      · rw [if_pos hc6] at h
        refine Q.map (A.bT (gI_of zm175 (e := (24, 3, .if_icmp .eq 22, [23])) rfl) (decide_eq_true hc6)) ?_
        exact dt175_23 hd hl  h
      · rw [if_neg hc6] at h
        refine Q.map (A.bF (gI_of zm175 (e := (24, 3, .if_icmp .eq 22, [23])) rfl) (fun q => hc6 (of_decide_eq_true q))) ?_
        refine Q.run zm175 2 (i' := 15) (ls' := [some (.ref 121), none, none, none]) (st' := [.ref 121, .ref 121]) rfl ?_
        refine Q.map (A.gf (gI_of zm175 (e := (29, 3, .getfield 103, [9, 1])) rfl) (hl.lt (a := 121) (by decide)) (hl.T (a := 121) (p := (9, 45)) 43 rfl rfl) (by decide) rfl) ?_
        refine Q.run zm175 2 (i' := 18) (ls' := [some (.ref 121), none, none, none]) (st' := [.int ((sI s 121 1) - 1), .ref 121]) rfl ?_
        obtain ⟨r9, hc8, h⟩ := bu_so h
        have hq7 : Q 2 sio tt cc d 176 0 [some (.ref 121), some (.int ((sI s 121 1) - 1))] [] s (.inl (some (.int r9)), s) := dt176 (by omega) hl  hc8
        refine Q.callI (gC_vi zm175 (show zM175.2.2.2.2.2[18]? = some (34, 3, .invokevirtual 113, [0, 176, 1, 9]) from rfl) zm176 (hl.lt (a := 121) (by decide)) (hl.T (a := 121) (p := (9, 45)) 43 rfl rfl) rfl (show aCr 1 121 [.int ((sI s 121 1) - 1), .ref 121] 2 = some ([some (.ref 121), some (.int ((sI s 121 1) - 1))], []) from rfl)) hq7 ?_
        refine Q.run zm175 1 (i' := 20) (ls' := [some (.ref 121), none, none, none]) (st' := [.int 39, .int r9]) rfl ?_
        by_cases hc10 : r9 = 39
        · rw [if_pos hc10] at h
          refine Q.map (A.bT (gI_of zm175 (e := (39, 3, .if_icmp .eq 7, [23])) rfl) (decide_eq_true hc10)) ?_
          exact dt175_23 hd hl  h
        · rw [if_neg hc10] at h
          refine Q.map (A.bF (gI_of zm175 (e := (39, 3, .if_icmp .eq 7, [23])) rfl) (fun q => hc10 (of_decide_eq_true q))) ?_
          refine Q.run zm175 2 (i' := 24) (ls' := [some (.ref 121), none, none, none]) (st' := [.int 1]) rfl ?_
          exact dt175_24 hd hl  h
/-! 178 FormulaTreesModel.great(I)I -/
set_option maxRecDepth 100000 in
theorem zm178 : zP[178]? = some zM178 := rfl
def dm178 (x0 : Int32) : Option (Int32) :=
  if x0 < 97 then
    some x0
  else
    if 122 < x0 then
      some x0
    else
      some (x0 - 32)
set_option maxRecDepth 100000 in
theorem dt178 {sio : Bool} {tt : Nat} {cc : Nat → Nat → Int32} {d : Nat} (hd : 0 ≤ d) {x0 : Int32} {s : aS} (hl : Ly tt cc s) {o : Int32} (h : dm178  x0 = some o) : Q 2 sio tt cc d 178 0 [some (.int x0)] [] s (.inl (some (.int o)), s) := by
  unfold dm178 at h
  refine Q.run zm178 2 (i' := 2) (ls' := [some (.int x0)]) (st' := [.int 97, .int x0]) rfl ?_
  by_cases hc1 : x0 < 97
  · rw [if_pos hc1] at h
    refine Q.map (A.bT (gI_of zm178 (e := (3, 3, .if_icmp .lt 16, [10])) rfl) (decide_eq_true hc1)) ?_
    refine Q.run zm178 1 (i' := 11) (ls' := [some (.int x0)]) (st' := [.int x0]) rfl ?_
    cases h
    exact Q.ret (A.ri zm178 (show zM178.2.2.2.2.2[11]? = some (20, 1, .ireturn, []) from rfl) rfl rfl) hl
  · rw [if_neg hc1] at h
    refine Q.map (A.bF (gI_of zm178 (e := (3, 3, .if_icmp .lt 16, [10])) rfl) (fun q => hc1 (of_decide_eq_true q))) ?_
    refine Q.run zm178 2 (i' := 5) (ls' := [some (.int x0)]) (st' := [.int 122, .int x0]) rfl ?_
    by_cases hc2 : 122 < x0
    · rw [if_pos hc2] at h
      refine Q.map (A.bT (gI_of zm178 (e := (9, 3, .if_icmp .gt 10, [10])) rfl) (decide_eq_true hc2)) ?_
      refine Q.run zm178 1 (i' := 11) (ls' := [some (.int x0)]) (st' := [.int x0]) rfl ?_
      cases h
      exact Q.ret (A.ri zm178 (show zM178.2.2.2.2.2[11]? = some (20, 1, .ireturn, []) from rfl) rfl rfl) hl
    · rw [if_neg hc2] at h
      refine Q.map (A.bF (gI_of zm178 (e := (9, 3, .if_icmp .gt 10, [10])) rfl) (fun q => hc2 (of_decide_eq_true q))) ?_
      refine Q.run zm178 4 (i' := 11) (ls' := [some (.int x0)]) (st' := [.int (x0 - 32)]) rfl ?_
      cases h
      exact Q.ret (A.ri zm178 (show zM178.2.2.2.2.2[11]? = some (20, 1, .ireturn, []) from rfl) rfl rfl) hl
/-! 177 FormulaTreesModel.sheetNamed([III)I -/
set_option maxRecDepth 100000 in
theorem zm177 : zP[177]? = some zM177 := rfl
def dm177_45 (k2 : Nat → Int32 → Int32 → Int32 → aS → Option (Int32)) (b1 : Nat) (x2 : Int32) (x3 : Int32) (x4 : Int32) (x5 : Int32) (s : aS) : Option (Int32) :=
  if x5 = 0 then
    k2 b1 x2 x3 (x4 + 1) s
  else
    some x4
set_option maxRecDepth 100000 in
theorem dt177_45 {sio : Bool} {tt : Nat} {cc : Nat → Nat → Int32} {d : Nat} (hd : 1 ≤ d) {k2 : Nat → Int32 → Int32 → Int32 → aS → Option (Int32)} (hk2 : ∀ {b1 : Nat} {x2 : Int32} {x3 : Int32} {x4 : Int32} {g5 : Option Value} {g6 : Option Value} {s : aS}, Ly tt cc s → aK s b1 100 → ∀ {o : Int32}, k2 b1 x2 x3 x4 s = some o → Q 2 sio tt cc d 177 2 [some (.ref 121), some (.ref b1), some (.int x2), some (.int x3), some (.int x4), g5, g6] [] s (.inl (some (.int o)), s)) {b1 : Nat} {x2 : Int32} {x3 : Int32} {x4 : Int32} {x5 : Int32} {x6 : Int32} {s : aS} (hl : Ly tt cc s) (hk_b1 : aK s b1 100) {o : Int32} (h : dm177_45 k2 b1 x2 x3 x4 x5 s = some o) : Q 2 sio tt cc d 177 45 [some (.ref 121), some (.ref b1), some (.int x2), some (.int x3), some (.int x4), some (.int x5), some (.int x6)] [] s (.inl (some (.int o)), s) := by
  unfold dm177_45 at h
  obtain ⟨d, rfl⟩ : ∃ e, d = e + 1 := ⟨d - 1, by omega⟩
  refine Q.run zm177 1 (i' := 46) (ls' := [some (.ref 121), some (.ref b1), some (.int x2), some (.int x3), some (.int x4), some (.int x5), some (.int x6)]) (st' := [.int x5]) rfl ?_
  by_cases hc1 : x5 = 0
  · rw [if_pos hc1] at h
    refine Q.map (A.zT (gI_of zm177 (e := (87, 3, .ifCond .eq 6, [49])) rfl) (decide_eq_true hc1)) ?_
    refine Q.run zm177 2 (i' := 2) (ls' := [some (.ref 121), some (.ref b1), some (.int x2), some (.int x3), some (.int (x4 + 1)), some (.int x5), some (.int x6)]) (st' := []) rfl ?_
    exact hk2 hl hk_b1 h
  · rw [if_neg hc1] at h
    refine Q.map (A.zF (gI_of zm177 (e := (87, 3, .ifCond .eq 6, [49])) rfl) (fun q => hc1 (of_decide_eq_true q))) ?_
    refine Q.run zm177 1 (i' := 48) (ls' := [some (.ref 121), some (.ref b1), some (.int x2), some (.int x3), some (.int x4), some (.int x5), some (.int x6)]) (st' := [.int x4]) rfl ?_
    cases h
    exact Q.ret (A.ri zm177 (show zM177.2.2.2.2.2[48]? = some (92, 1, .ireturn, []) from rfl) rfl rfl) hl
def dm177_42 (k2 : Nat → Int32 → Int32 → Int32 → aS → Option (Int32)) (k18 : Nat → Int32 → Int32 → Int32 → Int32 → Int32 → aS → Option (Int32)) (b1 : Nat) (x2 : Int32) (x3 : Int32) (x4 : Int32) (x6 : Int32) (y0 : Int32) (s : aS) : Option (Int32) :=
  k18 b1 x2 x3 x4 y0 (x6 + 1) s
set_option maxRecDepth 100000 in
theorem dt177_42 {sio : Bool} {tt : Nat} {cc : Nat → Nat → Int32} {d : Nat} (hd : 1 ≤ d) {k2 : Nat → Int32 → Int32 → Int32 → aS → Option (Int32)} (hk2 : ∀ {b1 : Nat} {x2 : Int32} {x3 : Int32} {x4 : Int32} {g5 : Option Value} {g6 : Option Value} {s : aS}, Ly tt cc s → aK s b1 100 → ∀ {o : Int32}, k2 b1 x2 x3 x4 s = some o → Q 2 sio tt cc d 177 2 [some (.ref 121), some (.ref b1), some (.int x2), some (.int x3), some (.int x4), g5, g6] [] s (.inl (some (.int o)), s)) {k18 : Nat → Int32 → Int32 → Int32 → Int32 → Int32 → aS → Option (Int32)} (hk18 : ∀ {b1 : Nat} {x2 : Int32} {x3 : Int32} {x4 : Int32} {x5 : Int32} {x6 : Int32} {s : aS}, Ly tt cc s → aK s b1 100 → ∀ {o : Int32}, k18 b1 x2 x3 x4 x5 x6 s = some o → Q 2 sio tt cc d 177 18 [some (.ref 121), some (.ref b1), some (.int x2), some (.int x3), some (.int x4), some (.int x5), some (.int x6)] [] s (.inl (some (.int o)), s)) {b1 : Nat} {x2 : Int32} {x3 : Int32} {x4 : Int32} {x6 : Int32} {y0 : Int32} {x5 : Int32} {s : aS} (hl : Ly tt cc s) (hk_b1 : aK s b1 100) {o : Int32} (h : dm177_42 k2 k18 b1 x2 x3 x4 x6 y0 s = some o) : Q 2 sio tt cc d 177 42 [some (.ref 121), some (.ref b1), some (.int x2), some (.int x3), some (.int x4), some (.int x5), some (.int x6)] [.int y0] s (.inl (some (.int o)), s) := by
  unfold dm177_42 at h
  obtain ⟨d, rfl⟩ : ∃ e, d = e + 1 := ⟨d - 1, by omega⟩
  refine Q.run zm177 3 (i' := 18) (ls' := [some (.ref 121), some (.ref b1), some (.int x2), some (.int x3), some (.int x4), some (.int y0), some (.int (x6 + 1))]) (st' := []) rfl ?_
  exact hk18 hl hk_b1 h
def dm177_18 (k2 : Nat → Int32 → Int32 → Int32 → aS → Option (Int32)) : Nat → Nat → Int32 → Int32 → Int32 → Int32 → Int32 → aS → Option (Int32)
  | 0, _, _, _, _, _, _, _ => none
  | n + 1, b1, x2, x3, x4, x5, x6, s =>
    if x3 ≤ x6 then
      dm177_45 k2 b1 x2 x3 x4 x5 s
    else
      if x5 = 0 then
        dm177_45 k2 b1 x2 x3 x4 x5 s
      else
        if aB ((32 * x4) + x6) 256 then
          bu (dm178 (sI s 124 (jN ((32 * x4) + x6)))) fun r6 =>
          if aB (x2 + x6) (sT s b1).2 then
            bu (dm178 (sI s b1 (jN (x2 + x6)))) fun r10 =>
            if r6 = r10 then
              dm177_42 k2 (dm177_18 k2 n) b1 x2 x3 x4 x6 1 s
            else
              dm177_42 k2 (dm177_18 k2 n) b1 x2 x3 x4 x6 0 s
          else none
        else none
set_option maxRecDepth 100000 in
theorem dt177_18 {sio : Bool} {tt : Nat} {cc : Nat → Nat → Int32} {d : Nat} (hd : 1 ≤ d) {k2 : Nat → Int32 → Int32 → Int32 → aS → Option (Int32)} (hk2 : ∀ {b1 : Nat} {x2 : Int32} {x3 : Int32} {x4 : Int32} {g5 : Option Value} {g6 : Option Value} {s : aS}, Ly tt cc s → aK s b1 100 → ∀ {o : Int32}, k2 b1 x2 x3 x4 s = some o → Q 2 sio tt cc d 177 2 [some (.ref 121), some (.ref b1), some (.int x2), some (.int x3), some (.int x4), g5, g6] [] s (.inl (some (.int o)), s)) : ∀ (n : Nat) {b1 : Nat} {x2 : Int32} {x3 : Int32} {x4 : Int32} {x5 : Int32} {x6 : Int32} {s : aS} (_ : Ly tt cc s) (_ : aK s b1 100) {o : Int32} (_ : dm177_18 k2 n b1 x2 x3 x4 x5 x6 s = some o), Q 2 sio tt cc d 177 18 [some (.ref 121), some (.ref b1), some (.int x2), some (.int x3), some (.int x4), some (.int x5), some (.int x6)] [] s (.inl (some (.int o)), s) := by
  obtain ⟨d, rfl⟩ : ∃ e, d = e + 1 := ⟨d - 1, by omega⟩
  intro n
  induction n with
  | zero => intro b1 x2 x3 x4 x5 x6 s hl hk_b1 o h; rw [dm177_18] at h; cases h
  | succ n ih =>
    intro b1 x2 x3 x4 x5 x6 s hl hk_b1 o h
    rw [dm177_18] at h
    refine Q.run zm177 2 (i' := 20) (ls' := [some (.ref 121), some (.ref b1), some (.int x2), some (.int x3), some (.int x4), some (.int x5), some (.int x6)]) (st' := [.int x3, .int x6]) rfl ?_
    by_cases hc1 : x3 ≤ x6
    · rw [if_pos hc1] at h
      refine Q.map (A.bT (gI_of zm177 (e := (36, 3, .if_icmp .ge 49, [45])) rfl) (decide_eq_true hc1)) ?_
      exact dt177_45 hd hk2 hl hk_b1 h
    · rw [if_neg hc1] at h
      refine Q.map (A.bF (gI_of zm177 (e := (36, 3, .if_icmp .ge 49, [45])) rfl) (fun q => hc1 (of_decide_eq_true q))) ?_
      refine Q.run zm177 1 (i' := 22) (ls' := [some (.ref 121), some (.ref b1), some (.int x2), some (.int x3), some (.int x4), some (.int x5), some (.int x6)]) (st' := [.int x5]) rfl ?_
      by_cases hc2 : x5 = 0
      · rw [if_pos hc2] at h
        refine Q.map (A.zT (gI_of zm177 (e := (41, 3, .ifCond .eq 44, [45])) rfl) (decide_eq_true hc2)) ?_
        exact dt177_45 hd hk2 hl hk_b1 h
      · rw [if_neg hc2] at h
        refine Q.map (A.zF (gI_of zm177 (e := (41, 3, .ifCond .eq 44, [45])) rfl) (fun q => hc2 (of_decide_eq_true q))) ?_
        refine Q.run zm177 1 (i' := 24) (ls' := [some (.ref 121), some (.ref b1), some (.int x2), some (.int x3), some (.int x4), some (.int x5), some (.int x6)]) (st' := [.ref 121]) rfl ?_
        refine Q.map (A.gf (gI_of zm177 (e := (45, 3, .getfield 16, [9, 5])) rfl) (hl.lt (a := 121) (by decide)) (hl.T (a := 121) (p := (9, 45)) 43 rfl rfl) (by decide) (hl.R 25 rfl)) ?_
        refine Q.run zm177 5 (i' := 30) (ls' := [some (.ref 121), some (.ref b1), some (.int x2), some (.int x3), some (.int x4), some (.int x5), some (.int x6)]) (st' := [.int ((32 * x4) + x6), .ref 124]) rfl ?_
        obtain ⟨hc3, h⟩ := ite_so h
        refine Q.map (A.ia (gI_of zm177 (e := (56, 1, .iaload, [])) rfl) (hl.lt (a := 124) (by decide)) (hl.T (a := 124) (p := (100, 256)) 46 rfl rfl) hc3) ?_
        obtain ⟨r6, hc5, h⟩ := bu_so h
        have hq4 : Q 2 sio tt cc d 178 0 [some (.int (sI s 124 (jN ((32 * x4) + x6))))] [] s (.inl (some (.int r6)), s) := dt178 (by omega) hl  hc5
        refine Q.callI (gC_st zm177 (show zM177.2.2.2.2.2[31]? = some (57, 3, .invokestatic 109, [0, 178, 1]) from rfl) zm178 (show aC 1 [.int (sI s 124 (jN ((32 * x4) + x6)))] 1 = some ([some (.int (sI s 124 (jN ((32 * x4) + x6))))], []) from rfl)) hq4 ?_
        refine Q.run zm177 4 (i' := 36) (ls' := [some (.ref 121), some (.ref b1), some (.int x2), some (.int x3), some (.int x4), some (.int x5), some (.int x6)]) (st' := [.int (x2 + x6), .ref b1, .int r6]) rfl ?_
        obtain ⟨hc7, h⟩ := ite_so h
        refine Q.map (A.ia (gI_of zm177 (e := (65, 1, .iaload, [])) rfl) hk_b1.1 (pr2 hk_b1.2) hc7) ?_
        obtain ⟨r10, hc9, h⟩ := bu_so h
        have hq8 : Q 2 sio tt cc d 178 0 [some (.int (sI s b1 (jN (x2 + x6))))] [] s (.inl (some (.int r10)), s) := dt178 (by omega) hl  hc9
        refine Q.callI (gC_st zm177 (show zM177.2.2.2.2.2[37]? = some (66, 3, .invokestatic 109, [0, 178, 1]) from rfl) zm178 (show aC 1 [.int (sI s b1 (jN (x2 + x6))), .int r6] 1 = some ([some (.int (sI s b1 (jN (x2 + x6))))], [.int r6]) from rfl)) hq8 ?_
        by_cases hc11 : r6 = r10
        · rw [if_pos hc11] at h
          refine Q.map (A.bF (gI_of zm177 (e := (69, 3, .if_icmp .ne 7, [41])) rfl) (fun q => of_decide_eq_true q hc11)) ?_
          refine Q.run zm177 2 (i' := 42) (ls' := [some (.ref 121), some (.ref b1), some (.int x2), some (.int x3), some (.int x4), some (.int x5), some (.int x6)]) (st' := [.int 1]) rfl ?_
          exact dt177_42 hd hk2 ih hl hk_b1 h
        · rw [if_neg hc11] at h
          refine Q.map (A.bT (gI_of zm177 (e := (69, 3, .if_icmp .ne 7, [41])) rfl) (decide_eq_true hc11)) ?_
          refine Q.run zm177 1 (i' := 42) (ls' := [some (.ref 121), some (.ref b1), some (.int x2), some (.int x3), some (.int x4), some (.int x5), some (.int x6)]) (st' := [.int 0]) rfl ?_
          exact dt177_42 hd hk2 ih hl hk_b1 h
def dm177_15 (k2 : Nat → Int32 → Int32 → Int32 → aS → Option (Int32)) (b1 : Nat) (x2 : Int32) (x3 : Int32) (x4 : Int32) (y0 : Int32) (s : aS) : Option (Int32) :=
  dm177_18 k2 5000 b1 x2 x3 x4 y0 0 s
set_option maxRecDepth 100000 in
theorem dt177_15 {sio : Bool} {tt : Nat} {cc : Nat → Nat → Int32} {d : Nat} (hd : 1 ≤ d) {k2 : Nat → Int32 → Int32 → Int32 → aS → Option (Int32)} (hk2 : ∀ {b1 : Nat} {x2 : Int32} {x3 : Int32} {x4 : Int32} {g5 : Option Value} {g6 : Option Value} {s : aS}, Ly tt cc s → aK s b1 100 → ∀ {o : Int32}, k2 b1 x2 x3 x4 s = some o → Q 2 sio tt cc d 177 2 [some (.ref 121), some (.ref b1), some (.int x2), some (.int x3), some (.int x4), g5, g6] [] s (.inl (some (.int o)), s)) {b1 : Nat} {x2 : Int32} {x3 : Int32} {x4 : Int32} {y0 : Int32} {g5 : Option Value} {g6 : Option Value} {s : aS} (hl : Ly tt cc s) (hk_b1 : aK s b1 100) {o : Int32} (h : dm177_15 k2 b1 x2 x3 x4 y0 s = some o) : Q 2 sio tt cc d 177 15 [some (.ref 121), some (.ref b1), some (.int x2), some (.int x3), some (.int x4), g5, g6] [.int y0] s (.inl (some (.int o)), s) := by
  unfold dm177_15 at h
  obtain ⟨d, rfl⟩ : ∃ e, d = e + 1 := ⟨d - 1, by omega⟩
  refine Q.run zm177 3 (i' := 18) (ls' := [some (.ref 121), some (.ref b1), some (.int x2), some (.int x3), some (.int x4), some (.int y0), some (.int 0)]) (st' := []) rfl ?_
  exact dt177_18 hd hk2 _ hl hk_b1 h
def dm177_2 : Nat → Nat → Int32 → Int32 → Int32 → aS → Option (Int32)
  | 0, _, _, _, _, _ => none
  | n + 1, b1, x2, x3, x4, s =>
    if (sI s 121 3) ≤ x4 then
      some (-1)
    else
      if aB x4 8 then
        if (sI s 123 (jN x4)) = x3 then
          dm177_15 (dm177_2 n) b1 x2 x3 x4 1 s
        else
          dm177_15 (dm177_2 n) b1 x2 x3 x4 0 s
      else none
set_option maxRecDepth 100000 in
theorem dt177_2 {sio : Bool} {tt : Nat} {cc : Nat → Nat → Int32} {d : Nat} (hd : 1 ≤ d) : ∀ (n : Nat) {b1 : Nat} {x2 : Int32} {x3 : Int32} {x4 : Int32} {g5 : Option Value} {g6 : Option Value} {s : aS} (_ : Ly tt cc s) (_ : aK s b1 100) {o : Int32} (_ : dm177_2  n b1 x2 x3 x4 s = some o), Q 2 sio tt cc d 177 2 [some (.ref 121), some (.ref b1), some (.int x2), some (.int x3), some (.int x4), g5, g6] [] s (.inl (some (.int o)), s) := by
  obtain ⟨d, rfl⟩ : ∃ e, d = e + 1 := ⟨d - 1, by omega⟩
  intro n
  induction n with
  | zero => intro b1 x2 x3 x4 g5 g6 s hl hk_b1 o h; rw [dm177_2] at h; cases h
  | succ n ih =>
    intro b1 x2 x3 x4 g5 g6 s hl hk_b1 o h
    rw [dm177_2] at h
    refine Q.run zm177 2 (i' := 4) (ls' := [some (.ref 121), some (.ref b1), some (.int x2), some (.int x3), some (.int x4), g5, g6]) (st' := [.ref 121, .int x4]) rfl ?_
    refine Q.map (A.gf (gI_of zm177 (e := (6, 3, .getfield 106, [9, 3])) rfl) (hl.lt (a := 121) (by decide)) (hl.T (a := 121) (p := (9, 45)) 43 rfl rfl) (by decide) rfl) ?_
    by_cases hc1 : (sI s 121 3) ≤ x4
    · rw [if_pos hc1] at h
      refine Q.map (A.bT (gI_of zm177 (e := (9, 3, .if_icmp .ge 90, [51])) rfl) (decide_eq_true hc1)) ?_
      refine Q.run zm177 1 (i' := 52) (ls' := [some (.ref 121), some (.ref b1), some (.int x2), some (.int x3), some (.int x4), g5, g6]) (st' := [.int (-1)]) rfl ?_
      cases h
      exact Q.ret (A.ri zm177 (show zM177.2.2.2.2.2[52]? = some (100, 1, .ireturn, []) from rfl) rfl rfl) hl
    · rw [if_neg hc1] at h
      refine Q.map (A.bF (gI_of zm177 (e := (9, 3, .if_icmp .ge 90, [51])) rfl) (fun q => hc1 (of_decide_eq_true q))) ?_
      refine Q.run zm177 1 (i' := 7) (ls' := [some (.ref 121), some (.ref b1), some (.int x2), some (.int x3), some (.int x4), g5, g6]) (st' := [.ref 121]) rfl ?_
      refine Q.map (A.gf (gI_of zm177 (e := (13, 3, .getfield 13, [9, 4])) rfl) (hl.lt (a := 121) (by decide)) (hl.T (a := 121) (p := (9, 45)) 43 rfl rfl) (by decide) (hl.R 24 rfl)) ?_
      refine Q.run zm177 1 (i' := 9) (ls' := [some (.ref 121), some (.ref b1), some (.int x2), some (.int x3), some (.int x4), g5, g6]) (st' := [.int x4, .ref 123]) rfl ?_
      obtain ⟨hc2, h⟩ := ite_so h
      refine Q.map (A.ia (gI_of zm177 (e := (18, 1, .iaload, [])) rfl) (hl.lt (a := 123) (by decide)) (hl.T (a := 123) (p := (100, 8)) 45 rfl rfl) hc2) ?_
      refine Q.run zm177 1 (i' := 11) (ls' := [some (.ref 121), some (.ref b1), some (.int x2), some (.int x3), some (.int x4), g5, g6]) (st' := [.int x3, .int (sI s 123 (jN x4))]) rfl ?_
      by_cases hc3 : (sI s 123 (jN x4)) = x3
      · rw [if_pos hc3] at h
        refine Q.map (A.bF (gI_of zm177 (e := (20, 3, .if_icmp .ne 7, [14])) rfl) (fun q => of_decide_eq_true q hc3)) ?_
        refine Q.run zm177 2 (i' := 15) (ls' := [some (.ref 121), some (.ref b1), some (.int x2), some (.int x3), some (.int x4), g5, g6]) (st' := [.int 1]) rfl ?_
        exact dt177_15 hd ih hl hk_b1 h
      · rw [if_neg hc3] at h
        refine Q.map (A.bT (gI_of zm177 (e := (20, 3, .if_icmp .ne 7, [14])) rfl) (decide_eq_true hc3)) ?_
        refine Q.run zm177 1 (i' := 15) (ls' := [some (.ref 121), some (.ref b1), some (.int x2), some (.int x3), some (.int x4), g5, g6]) (st' := [.int 0]) rfl ?_
        exact dt177_15 hd ih hl hk_b1 h
def dm177 (b1 : Nat) (x2 : Int32) (x3 : Int32) (s : aS) : Option (Int32) :=
  dm177_2 5000 b1 x2 x3 0 s
set_option maxRecDepth 100000 in
theorem dt177 {sio : Bool} {tt : Nat} {cc : Nat → Nat → Int32} {d : Nat} (hd : 1 ≤ d) {b1 : Nat} {x2 : Int32} {x3 : Int32} {s : aS} (hl : Ly tt cc s) (hk_b1 : aK s b1 100) {o : Int32} (h : dm177  b1 x2 x3 s = some o) : Q 2 sio tt cc d 177 0 [some (.ref 121), some (.ref b1), some (.int x2), some (.int x3), none, none, none] [] s (.inl (some (.int o)), s) := by
  unfold dm177 at h
  obtain ⟨d, rfl⟩ : ∃ e, d = e + 1 := ⟨d - 1, by omega⟩
  refine Q.run zm177 2 (i' := 2) (ls' := [some (.ref 121), some (.ref b1), some (.int x2), some (.int x3), some (.int 0), none, none]) (st' := []) rfl ?_
  exact dt177_2 hd _ hl hk_b1 h
/-! 179 FormulaTreesModel.setName(I)V -/
set_option maxRecDepth 100000 in
theorem zm179 : zP[179]? = some zM179 := rfl
def dm179_8 : Nat → Int32 → Int32 → aS → Option (aS)
  | 0, _, _, _ => none
  | n + 1, x1, x2, s =>
    if (sI s 121 1) ≤ x2 then
      some s
    else
      if aB x2 256 then
        if aB ((32 * x1) + x2) 256 then
          nx (wI s 124 (jN ((32 * x1) + x2)) (sI s 122 (jN x2))) fun s4 =>
          dm179_8 n x1 (x2 + 1) s4
        else none
      else none
set_option maxRecDepth 100000 in
theorem dt179_8 {sio : Bool} {tt : Nat} {cc : Nat → Nat → Int32} {d : Nat} (hd : 0 ≤ d) : ∀ (n : Nat) {x1 : Int32} {x2 : Int32} {s : aS} (_ : Ly tt cc s) {o : aS} (_ : dm179_8  n x1 x2 s = some o), Q 2 sio tt cc d 179 8 [some (.ref 121), some (.int x1), some (.int x2)] [] s (.inl none, o) := by
  intro n
  induction n with
  | zero => intro x1 x2 s hl o h; rw [dm179_8] at h; cases h
  | succ n ih =>
    intro x1 x2 s hl o h
    rw [dm179_8] at h
    refine Q.run zm179 2 (i' := 10) (ls' := [some (.ref 121), some (.int x1), some (.int x2)]) (st' := [.ref 121, .int x2]) rfl ?_
    refine Q.map (A.gf (gI_of zm179 (e := (14, 3, .getfield 103, [9, 1])) rfl) (hl.lt (a := 121) (by decide)) (hl.T (a := 121) (p := (9, 45)) 43 rfl rfl) (by decide) rfl) ?_
    by_cases hc1 : (sI s 121 1) ≤ x2
    · rw [if_pos hc1] at h
      refine Q.map (A.bT (gI_of zm179 (e := (17, 3, .if_icmp .ge 26, [26])) rfl) (decide_eq_true hc1)) ?_
      cases h
      exact Q.ret (A.rv zm179 (show zM179.2.2.2.2.2[26]? = some (43, 1, .return_, []) from rfl) rfl) hl
    · rw [if_neg hc1] at h
      refine Q.map (A.bF (gI_of zm179 (e := (17, 3, .if_icmp .ge 26, [26])) rfl) (fun q => hc1 (of_decide_eq_true q))) ?_
      refine Q.run zm179 1 (i' := 13) (ls' := [some (.ref 121), some (.int x1), some (.int x2)]) (st' := [.ref 121]) rfl ?_
      refine Q.map (A.gf (gI_of zm179 (e := (21, 3, .getfield 16, [9, 5])) rfl) (hl.lt (a := 121) (by decide)) (hl.T (a := 121) (p := (9, 45)) 43 rfl rfl) (by decide) (hl.R 25 rfl)) ?_
      refine Q.run zm179 6 (i' := 20) (ls' := [some (.ref 121), some (.int x1), some (.int x2)]) (st' := [.ref 121, .int ((32 * x1) + x2), .ref 124]) rfl ?_
      refine Q.map (A.gf (gI_of zm179 (e := (31, 3, .getfield 7, [9, 2])) rfl) (hl.lt (a := 121) (by decide)) (hl.T (a := 121) (p := (9, 45)) 43 rfl rfl) (by decide) (hl.R 23 rfl)) ?_
      refine Q.run zm179 1 (i' := 22) (ls' := [some (.ref 121), some (.int x1), some (.int x2)]) (st' := [.int x2, .ref 122, .int ((32 * x1) + x2), .ref 124]) rfl ?_
      obtain ⟨hc2, h⟩ := ite_so h
      refine Q.map (A.ia (gI_of zm179 (e := (35, 1, .iaload, [])) rfl) (hl.lt (a := 122) (by decide)) (hl.T (a := 122) (p := (100, 256)) 44 rfl rfl) hc2) ?_
      obtain ⟨hc3, h⟩ := ite_so h
      obtain ⟨s4, hs5, h⟩ := nx_so h
      refine Q.is hs5 rfl (gI_of zm179 (e := (36, 1, .iastore, [])) rfl) (hl.lt (a := 124) (by decide)) (by decide) (hl.T (a := 124) (p := (100, 256)) 46 rfl rfl) hc3 ?_
      have hl6 : Ly tt cc s4 := by rw [hs5]; exact hl.wId (by decide)
      refine Q.run zm179 2 (i' := 8) (ls' := [some (.ref 121), some (.int x1), some (.int (x2 + 1))]) (st' := []) rfl ?_
      exact ih hl6  h
def dm179 (x1 : Int32) (s : aS) : Option (aS) :=
  if aB x1 8 then
    nx (wI s 123 (jN x1) (sI s 121 1)) fun s2 =>
    dm179_8 5000 x1 0 s2
  else none
set_option maxRecDepth 100000 in
theorem dt179 {sio : Bool} {tt : Nat} {cc : Nat → Nat → Int32} {d : Nat} (hd : 0 ≤ d) {x1 : Int32} {s : aS} (hl : Ly tt cc s) {o : aS} (h : dm179  x1 s = some o) : Q 2 sio tt cc d 179 0 [some (.ref 121), some (.int x1), none] [] s (.inl none, o) := by
  unfold dm179 at h
  refine Q.run zm179 1 (i' := 1) (ls' := [some (.ref 121), some (.int x1), none]) (st' := [.ref 121]) rfl ?_
  refine Q.map (A.gf (gI_of zm179 (e := (1, 3, .getfield 13, [9, 4])) rfl) (hl.lt (a := 121) (by decide)) (hl.T (a := 121) (p := (9, 45)) 43 rfl rfl) (by decide) (hl.R 24 rfl)) ?_
  refine Q.run zm179 2 (i' := 4) (ls' := [some (.ref 121), some (.int x1), none]) (st' := [.ref 121, .int x1, .ref 123]) rfl ?_
  refine Q.map (A.gf (gI_of zm179 (e := (6, 3, .getfield 103, [9, 1])) rfl) (hl.lt (a := 121) (by decide)) (hl.T (a := 121) (p := (9, 45)) 43 rfl rfl) (by decide) rfl) ?_
  obtain ⟨hc1, h⟩ := ite_so h
  obtain ⟨s2, hs3, h⟩ := nx_so h
  refine Q.is hs3 rfl (gI_of zm179 (e := (9, 1, .iastore, [])) rfl) (hl.lt (a := 123) (by decide)) (by decide) (hl.T (a := 123) (p := (100, 8)) 45 rfl rfl) hc1 ?_
  have hl4 : Ly tt cc s2 := by rw [hs3]; exact hl.wId (by decide)
  refine Q.run zm179 2 (i' := 8) (ls' := [some (.ref 121), some (.int x1), some (.int 0)]) (st' := []) rfl ?_
  exact dt179_8 hd _ hl4  h
