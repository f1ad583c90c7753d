/-! 252 java/lang/String.indexOf(II)I -/
set_option maxRecDepth 100000 in
theorem zm252 : zP[252]? = some zM252 := rfl
def dm252 (b0 : Nat) (x1 : Int32) (x2 : Int32) (s : aS) : Option (Int32) :=
  bu (dm253 b0 s) fun r3 =>
  if r3 = 0 then
    bu (dm254 b0 s) fun r7 =>
    none
  else
    bu (dm254 b0 s) fun r10 =>
    bu (dm256 (b0 + 1) x1 x2 r10 s) fun r13 =>
    some r13
set_option maxRecDepth 100000 in
theorem dt252 {f : Nat} {sio : Bool} {tt : Nat} {cc : Nat → Nat → Int32} {d : Nat} (hd : 2 ≤ d) {b0 : Nat} {x1 : Int32} {x2 : Int32} {s : aS} (hl : Ly tt cc s) (hk_b0 : aK s b0 70) {o : Int32} (h : dm252  b0 x1 x2 s = some o) : Q f sio tt cc d 252 0 [some (.ref b0), some (.int x1), some (.int x2)] [] s (.inl (some (.int o)), s) := by
  unfold dm252 at h
  obtain ⟨d, rfl⟩ : ∃ e, d = e + 1 := ⟨d - 1, by omega⟩
  refine Q.run zm252 1 (i' := 1) (ls' := [some (.ref b0), some (.int x1), some (.int x2)]) (st' := [.ref b0]) rfl ?_
  obtain ⟨r3, hc2, h⟩ := bu_so h
  have hq1 : Q f sio tt cc d 253 0 [some (.ref b0)] [] s (.inl (some (.int r3)), s) := dt253 (by omega) hl hk_b0 hc2
  refine Q.callI (gC_vi zm252 (show zM252.2.2.2.2.2[1]? = some (1, 3, .invokevirtual 492, [0, 253, 0, 70]) from rfl) zm253 hk_b0.1 (hl.tx hk_b0).1 rfl (show aCr 0 b0 [.ref b0] 1 = some ([some (.ref b0)], []) from rfl)) hq1 ?_
  by_cases hc4 : r3 = 0
  · rw [if_pos hc4] at h
    refine Q.map (A.zT (gI_of zm252 (e := (4, 3, .ifCond .eq 19, [11])) rfl) (decide_eq_true hc4)) ?_
    refine Q.run zm252 1 (i' := 12) (ls' := [some (.ref b0), some (.int x1), some (.int x2)]) (st' := [.ref b0]) rfl ?_
    refine Q.map (A.gf (gI_of zm252 (e := (24, 3, .getfield 9, [70, 0])) rfl) hk_b0.1 (hl.tx hk_b0).1 (by decide) (hl.tx hk_b0).2.1) ?_
    refine Q.run zm252 3 (i' := 16) (ls' := [some (.ref b0), some (.int x1), some (.int x2)]) (st' := [.ref b0, .int x2, .int x1, .ref (b0 + 1)]) rfl ?_
    obtain ⟨r7, hc6, h⟩ := bu_so h
    have hq5 : Q f sio tt cc d 254 0 [some (.ref b0)] [] s (.inl (some (.int r7)), s) := dt254 (by omega) hl hk_b0 hc6
    refine Q.callI (gC_vi zm252 (show zM252.2.2.2.2.2[16]? = some (30, 3, .invokevirtual 505, [0, 254, 0, 70]) from rfl) zm254 hk_b0.1 (hl.tx hk_b0).1 rfl (show aCr 0 b0 [.ref b0, .int x2, .int x1, .ref (b0 + 1)] 1 = some ([some (.ref b0)], [.int x2, .int x1, .ref (b0 + 1)]) from rfl)) hq5 ?_
    cases h
  · rw [if_neg hc4] at h
    refine Q.map (A.zF (gI_of zm252 (e := (4, 3, .ifCond .eq 19, [11])) rfl) (fun q => hc4 (of_decide_eq_true q))) ?_
    refine Q.run zm252 1 (i' := 4) (ls' := [some (.ref b0), some (.int x1), some (.int x2)]) (st' := [.ref b0]) rfl ?_
    refine Q.map (A.gf (gI_of zm252 (e := (8, 3, .getfield 9, [70, 0])) rfl) hk_b0.1 (hl.tx hk_b0).1 (by decide) (hl.tx hk_b0).2.1) ?_
    refine Q.run zm252 3 (i' := 8) (ls' := [some (.ref b0), some (.int x1), some (.int x2)]) (st' := [.ref b0, .int x2, .int x1, .ref (b0 + 1)]) rfl ?_
    obtain ⟨r10, hc9, h⟩ := bu_so h
    have hq8 : Q f sio tt cc d 254 0 [some (.ref b0)] [] s (.inl (some (.int r10)), s) := dt254 (by omega) hl hk_b0 hc9
    refine Q.callI (gC_vi zm252 (show zM252.2.2.2.2.2[8]? = some (14, 3, .invokevirtual 505, [0, 254, 0, 70]) from rfl) zm254 hk_b0.1 (hl.tx hk_b0).1 rfl (show aCr 0 b0 [.ref b0, .int x2, .int x1, .ref (b0 + 1)] 1 = some ([some (.ref b0)], [.int x2, .int x1, .ref (b0 + 1)]) from rfl)) hq8 ?_
    obtain ⟨r13, hc12, h⟩ := bu_so h
    have hq11 : Q f sio tt cc d 256 0 [some (.ref (b0 + 1)), some (.int x1), some (.int x2), some (.int r10)] [] s (.inl (some (.int r13)), s) := dt256 (by omega) hl ⟨(hl.tx hk_b0).2.2.1, by rw [(pr2 (hl.tx hk_b0).2.2.2.1)]⟩ hc12
    refine Q.callI (gC_st zm252 (show zM252.2.2.2.2.2[9]? = some (17, 3, .invokestatic 637, [0, 256, 4]) from rfl) zm256 (show aC 4 [.int r10, .int x2, .int x1, .ref (b0 + 1)] 4 = some ([some (.ref (b0 + 1)), some (.int x1), some (.int x2), some (.int r10)], []) from rfl)) hq11 ?_
    refine Q.run zm252 1 (i' := 18) (ls' := [some (.ref b0), some (.int x1), some (.int x2)]) (st' := [.int r13]) rfl ?_
    cases h
    exact Q.ret (A.ri zm252 (show zM252.2.2.2.2.2[18]? = some (36, 1, .ireturn, []) from rfl) rfl rfl) hl
/-! 251 java/lang/String.indexOf(I)I -/
set_option maxRecDepth 100000 in
theorem zm251 : zP[251]? = some zM251 := rfl
def dm251 (b0 : Nat) (x1 : Int32) (s : aS) : Option (Int32) :=
  bu (dm252 b0 x1 0 s) fun r3 =>
  some r3
set_option maxRecDepth 100000 in
theorem dt251 {f : Nat} {sio : Bool} {tt : Nat} {cc : Nat → Nat → Int32} {d : Nat} (hd : 3 ≤ d) {b0 : Nat} {x1 : Int32} {s : aS} (hl : Ly tt cc s) (hk_b0 : aK s b0 70) {o : Int32} (h : dm251  b0 x1 s = some o) : Q f sio tt cc d 251 0 [some (.ref b0), some (.int x1)] [] s (.inl (some (.int o)), s) := by
  unfold dm251 at h
  obtain ⟨d, rfl⟩ : ∃ e, d = e + 1 := ⟨d - 1, by omega⟩
  refine Q.run zm251 3 (i' := 3) (ls' := [some (.ref b0), some (.int x1)]) (st' := [.int 0, .int x1, .ref b0]) rfl ?_
  obtain ⟨r3, hc2, h⟩ := bu_so h
  have hq1 : Q f sio tt cc d 252 0 [some (.ref b0), some (.int x1), some (.int 0)] [] s (.inl (some (.int r3)), s) := dt252 (by omega) hl hk_b0 hc2
  refine Q.callI (gC_vi zm251 (show zM251.2.2.2.2.2[3]? = some (3, 3, .invokevirtual 633, [0, 252, 2, 70]) from rfl) zm252 hk_b0.1 (hl.tx hk_b0).1 rfl (show aCr 2 b0 [.int 0, .int x1, .ref b0] 3 = some ([some (.ref b0), some (.int x1), some (.int 0)], []) from rfl)) hq1 ?_
  cases h
  exact Q.ret (A.ri zm251 (show zM251.2.2.2.2.2[4]? = some (6, 1, .ireturn, []) from rfl) rfl rfl) hl
/-! 36 FormulaTrees$Sheets.isName(LFormulaTrees$Letters;)Z -/
set_option maxRecDepth 100000 in
theorem zm36 : zP[36]? = some zM36 := rfl
def dm36_33 (b0 : Nat) (x1 : Int32) (x2 : Int32) (s : aS) : Option (Int32) :=
  if x2 = 0 then
    some 0
  else
    bu (dm34 b0 0 s) fun r4 =>
    if r4 = 39 then
      some 0
    else
      bu (dm34 b0 (x1 - 1) s) fun r8 =>
      if r8 = 39 then
        some 0
      else
        some 1
set_option maxRecDepth 100000 in
theorem dt36_33 {sio : Bool} {tt : Nat} {cc : Nat → Nat → Int32} {d : Nat} (hd : 4 ≤ d) {b0 : Nat} {x1 : Int32} {x2 : Int32} {x3 : Int32} {s : aS} (hl : Ly tt cc s) (hk_b0 : aK s b0 1) {o : Int32} (h : dm36_33  b0 x1 x2 s = some o) : Q 1 sio tt cc d 36 33 [some (.ref b0), some (.int x1), some (.int x2), some (.int x3)] [] s (.inl (some (.int o)), s) := by
  unfold dm36_33 at h
  obtain ⟨d, rfl⟩ : ∃ e, d = e + 1 := ⟨d - 1, by omega⟩
  refine Q.run zm36 1 (i' := 34) (ls' := [some (.ref b0), some (.int x1), some (.int x2), some (.int x3)]) (st' := [.int x2]) rfl ?_
  by_cases hc1 : x2 = 0
  · rw [if_pos hc1] at h
    refine Q.map (A.zT (gI_of zm36 (e := (60, 3, .ifCond .eq 29, [49])) rfl) (decide_eq_true hc1)) ?_
    refine Q.run zm36 1 (i' := 50) (ls' := [some (.ref b0), some (.int x1), some (.int x2), some (.int x3)]) (st' := [.int 0]) rfl ?_
    cases h
    exact Q.ret (A.ri zm36 (show zM36.2.2.2.2.2[50]? = some (90, 1, .ireturn, []) from rfl) rfl rfl) hl
  · rw [if_neg hc1] at h
    refine Q.map (A.zF (gI_of zm36 (e := (60, 3, .ifCond .eq 29, [49])) rfl) (fun q => hc1 (of_decide_eq_true q))) ?_
    refine Q.run zm36 2 (i' := 37) (ls' := [some (.ref b0), some (.int x1), some (.int x2), some (.int x3)]) (st' := [.int 0, .ref b0]) rfl ?_
    obtain ⟨r4, hc3, h⟩ := bu_so h
    have hq2 : Q 1 sio tt cc d 34 0 [some (.ref b0), some (.int 0)] [] s (.inl (some (.int r4)), s) := dt34 (by omega) hl hk_b0 hc3
    refine Q.callI (gC_vi zm36 (show zM36.2.2.2.2.2[37]? = some (65, 3, .invokevirtual 32, [0, 34, 1, 1]) from rfl) zm34 hk_b0.1 (hl.le hk_b0).1 rfl (show aCr 1 b0 [.int 0, .ref b0] 2 = some ([some (.ref b0), some (.int 0)], []) from rfl)) hq2 ?_
    refine Q.run zm36 1 (i' := 39) (ls' := [some (.ref b0), some (.int x1), some (.int x2), some (.int x3)]) (st' := [.int 39, .int r4]) rfl ?_
    by_cases hc5 : r4 = 39
    · rw [if_pos hc5] at h
      refine Q.map (A.bT (gI_of zm36 (e := (70, 3, .if_icmp .eq 19, [49])) rfl) (decide_eq_true hc5)) ?_
      refine Q.run zm36 1 (i' := 50) (ls' := [some (.ref b0), some (.int x1), some (.int x2), some (.int x3)]) (st' := [.int 0]) rfl ?_
      cases h
      exact Q.ret (A.ri zm36 (show zM36.2.2.2.2.2[50]? = some (90, 1, .ireturn, []) from rfl) rfl rfl) hl
    · rw [if_neg hc5] at h
      refine Q.map (A.bF (gI_of zm36 (e := (70, 3, .if_icmp .eq 19, [49])) rfl) (fun q => hc5 (of_decide_eq_true q))) ?_
      refine Q.run zm36 4 (i' := 44) (ls' := [some (.ref b0), some (.int x1), some (.int x2), some (.int x3)]) (st' := [.int (x1 - 1), .ref b0]) rfl ?_
      obtain ⟨r8, hc7, h⟩ := bu_so h
      have hq6 : Q 1 sio tt cc d 34 0 [some (.ref b0), some (.int (x1 - 1))] [] s (.inl (some (.int r8)), s) := dt34 (by omega) hl hk_b0 hc7
      refine Q.callI (gC_vi zm36 (show zM36.2.2.2.2.2[44]? = some (77, 3, .invokevirtual 32, [0, 34, 1, 1]) from rfl) zm34 hk_b0.1 (hl.le hk_b0).1 rfl (show aCr 1 b0 [.int (x1 - 1), .ref b0] 2 = some ([some (.ref b0), some (.int (x1 - 1))], []) from rfl)) hq6 ?_
      refine Q.run zm36 1 (i' := 46) (ls' := [some (.ref b0), some (.int x1), some (.int x2), some (.int x3)]) (st' := [.int 39, .int r8]) rfl ?_
      by_cases hc9 : r8 = 39
      · rw [if_pos hc9] at h
        refine Q.map (A.bT (gI_of zm36 (e := (82, 3, .if_icmp .eq 7, [49])) rfl) (decide_eq_true hc9)) ?_
        refine Q.run zm36 1 (i' := 50) (ls' := [some (.ref b0), some (.int x1), some (.int x2), some (.int x3)]) (st' := [.int 0]) rfl ?_
        cases h
        exact Q.ret (A.ri zm36 (show zM36.2.2.2.2.2[50]? = some (90, 1, .ireturn, []) from rfl) rfl rfl) hl
      · rw [if_neg hc9] at h
        refine Q.map (A.bF (gI_of zm36 (e := (82, 3, .if_icmp .eq 7, [49])) rfl) (fun q => hc9 (of_decide_eq_true q))) ?_
        refine Q.run zm36 2 (i' := 50) (ls' := [some (.ref b0), some (.int x1), some (.int x2), some (.int x3)]) (st' := [.int 1]) rfl ?_
        cases h
        exact Q.ret (A.ri zm36 (show zM36.2.2.2.2.2[50]? = some (90, 1, .ireturn, []) from rfl) rfl rfl) hl
def dm36_30 (k15 : Nat → Int32 → Int32 → Int32 → aS → Option (Int32)) (b0 : Nat) (x1 : Int32) (x3 : Int32) (y0 : Int32) (s : aS) : Option (Int32) :=
  k15 b0 x1 y0 (x3 + 1) s
set_option maxRecDepth 100000 in
theorem dt36_30 {sio : Bool} {tt : Nat} {cc : Nat → Nat → Int32} {d : Nat} (hd : 4 ≤ d) {k15 : Nat → Int32 → Int32 → Int32 → aS → Option (Int32)} (hk15 : ∀ {b0 : Nat} {x1 : Int32} {x2 : Int32} {x3 : Int32} {s : aS}, Ly tt cc s → aK s b0 1 → ∀ {o : Int32}, k15 b0 x1 x2 x3 s = some o → Q 1 sio tt cc d 36 15 [some (.ref b0), some (.int x1), some (.int x2), some (.int x3)] [] s (.inl (some (.int o)), s)) {b0 : Nat} {x1 : Int32} {x3 : Int32} {y0 : Int32} {x2 : Int32} {s : aS} (hl : Ly tt cc s) (hk_b0 : aK s b0 1) {o : Int32} (h : dm36_30 k15 b0 x1 x3 y0 s = some o) : Q 1 sio tt cc d 36 30 [some (.ref b0), some (.int x1), some (.int x2), some (.int x3)] [.int y0] s (.inl (some (.int o)), s) := by
  unfold dm36_30 at h
  obtain ⟨d, rfl⟩ : ∃ e, d = e + 1 := ⟨d - 1, by omega⟩
  refine Q.run zm36 3 (i' := 15) (ls' := [some (.ref b0), some (.int x1), some (.int y0), some (.int (x3 + 1))]) (st' := []) rfl ?_
  exact hk15 hl hk_b0 h
def dm36_15 : Nat → Nat → Int32 → Int32 → Int32 → aS → Option (Int32)
  | 0, _, _, _, _, _ => none
  | n + 1, b0, x1, x2, x3, s =>
    if x1 ≤ x3 then
      dm36_33 b0 x1 x2 s
    else
      if x2 = 0 then
        dm36_33 b0 x1 x2 s
      else
        bu (dm34 b0 x3 s) fun r5 =>
        bu (dm251 5 ((r5.toUInt32 % 65536).toInt32) s) fun r8 =>
        if 0 ≤ r8 then
          dm36_30 (dm36_15 n) b0 x1 x3 0 s
        else
          dm36_30 (dm36_15 n) b0 x1 x3 1 s
set_option maxRecDepth 100000 in
theorem dt36_15 {sio : Bool} {tt : Nat} {cc : Nat → Nat → Int32} {d : Nat} (hd : 4 ≤ d) : ∀ (n : Nat) {b0 : Nat} {x1 : Int32} {x2 : Int32} {x3 : Int32} {s : aS} (_ : Ly tt cc s) (_ : aK s b0 1) {o : Int32} (_ : dm36_15  n b0 x1 x2 x3 s = some o), Q 1 sio tt cc d 36 15 [some (.ref b0), some (.int x1), some (.int x2), some (.int x3)] [] s (.inl (some (.int o)), s) := by
  obtain ⟨d, rfl⟩ : ∃ e, d = e + 1 := ⟨d - 1, by omega⟩
  intro n
  induction n with
  | zero => intro b0 x1 x2 x3 s hl hk_b0 o h; rw [dm36_15] at h; cases h
  | succ n ih =>
    intro b0 x1 x2 x3 s hl hk_b0 o h
    rw [dm36_15] at h
    refine Q.run zm36 2 (i' := 17) (ls' := [some (.ref b0), some (.int x1), some (.int x2), some (.int x3)]) (st' := [.int x1, .int x3]) rfl ?_
    by_cases hc1 : x1 ≤ x3
    · rw [if_pos hc1] at h
      refine Q.map (A.bT (gI_of zm36 (e := (26, 3, .if_icmp .ge 33, [33])) rfl) (decide_eq_true hc1)) ?_
      exact dt36_33 hd hl hk_b0 h
    · rw [if_neg hc1] at h
      refine Q.map (A.bF (gI_of zm36 (e := (26, 3, .if_icmp .ge 33, [33])) rfl) (fun q => hc1 (of_decide_eq_true q))) ?_
      refine Q.run zm36 1 (i' := 19) (ls' := [some (.ref b0), some (.int x1), some (.int x2), some (.int x3)]) (st' := [.int x2]) rfl ?_
      by_cases hc2 : x2 = 0
      · rw [if_pos hc2] at h
        refine Q.map (A.zT (gI_of zm36 (e := (30, 3, .ifCond .eq 29, [33])) rfl) (decide_eq_true hc2)) ?_
        exact dt36_33 hd hl hk_b0 h
      · rw [if_neg hc2] at h
        refine Q.map (A.zF (gI_of zm36 (e := (30, 3, .ifCond .eq 29, [33])) rfl) (fun q => hc2 (of_decide_eq_true q))) ?_
        refine Q.run zm36 3 (i' := 23) (ls' := [some (.ref b0), some (.int x1), some (.int x2), some (.int x3)]) (st' := [.int x3, .ref b0, .ref 5]) rfl ?_
        obtain ⟨r5, hc4, h⟩ := bu_so h
        have hq3 : Q 1 sio tt cc d 34 0 [some (.ref b0), some (.int x3)] [] s (.inl (some (.int r5)), s) := dt34 (by omega) hl hk_b0 hc4
        refine Q.callI (gC_vi zm36 (show zM36.2.2.2.2.2[23]? = some (37, 3, .invokevirtual 32, [0, 34, 1, 1]) from rfl) zm34 hk_b0.1 (hl.le hk_b0).1 rfl (show aCr 1 b0 [.int x3, .ref b0, .ref 5] 2 = some ([some (.ref b0), some (.int x3)], [.ref 5]) from rfl)) hq3 ?_
        refine Q.run zm36 1 (i' := 25) (ls' := [some (.ref b0), some (.int x1), some (.int x2), some (.int x3)]) (st' := [.int ((r5.toUInt32 % 65536).toInt32), .ref 5]) rfl ?_
        obtain ⟨r8, hc7, h⟩ := bu_so h
        have hq6 : Q 1 sio tt cc d 251 0 [some (.ref 5), some (.int ((r5.toUInt32 % 65536).toInt32))] [] s (.inl (some (.int r8)), s) := dt251 (by omega) hl (hl.lowK (a := 5) (c := 70) (by decide) (by decide)) hc7
        refine Q.callI (gC_vi zm36 (show zM36.2.2.2.2.2[25]? = some (41, 3, .invokevirtual 53, [0, 251, 1, 70]) from rfl) zm251 (hl.lt (a := 5) (by decide)) (hl.tx (hl.lowK (a := 5) (c := 70) (by decide) (by decide))).1 rfl (show aCr 1 5 [.int ((r5.toUInt32 % 65536).toInt32), .ref 5] 2 = some ([some (.ref 5), some (.int ((r5.toUInt32 % 65536).toInt32))], []) from rfl)) hq6 ?_
        by_cases hc9 : 0 ≤ r8
        · rw [if_pos hc9] at h
          refine Q.map (A.zT (gI_of zm36 (e := (44, 3, .ifCond .ge 7, [29])) rfl) (decide_eq_true hc9)) ?_
          refine Q.run zm36 1 (i' := 30) (ls' := [some (.ref b0), some (.int x1), some (.int x2), some (.int x3)]) (st' := [.int 0]) rfl ?_
          exact dt36_30 hd ih hl hk_b0 h
        · rw [if_neg hc9] at h
          refine Q.map (A.zF (gI_of zm36 (e := (44, 3, .ifCond .ge 7, [29])) rfl) (fun q => hc9 (of_decide_eq_true q))) ?_
          refine Q.run zm36 2 (i' := 30) (ls' := [some (.ref b0), some (.int x1), some (.int x2), some (.int x3)]) (st' := [.int 1]) rfl ?_
          exact dt36_30 hd ih hl hk_b0 h
def dm36_12 (b0 : Nat) (x1 : Int32) (y0 : Int32) (s : aS) : Option (Int32) :=
  dm36_15 5000 b0 x1 y0 0 s
set_option maxRecDepth 100000 in
theorem dt36_12 {sio : Bool} {tt : Nat} {cc : Nat → Nat → Int32} {d : Nat} (hd : 4 ≤ d) {b0 : Nat} {x1 : Int32} {y0 : Int32} {s : aS} (hl : Ly tt cc s) (hk_b0 : aK s b0 1) {o : Int32} (h : dm36_12  b0 x1 y0 s = some o) : Q 1 sio tt cc d 36 12 [some (.ref b0), some (.int x1), none, none] [.int y0] s (.inl (some (.int o)), s) := by
  unfold dm36_12 at h
  obtain ⟨d, rfl⟩ : ∃ e, d = e + 1 := ⟨d - 1, by omega⟩
  refine Q.run zm36 3 (i' := 15) (ls' := [some (.ref b0), some (.int x1), some (.int y0), some (.int 0)]) (st' := []) rfl ?_
  exact dt36_15 hd _ hl hk_b0 h
def dm36_11 (b0 : Nat) (x1 : Int32) (s : aS) : Option (Int32) :=
  dm36_12 b0 x1 0 s
set_option maxRecDepth 100000 in
theorem dt36_11 {sio : Bool} {tt : Nat} {cc : Nat → Nat → Int32} {d : Nat} (hd : 4 ≤ d) {b0 : Nat} {x1 : Int32} {s : aS} (hl : Ly tt cc s) (hk_b0 : aK s b0 1) {o : Int32} (h : dm36_11  b0 x1 s = some o) : Q 1 sio tt cc d 36 11 [some (.ref b0), some (.int x1), none, none] [] s (.inl (some (.int o)), s) := by
  unfold dm36_11 at h
  obtain ⟨d, rfl⟩ : ∃ e, d = e + 1 := ⟨d - 1, by omega⟩
  refine Q.run zm36 1 (i' := 12) (ls' := [some (.ref b0), some (.int x1), none, none]) (st' := [.int 0]) rfl ?_
  exact dt36_12 hd hl hk_b0 h
def dm36 (b0 : Nat) (s : aS) : Option (Int32) :=
  bu (dm28 b0 s) fun r3 =>
  if r3 < 1 then
    dm36_11 b0 r3 s
  else
    if 31 < r3 then
      dm36_11 b0 r3 s
    else
      dm36_12 b0 r3 1 s
set_option maxRecDepth 100000 in
theorem dt36 {sio : Bool} {tt : Nat} {cc : Nat → Nat → Int32} {d : Nat} (hd : 4 ≤ d) {b0 : Nat} {s : aS} (hl : Ly tt cc s) (hk_b0 : aK s b0 1) {o : Int32} (h : dm36  b0 s = some o) : Q 1 sio tt cc d 36 0 [some (.ref b0), none, none, none] [] s (.inl (some (.int o)), s) := by
  unfold dm36 at h
  obtain ⟨d, rfl⟩ : ∃ e, d = e + 1 := ⟨d - 1, by omega⟩
  refine Q.run zm36 1 (i' := 1) (ls' := [some (.ref b0), none, none, none]) (st' := [.ref b0]) rfl ?_
  obtain ⟨r3, hc2, h⟩ := bu_so h
  have hq1 : Q 1 sio tt cc d 28 0 [some (.ref b0)] [] s (.inl (some (.int r3)), s) := dt28 (by omega) hl hk_b0 hc2
  refine Q.callI (gC_vi zm36 (show zM36.2.2.2.2.2[1]? = some (1, 3, .invokevirtual 47, [0, 28, 0, 1]) from rfl) zm28 hk_b0.1 (hl.le hk_b0).1 rfl (show aCr 0 b0 [.ref b0] 1 = some ([some (.ref b0)], []) from rfl)) hq1 ?_
  refine Q.run zm36 3 (i' := 5) (ls' := [some (.ref b0), some (.int r3), none, none]) (st' := [.int 1, .int r3]) rfl ?_
  by_cases hc4 : r3 < 1
  · rw [if_pos hc4] at h
    refine Q.map (A.bT (gI_of zm36 (e := (7, 3, .if_icmp .lt 13, [11])) rfl) (decide_eq_true hc4)) ?_
    exact dt36_11 hd hl hk_b0 h
  · rw [if_neg hc4] at h
    refine Q.map (A.bF (gI_of zm36 (e := (7, 3, .if_icmp .lt 13, [11])) rfl) (fun q => hc4 (of_decide_eq_true q))) ?_
    refine Q.run zm36 2 (i' := 8) (ls' := [some (.ref b0), some (.int r3), none, none]) (st' := [.int 31, .int r3]) rfl ?_
    by_cases hc5 : 31 < r3
    · rw [if_pos hc5] at h
      refine Q.map (A.bT (gI_of zm36 (e := (13, 3, .if_icmp .gt 7, [11])) rfl) (decide_eq_true hc5)) ?_
      exact dt36_11 hd hl hk_b0 h
    · rw [if_neg hc5] at h
      refine Q.map (A.bF (gI_of zm36 (e := (13, 3, .if_icmp .gt 7, [11])) rfl) (fun q => hc5 (of_decide_eq_true q))) ?_
      refine Q.run zm36 2 (i' := 12) (ls' := [some (.ref b0), some (.int r3), none, none]) (st' := [.int 1]) rfl ?_
      exact dt36_12 hd hl hk_b0 h
/-! 31 FormulaTrees$Sheets.mayBear(LFormulaTrees$Letters;I)Z -/
set_option maxRecDepth 100000 in
theorem zm31 : zP[31]? = some zM31 := rfl
def dm31_13 (s : aS) : Option (Int32) :=
  some 1
set_option maxRecDepth 100000 in
theorem dt31_13 {sio : Bool} {tt : Nat} {cc : Nat → Nat → Int32} {d : Nat} (hd : 5 ≤ d) {b1 : Nat} {x2 : Int32} {x3 : Int32} {s : aS} (hl : Ly tt cc s) {o : Int32} (h : dm31_13  s = some o) : Q 1 sio tt cc d 31 13 [some (.ref 81), some (.ref b1), some (.int x2), some (.int x3)] [] s (.inl (some (.int o)), s) := by
  unfold dm31_13 at h
  obtain ⟨d, rfl⟩ : ∃ e, d = e + 1 := ⟨d - 1, by omega⟩
  refine Q.run zm31 2 (i' := 16) (ls' := [some (.ref 81), some (.ref b1), some (.int x2), some (.int x3)]) (st' := [.int 1]) rfl ?_
  cases h
  exact Q.ret (A.ri zm31 (show zM31.2.2.2.2.2[16]? = some (28, 1, .ireturn, []) from rfl) rfl rfl) hl
def dm31 (b1 : Nat) (x2 : Int32) (s : aS) : Option (Int32) :=
  bu (dm32 b1 s) fun r3 =>
  bu (dm36 b1 s) fun r6 =>
  if r6 = 0 then
    some 0
  else
    if r3 = (-1) then
      dm31_13 s
    else
      if r3 = x2 then
        dm31_13 s
      else
        some 0
set_option maxRecDepth 100000 in
theorem dt31 {sio : Bool} {tt : Nat} {cc : Nat → Nat → Int32} {d : Nat} (hd : 5 ≤ d) {b1 : Nat} {x2 : Int32} {s : aS} (hl : Ly tt cc s) (hk_b1 : aK s b1 1) {o : Int32} (h : dm31  b1 x2 s = some o) : Q 1 sio tt cc d 31 0 [some (.ref 81), some (.ref b1), some (.int x2), none] [] s (.inl (some (.int o)), s) := by
  unfold dm31 at h
  obtain ⟨d, rfl⟩ : ∃ e, d = e + 1 := ⟨d - 1, by omega⟩
  refine Q.run zm31 2 (i' := 2) (ls' := [some (.ref 81), some (.ref b1), some (.int x2), none]) (st' := [.ref b1, .ref 81]) rfl ?_
  obtain ⟨r3, hc2, h⟩ := bu_so h
  have hq1 : Q 1 sio tt cc d 32 0 [some (.ref 81), some (.ref b1), none] [] s (.inl (some (.int r3)), s) := dt32 (by omega) hl hk_b1 hc2
  refine Q.callI (gC_vi zm31 (show zM31.2.2.2.2.2[2]? = some (2, 3, .invokevirtual 40, [0, 32, 1, 2]) from rfl) zm32 (hl.lt (a := 81) (by decide)) (hl.T (a := 81) (p := (2, 3)) 3 rfl rfl) rfl (show aCr 1 81 [.ref b1, .ref 81] 3 = some ([some (.ref 81), some (.ref b1), none], []) from rfl)) hq1 ?_
  refine Q.run zm31 2 (i' := 5) (ls' := [some (.ref 81), some (.ref b1), some (.int x2), some (.int r3)]) (st' := [.ref b1]) rfl ?_
  obtain ⟨r6, hc5, h⟩ := bu_so h
  have hq4 : Q 1 sio tt cc d 36 0 [some (.ref b1), none, none, none] [] s (.inl (some (.int r6)), s) := dt36 (by omega) hl hk_b1 hc5
  refine Q.callI (gC_st zm31 (show zM31.2.2.2.2.2[5]? = some (7, 3, .invokestatic 44, [0, 36, 1]) from rfl) zm36 (show aC 1 [.ref b1] 4 = some ([some (.ref b1), none, none, none], []) from rfl)) hq4 ?_
  by_cases hc7 : r6 = 0
  · rw [if_pos hc7] at h
    refine Q.map (A.zT (gI_of zm31 (e := (10, 3, .ifCond .eq 17, [15])) rfl) (decide_eq_true hc7)) ?_
    refine Q.run zm31 1 (i' := 16) (ls' := [some (.ref 81), some (.ref b1), some (.int x2), some (.int r3)]) (st' := [.int 0]) rfl ?_
    cases h
    exact Q.ret (A.ri zm31 (show zM31.2.2.2.2.2[16]? = some (28, 1, .ireturn, []) from rfl) rfl rfl) hl
  · rw [if_neg hc7] at h
    refine Q.map (A.zF (gI_of zm31 (e := (10, 3, .ifCond .eq 17, [15])) rfl) (fun q => hc7 (of_decide_eq_true q))) ?_
    refine Q.run zm31 2 (i' := 9) (ls' := [some (.ref 81), some (.ref b1), some (.int x2), some (.int r3)]) (st' := [.int (-1), .int r3]) rfl ?_
    by_cases hc8 : r3 = (-1)
    · rw [if_pos hc8] at h
      refine Q.map (A.bT (gI_of zm31 (e := (15, 3, .if_icmp .eq 8, [13])) rfl) (decide_eq_true hc8)) ?_
      exact dt31_13 hd hl  h
    · rw [if_neg hc8] at h
      refine Q.map (A.bF (gI_of zm31 (e := (15, 3, .if_icmp .eq 8, [13])) rfl) (fun q => hc8 (of_decide_eq_true q))) ?_
      refine Q.run zm31 2 (i' := 12) (ls' := [some (.ref 81), some (.ref b1), some (.int x2), some (.int r3)]) (st' := [.int x2, .int r3]) rfl ?_
      by_cases hc9 : r3 = x2
      · rw [if_pos hc9] at h
        refine Q.map (A.bF (gI_of zm31 (e := (20, 3, .if_icmp .ne 7, [15])) rfl) (fun q => of_decide_eq_true q hc9)) ?_
        exact dt31_13 hd hl  h
      · rw [if_neg hc9] at h
        refine Q.map (A.bT (gI_of zm31 (e := (20, 3, .if_icmp .ne 7, [15])) rfl) (decide_eq_true hc9)) ?_
        refine Q.run zm31 1 (i' := 16) (ls' := [some (.ref 81), some (.ref b1), some (.int x2), some (.int r3)]) (st' := [.int 0]) rfl ?_
        cases h
        exact Q.ret (A.ri zm31 (show zM31.2.2.2.2.2[16]? = some (28, 1, .ireturn, []) from rfl) rfl rfl) hl
/-! 37 FormulaTrees$Sheets.isFull()Z -/
set_option maxRecDepth 100000 in
theorem zm37 : zP[37]? = some zM37 := rfl
def dm37 (s : aS) : Option (Int32) :=
  if (sI s 81 2) < 8 then
    some 0
  else
    some 1
set_option maxRecDepth 100000 in
theorem dt37 {sio : Bool} {tt : Nat} {cc : Nat → Nat → Int32} {d : Nat} (hd : 0 ≤ d) {s : aS} (hl : Ly tt cc s) {o : Int32} (h : dm37  s = some o) : Q 1 sio tt cc d 37 0 [some (.ref 81)] [] s (.inl (some (.int o)), s) := by
  unfold dm37 at h
  refine Q.run zm37 1 (i' := 1) (ls' := [some (.ref 81)]) (st' := [.ref 81]) rfl ?_
  refine Q.map (A.gf (gI_of zm37 (e := (1, 3, .getfield 24, [2, 2])) rfl) (hl.lt (a := 81) (by decide)) (hl.T (a := 81) (p := (2, 3)) 3 rfl rfl) (by decide) rfl) ?_
  refine Q.run zm37 1 (i' := 3) (ls' := [some (.ref 81)]) (st' := [.int 8, .int (sI s 81 2)]) rfl ?_
  by_cases hc1 : (sI s 81 2) < 8
  · rw [if_pos hc1] at h
    refine Q.map (A.bT (gI_of zm37 (e := (6, 3, .if_icmp .lt 7, [6])) rfl) (decide_eq_true hc1)) ?_
    refine Q.run zm37 1 (i' := 7) (ls' := [some (.ref 81)]) (st' := [.int 0]) rfl ?_
    cases h
    exact Q.ret (A.ri zm37 (show zM37.2.2.2.2.2[7]? = some (14, 1, .ireturn, []) from rfl) rfl rfl) hl
  · rw [if_neg hc1] at h
    refine Q.map (A.bF (gI_of zm37 (e := (6, 3, .if_icmp .lt 7, [6])) rfl) (fun q => hc1 (of_decide_eq_true q))) ?_
    refine Q.run zm37 2 (i' := 7) (ls' := [some (.ref 81)]) (st' := [.int 1]) rfl ?_
    cases h
    exact Q.ret (A.ri zm37 (show zM37.2.2.2.2.2[7]? = some (14, 1, .ireturn, []) from rfl) rfl rfl) hl
/-! 40 FormulaTrees$Sheets.has(I)Z -/
set_option maxRecDepth 100000 in
theorem zm40 : zP[40]? = some zM40 := rfl
def dm40 (x1 : Int32) (s : aS) : Option (Int32) :=
  if x1 < 0 then
    some 0
  else
    if (sI s 81 2) ≤ x1 then
      some 0
    else
      some 1
set_option maxRecDepth 100000 in
theorem dt40 {sio : Bool} {tt : Nat} {cc : Nat → Nat → Int32} {d : Nat} (hd : 0 ≤ d) {x1 : Int32} {s : aS} (hl : Ly tt cc s) {o : Int32} (h : dm40  x1 s = some o) : Q 1 sio tt cc d 40 0 [some (.ref 81), some (.int x1)] [] s (.inl (some (.int o)), s) := by
  unfold dm40 at h
  refine Q.run zm40 1 (i' := 1) (ls' := [some (.ref 81), some (.int x1)]) (st' := [.int x1]) rfl ?_
  by_cases hc1 : x1 < 0
  · rw [if_pos hc1] at h
    refine Q.map (A.zT (gI_of zm40 (e := (1, 3, .ifCond .lt 15, [8])) rfl) (decide_eq_true hc1)) ?_
    refine Q.run zm40 1 (i' := 9) (ls' := [some (.ref 81), some (.int x1)]) (st' := [.int 0]) rfl ?_
    cases h
    exact Q.ret (A.ri zm40 (show zM40.2.2.2.2.2[9]? = some (17, 1, .ireturn, []) from rfl) rfl rfl) hl
  · rw [if_neg hc1] at h
    refine Q.map (A.zF (gI_of zm40 (e := (1, 3, .ifCond .lt 15, [8])) rfl) (fun q => hc1 (of_decide_eq_true q))) ?_
    refine Q.run zm40 2 (i' := 4) (ls' := [some (.ref 81), some (.int x1)]) (st' := [.ref 81, .int x1]) rfl ?_
    refine Q.map (A.gf (gI_of zm40 (e := (6, 3, .getfield 24, [2, 2])) rfl) (hl.lt (a := 81) (by decide)) (hl.T (a := 81) (p := (2, 3)) 3 rfl rfl) (by decide) rfl) ?_
    by_cases hc2 : (sI s 81 2) ≤ x1
    · rw [if_pos hc2] at h
      refine Q.map (A.bT (gI_of zm40 (e := (9, 3, .if_icmp .ge 7, [8])) rfl) (decide_eq_true hc2)) ?_
      refine Q.run zm40 1 (i' := 9) (ls' := [some (.ref 81), some (.int x1)]) (st' := [.int 0]) rfl ?_
      cases h
      exact Q.ret (A.ri zm40 (show zM40.2.2.2.2.2[9]? = some (17, 1, .ireturn, []) from rfl) rfl rfl) hl
    · rw [if_neg hc2] at h
      refine Q.map (A.bF (gI_of zm40 (e := (9, 3, .if_icmp .ge 7, [8])) rfl) (fun q => hc2 (of_decide_eq_true q))) ?_
      refine Q.run zm40 2 (i' := 9) (ls' := [some (.ref 81), some (.int x1)]) (st' := [.int 1]) rfl ?_
      cases h
      exact Q.ret (A.ri zm40 (show zM40.2.2.2.2.2[9]? = some (17, 1, .ireturn, []) from rfl) rfl rfl) hl
/-! 41 FormulaTrees$Letters.become(LFormulaTrees$Letters;)V -/
set_option maxRecDepth 100000 in
theorem zm41 : zP[41]? = some zM41 := rfl
def dm41_4 : Nat → Nat → Nat → Int32 → aS → Option (aS)
  | 0, _, _, _, _ => none
  | n + 1, b0, b1, x2, s =>
    bu (dm28 b1 s) fun r3 =>
    if r3 ≤ x2 then
      some s
    else
      bu (dm34 b1 x2 s) fun r7 =>
      bu (dm29 b0 r7 s) fun s10 =>
      dm41_4 n b0 b1 (x2 + 1) s10
set_option maxRecDepth 100000 in
theorem dt41_4 {sio : Bool} {tt : Nat} {cc : Nat → Nat → Int32} {d : Nat} (hd : 1 ≤ d) : ∀ (n : Nat) {b0 : Nat} {b1 : Nat} {x2 : Int32} {s : aS} (_ : Ly tt cc s) (_ : aK s b0 1) (_ : aK s b1 1) {o : aS} (_ : dm41_4  n b0 b1 x2 s = some o), Q 1 sio tt cc d 41 4 [some (.ref b0), some (.ref b1), some (.int x2)] [] s (.inl none, o) := by
  obtain ⟨d, rfl⟩ : ∃ e, d = e + 1 := ⟨d - 1, by omega⟩
  intro n
  induction n with
  | zero => intro b0 b1 x2 s hl hk_b0 hk_b1 o h; rw [dm41_4] at h; cases h
  | succ n ih =>
    intro b0 b1 x2 s hl hk_b0 hk_b1 o h
    rw [dm41_4] at h
    refine Q.run zm41 2 (i' := 6) (ls' := [some (.ref b0), some (.ref b1), some (.int x2)]) (st' := [.ref b1, .int x2]) rfl ?_
    obtain ⟨r3, hc2, h⟩ := bu_so h
    have hq1 : Q 1 sio tt cc d 28 0 [some (.ref b1)] [] s (.inl (some (.int r3)), s) := dt28 (by omega) hl hk_b1 hc2
    refine Q.callI (gC_vi zm41 (show zM41.2.2.2.2.2[6]? = some (8, 3, .invokevirtual 22, [0, 28, 0, 1]) from rfl) zm28 hk_b1.1 (hl.le hk_b1).1 rfl (show aCr 0 b1 [.ref b1, .int x2] 1 = some ([some (.ref b1)], [.int x2]) from rfl)) hq1 ?_
    by_cases hc4 : r3 ≤ x2
    · rw [if_pos hc4] at h
      refine Q.map (A.bT (gI_of zm41 (e := (11, 3, .if_icmp .ge 18, [15])) rfl) (decide_eq_true hc4)) ?_
      cases h
      exact Q.ret (A.rv zm41 (show zM41.2.2.2.2.2[15]? = some (29, 1, .return_, []) from rfl) rfl) hl
    · rw [if_neg hc4] at h
      refine Q.map (A.bF (gI_of zm41 (e := (11, 3, .if_icmp .ge 18, [15])) rfl) (fun q => hc4 (of_decide_eq_true q))) ?_
      refine Q.run zm41 3 (i' := 11) (ls' := [some (.ref b0), some (.ref b1), some (.int x2)]) (st' := [.int x2, .ref b1, .ref b0]) rfl ?_
      obtain ⟨r7, hc6, h⟩ := bu_so h
      have hq5 : Q 1 sio tt cc d 34 0 [some (.ref b1), some (.int x2)] [] s (.inl (some (.int r7)), s) := dt34 (by omega) hl hk_b1 hc6
      refine Q.callI (gC_vi zm41 (show zM41.2.2.2.2.2[11]? = some (17, 3, .invokevirtual 25, [0, 34, 1, 1]) from rfl) zm34 hk_b1.1 (hl.le hk_b1).1 rfl (show aCr 1 b1 [.int x2, .ref b1, .ref b0] 2 = some ([some (.ref b1), some (.int x2)], [.ref b0]) from rfl)) hq5 ?_
      obtain ⟨s10, hc9, h⟩ := bu_so h
      have hq8 : Q 1 sio tt cc d 29 0 [some (.ref b0), some (.int r7)] [] s (.inl none, s10) := dt29 (by omega) hl hk_b0 hc9
      refine Q.callV (gC_vi zm41 (show zM41.2.2.2.2.2[12]? = some (20, 3, .invokevirtual 29, [0, 29, 1, 1]) from rfl) zm29 hk_b0.1 (hl.le hk_b0).1 rfl (show aCr 1 b0 [.int r7, .ref b0] 2 = some ([some (.ref b0), some (.int r7)], []) from rfl)) hq8 ?_
      have hr11 : aK s10 b0 1 := hq8.2.1.k hk_b0
      have hr12 : aK s10 b1 1 := hq8.2.1.k hk_b1
      refine Q.run zm41 2 (i' := 4) (ls' := [some (.ref b0), some (.ref b1), some (.int (x2 + 1))]) (st' := []) rfl ?_
      exact ih hq8.1 hr11 hr12 h
def dm41 (b0 : Nat) (b1 : Nat) (s : aS) : Option (aS) :=
  bu (dm26 b0 s) fun s3 =>
  dm41_4 5000 b0 b1 0 s3
set_option maxRecDepth 100000 in
theorem dt41 {sio : Bool} {tt : Nat} {cc : Nat → Nat → Int32} {d : Nat} (hd : 1 ≤ d) {b0 : Nat} {b1 : Nat} {s : aS} (hl : Ly tt cc s) (hk_b0 : aK s b0 1) (hk_b1 : aK s b1 1) {o : aS} (h : dm41  b0 b1 s = some o) : Q 1 sio tt cc d 41 0 [some (.ref b0), some (.ref b1), none] [] s (.inl none, o) := by
  unfold dm41 at h
  obtain ⟨d, rfl⟩ : ∃ e, d = e + 1 := ⟨d - 1, by omega⟩
  refine Q.run zm41 1 (i' := 1) (ls' := [some (.ref b0), some (.ref b1), none]) (st' := [.ref b0]) rfl ?_
  obtain ⟨s3, hc2, h⟩ := bu_so h
  have hq1 : Q 1 sio tt cc d 26 0 [some (.ref b0)] [] s (.inl none, s3) := dt26 (by omega) hl hk_b0 hc2
  refine Q.callV (gC_vi zm41 (show zM41.2.2.2.2.2[1]? = some (1, 3, .invokevirtual 19, [0, 26, 0, 1]) from rfl) zm26 hk_b0.1 (hl.le hk_b0).1 rfl (show aCr 0 b0 [.ref b0] 1 = some ([some (.ref b0)], []) from rfl)) hq1 ?_
  have hr4 : aK s3 b0 1 := hq1.2.1.k hk_b0
  have hr5 : aK s3 b1 1 := hq1.2.1.k hk_b1
  refine Q.run zm41 2 (i' := 4) (ls' := [some (.ref b0), some (.ref b1), some (.int 0)]) (st' := []) rfl ?_
  exact dt41_4 hd _ hq1.1 hr4 hr5 h
/-! 45 FormulaTrees$Signs.isLetter(I)Z -/
set_option maxRecDepth 100000 in
theorem zm45 : zP[45]? = some zM45 := rfl
def dm45_12 : Option (Int32) :=
  some 1
set_option maxRecDepth 100000 in
theorem dt45_12 {sio : Bool} {tt : Nat} {cc : Nat → Nat → Int32} {d : Nat} (hd : 0 ≤ d) {x0 : Int32} {s : aS} (hl : Ly tt cc s) {o : Int32} (h : dm45_12   = some o) : Q 1 sio tt cc d 45 12 [some (.int x0)] [] s (.inl (some (.int o)), s) := by
  unfold dm45_12 at h
  refine Q.run zm45 2 (i' := 15) (ls' := [some (.int x0)]) (st' := [.int 1]) rfl ?_
  cases h
  exact Q.ret (A.ri zm45 (show zM45.2.2.2.2.2[15]? = some (29, 1, .ireturn, []) from rfl) rfl rfl) hl
def dm45_6 (x0 : Int32) : Option (Int32) :=
  if x0 < 97 then
    some 0
  else
    if 122 < x0 then
      some 0
    else
      dm45_12 
set_option maxRecDepth 100000 in
theorem dt45_6 {sio : Bool} {tt : Nat} {cc : Nat → Nat → Int32} {d : Nat} (hd : 0 ≤ d) {x0 : Int32} {s : aS} (hl : Ly tt cc s) {o : Int32} (h : dm45_6  x0 = some o) : Q 1 sio tt cc d 45 6 [some (.int x0)] [] s (.inl (some (.int o)), s) := by
  unfold dm45_6 at h
  refine Q.run zm45 2 (i' := 8) (ls' := [some (.int x0)]) (st' := [.int 97, .int x0]) rfl ?_
  by_cases hc1 : x0 < 97
  · rw [if_pos hc1] at h
    refine Q.map (A.bT (gI_of zm45 (e := (15, 3, .if_icmp .lt 13, [14])) rfl) (decide_eq_true hc1)) ?_
    refine Q.run zm45 1 (i' := 15) (ls' := [some (.int x0)]) (st' := [.int 0]) rfl ?_
    cases h
    exact Q.ret (A.ri zm45 (show zM45.2.2.2.2.2[15]? = some (29, 1, .ireturn, []) from rfl) rfl rfl) hl
  · rw [if_neg hc1] at h
    refine Q.map (A.bF (gI_of zm45 (e := (15, 3, .if_icmp .lt 13, [14])) rfl) (fun q => hc1 (of_decide_eq_true q))) ?_
    refine Q.run zm45 2 (i' := 11) (ls' := [some (.int x0)]) (st' := [.int 122, .int x0]) rfl ?_
    by_cases hc2 : 122 < x0
    · rw [if_pos hc2] at h
      refine Q.map (A.bT (gI_of zm45 (e := (21, 3, .if_icmp .gt 7, [14])) rfl) (decide_eq_true hc2)) ?_
      refine Q.run zm45 1 (i' := 15) (ls' := [some (.int x0)]) (st' := [.int 0]) rfl ?_
      cases h
      exact Q.ret (A.ri zm45 (show zM45.2.2.2.2.2[15]? = some (29, 1, .ireturn, []) from rfl) rfl rfl) hl
    · rw [if_neg hc2] at h
      refine Q.map (A.bF (gI_of zm45 (e := (21, 3, .if_icmp .gt 7, [14])) rfl) (fun q => hc2 (of_decide_eq_true q))) ?_
      exact dt45_12 hd hl  h
def dm45 (x0 : Int32) : Option (Int32) :=
  if x0 < 65 then
    dm45_6 x0
  else
    if x0 ≤ 90 then
      dm45_12 
    else
      dm45_6 x0
set_option maxRecDepth 100000 in
theorem dt45 {sio : Bool} {tt : Nat} {cc : Nat → Nat → Int32} {d : Nat} (hd : 0 ≤ d) {x0 : Int32} {s : aS} (hl : Ly tt cc s) {o : Int32} (h : dm45  x0 = some o) : Q 1 sio tt cc d 45 0 [some (.int x0)] [] s (.inl (some (.int o)), s) := by
  unfold dm45 at h
  refine Q.run zm45 2 (i' := 2) (ls' := [some (.int x0)]) (st' := [.int 65, .int x0]) rfl ?_
  by_cases hc1 : x0 < 65
  · rw [if_pos hc1] at h
    refine Q.map (A.bT (gI_of zm45 (e := (3, 3, .if_icmp .lt 9, [6])) rfl) (decide_eq_true hc1)) ?_
    exact dt45_6 hd hl  h
  · rw [if_neg hc1] at h
    refine Q.map (A.bF (gI_of zm45 (e := (3, 3, .if_icmp .lt 9, [6])) rfl) (fun q => hc1 (of_decide_eq_true q))) ?_
    refine Q.run zm45 2 (i' := 5) (ls' := [some (.int x0)]) (st' := [.int 90, .int x0]) rfl ?_
    by_cases hc2 : x0 ≤ 90
    · rw [if_pos hc2] at h
      refine Q.map (A.bT (gI_of zm45 (e := (9, 3, .if_icmp .le 15, [12])) rfl) (decide_eq_true hc2)) ?_
      exact dt45_12 hd hl  h
    · rw [if_neg hc2] at h
      refine Q.map (A.bF (gI_of zm45 (e := (9, 3, .if_icmp .le 15, [12])) rfl) (fun q => hc2 (of_decide_eq_true q))) ?_
      exact dt45_6 hd hl  h
/-! 44 FormulaTrees$Signs.beginsWord(I)Z -/
set_option maxRecDepth 100000 in
theorem zm44 : zP[44]? = some zM44 := rfl
def dm44_6 : Option (Int32) :=
  some 1
set_option maxRecDepth 100000 in
theorem dt44_6 {sio : Bool} {tt : Nat} {cc : Nat → Nat → Int32} {d : Nat} (hd : 1 ≤ d) {x0 : Int32} {s : aS} (hl : Ly tt cc s) {o : Int32} (h : dm44_6   = some o) : Q 1 sio tt cc d 44 6 [some (.int x0)] [] s (.inl (some (.int o)), s) := by
  unfold dm44_6 at h
  obtain ⟨d, rfl⟩ : ∃ e, d = e + 1 := ⟨d - 1, by omega⟩
  refine Q.run zm44 2 (i' := 9) (ls' := [some (.int x0)]) (st' := [.int 1]) rfl ?_
  cases h
  exact Q.ret (A.ri zm44 (show zM44.2.2.2.2.2[9]? = some (18, 1, .ireturn, []) from rfl) rfl rfl) hl
def dm44 (x0 : Int32) : Option (Int32) :=
  bu (dm45 x0) fun r3 =>
  if r3 = 0 then
    if x0 = 95 then
      dm44_6 
    else
      some 0
  else
    dm44_6 
set_option maxRecDepth 100000 in
theorem dt44 {sio : Bool} {tt : Nat} {cc : Nat → Nat → Int32} {d : Nat} (hd : 1 ≤ d) {x0 : Int32} {s : aS} (hl : Ly tt cc s) {o : Int32} (h : dm44  x0 = some o) : Q 1 sio tt cc d 44 0 [some (.int x0)] [] s (.inl (some (.int o)), s) := by
  unfold dm44 at h
  obtain ⟨d, rfl⟩ : ∃ e, d = e + 1 := ⟨d - 1, by omega⟩
  refine Q.run zm44 1 (i' := 1) (ls' := [some (.int x0)]) (st' := [.int x0]) rfl ?_
  obtain ⟨r3, hc2, h⟩ := bu_so h
  have hq1 : Q 1 sio tt cc d 45 0 [some (.int x0)] [] s (.inl (some (.int r3)), s) := dt45 (by omega) hl  hc2
  refine Q.callI (gC_st zm44 (show zM44.2.2.2.2.2[1]? = some (1, 3, .invokestatic 7, [0, 45, 1]) from rfl) zm45 (show aC 1 [.int x0] 1 = some ([some (.int x0)], []) from rfl)) hq1 ?_
  by_cases hc4 : r3 = 0
  · rw [if_pos hc4] at h
    refine Q.map (A.zF (gI_of zm44 (e := (4, 3, .ifCond .ne 9, [6])) rfl) (fun q => of_decide_eq_true q hc4)) ?_
    refine Q.run zm44 2 (i' := 5) (ls' := [some (.int x0)]) (st' := [.int 95, .int x0]) rfl ?_
    by_cases hc5 : x0 = 95
    · rw [if_pos hc5] at h
      refine Q.map (A.bF (gI_of zm44 (e := (10, 3, .if_icmp .ne 7, [8])) rfl) (fun q => of_decide_eq_true q hc5)) ?_
      exact dt44_6 hd hl  h
    · rw [if_neg hc5] at h
      refine Q.map (A.bT (gI_of zm44 (e := (10, 3, .if_icmp .ne 7, [8])) rfl) (decide_eq_true hc5)) ?_
      refine Q.run zm44 1 (i' := 9) (ls' := [some (.int x0)]) (st' := [.int 0]) rfl ?_
      cases h
      exact Q.ret (A.ri zm44 (show zM44.2.2.2.2.2[9]? = some (18, 1, .ireturn, []) from rfl) rfl rfl) hl
  · rw [if_neg hc4] at h
    refine Q.map (A.zT (gI_of zm44 (e := (4, 3, .ifCond .ne 9, [6])) rfl) (decide_eq_true hc4)) ?_
    exact dt44_6 hd hl  h
/-! 47 FormulaTrees$Signs.isDigit(I)Z -/
set_option maxRecDepth 100000 in
theorem zm47 : zP[47]? = some zM47 := rfl
def dm47 (x0 : Int32) : Option (Int32) :=
  if x0 < 48 then
    some 0
  else
    if 57 < x0 then
      some 0
    else
      some 1
set_option maxRecDepth 100000 in
theorem dt47 {sio : Bool} {tt : Nat} {cc : Nat → Nat → Int32} {d : Nat} (hd : 0 ≤ d) {x0 : Int32} {s : aS} (hl : Ly tt cc s) {o : Int32} (h : dm47  x0 = some o) : Q 1 sio tt cc d 47 0 [some (.int x0)] [] s (.inl (some (.int o)), s) := by
  unfold dm47 at h
  refine Q.run zm47 2 (i' := 2) (ls' := [some (.int x0)]) (st' := [.int 48, .int x0]) rfl ?_
  by_cases hc1 : x0 < 48
  · rw [if_pos hc1] at h
    refine Q.map (A.bT (gI_of zm47 (e := (3, 3, .if_icmp .lt 13, [8])) rfl) (decide_eq_true hc1)) ?_
    refine Q.run zm47 1 (i' := 9) (ls' := [some (.int x0)]) (st' := [.int 0]) rfl ?_
    cases h
    exact Q.ret (A.ri zm47 (show zM47.2.2.2.2.2[9]? = some (17, 1, .ireturn, []) from rfl) rfl rfl) hl
  · rw [if_neg hc1] at h
    refine Q.map (A.bF (gI_of zm47 (e := (3, 3, .if_icmp .lt 13, [8])) rfl) (fun q => hc1 (of_decide_eq_true q))) ?_
    refine Q.run zm47 2 (i' := 5) (ls' := [some (.int x0)]) (st' := [.int 57, .int x0]) rfl ?_
    by_cases hc2 : 57 < x0
    · rw [if_pos hc2] at h
      refine Q.map (A.bT (gI_of zm47 (e := (9, 3, .if_icmp .gt 7, [8])) rfl) (decide_eq_true hc2)) ?_
      refine Q.run zm47 1 (i' := 9) (ls' := [some (.int x0)]) (st' := [.int 0]) rfl ?_
      cases h
      exact Q.ret (A.ri zm47 (show zM47.2.2.2.2.2[9]? = some (17, 1, .ireturn, []) from rfl) rfl rfl) hl
    · rw [if_neg hc2] at h
      refine Q.map (A.bF (gI_of zm47 (e := (9, 3, .if_icmp .gt 7, [8])) rfl) (fun q => hc2 (of_decide_eq_true q))) ?_
      refine Q.run zm47 2 (i' := 9) (ls' := [some (.int x0)]) (st' := [.int 1]) rfl ?_
      cases h
      exact Q.ret (A.ri zm47 (show zM47.2.2.2.2.2[9]? = some (17, 1, .ireturn, []) from rfl) rfl rfl) hl
/-! 46 FormulaTrees$Signs.goesOnInWord(I)Z -/
set_option maxRecDepth 100000 in
theorem zm46 : zP[46]? = some zM46 := rfl
def dm46_12 : Option (Int32) :=
  some 1
set_option maxRecDepth 100000 in
theorem dt46_12 {sio : Bool} {tt : Nat} {cc : Nat → Nat → Int32} {d : Nat} (hd : 1 ≤ d) {x0 : Int32} {s : aS} (hl : Ly tt cc s) {o : Int32} (h : dm46_12   = some o) : Q 1 sio tt cc d 46 12 [some (.int x0)] [] s (.inl (some (.int o)), s) := by
  unfold dm46_12 at h
  obtain ⟨d, rfl⟩ : ∃ e, d = e + 1 := ⟨d - 1, by omega⟩
  refine Q.run zm46 2 (i' := 15) (ls' := [some (.int x0)]) (st' := [.int 1]) rfl ?_
  cases h
  exact Q.ret (A.ri zm46 (show zM46.2.2.2.2.2[15]? = some (31, 1, .ireturn, []) from rfl) rfl rfl) hl
def dm46 (x0 : Int32) : Option (Int32) :=
  bu (dm45 x0) fun r3 =>
  if r3 = 0 then
    bu (dm47 x0) fun r7 =>
    if r7 = 0 then
      if x0 = 95 then
        dm46_12 
      else
        if x0 = 46 then
          dm46_12 
        else
          some 0
    else
      dm46_12 
  else
    dm46_12 
set_option maxRecDepth 100000 in
theorem dt46 {sio : Bool} {tt : Nat} {cc : Nat → Nat → Int32} {d : Nat} (hd : 1 ≤ d) {x0 : Int32} {s : aS} (hl : Ly tt cc s) {o : Int32} (h : dm46  x0 = some o) : Q 1 sio tt cc d 46 0 [some (.int x0)] [] s (.inl (some (.int o)), s) := by
  unfold dm46 at h
  obtain ⟨d, rfl⟩ : ∃ e, d = e + 1 := ⟨d - 1, by omega⟩
  refine Q.run zm46 1 (i' := 1) (ls' := [some (.int x0)]) (st' := [.int x0]) rfl ?_
  obtain ⟨r3, hc2, h⟩ := bu_so h
  have hq1 : Q 1 sio tt cc d 45 0 [some (.int x0)] [] s (.inl (some (.int r3)), s) := dt45 (by omega) hl  hc2
  refine Q.callI (gC_st zm46 (show zM46.2.2.2.2.2[1]? = some (1, 3, .invokestatic 7, [0, 45, 1]) from rfl) zm45 (show aC 1 [.int x0] 1 = some ([some (.int x0)], []) from rfl)) hq1 ?_
  by_cases hc4 : r3 = 0
  · rw [if_pos hc4] at h
    refine Q.map (A.zF (gI_of zm46 (e := (4, 3, .ifCond .ne 22, [12])) rfl) (fun q => of_decide_eq_true q hc4)) ?_
    refine Q.run zm46 1 (i' := 4) (ls' := [some (.int x0)]) (st' := [.int x0]) rfl ?_
    obtain ⟨r7, hc6, h⟩ := bu_so h
    have hq5 : Q 1 sio tt cc d 47 0 [some (.int x0)] [] s (.inl (some (.int r7)), s) := dt47 (by omega) hl  hc6
    refine Q.callI (gC_st zm46 (show zM46.2.2.2.2.2[4]? = some (8, 3, .invokestatic 13, [0, 47, 1]) from rfl) zm47 (show aC 1 [.int x0] 1 = some ([some (.int x0)], []) from rfl)) hq5 ?_
    by_cases hc8 : r7 = 0
    · rw [if_pos hc8] at h
      refine Q.map (A.zF (gI_of zm46 (e := (11, 3, .ifCond .ne 15, [12])) rfl) (fun q => of_decide_eq_true q hc8)) ?_
      refine Q.run zm46 2 (i' := 8) (ls' := [some (.int x0)]) (st' := [.int 95, .int x0]) rfl ?_
      by_cases hc9 : x0 = 95
      · rw [if_pos hc9] at h
        refine Q.map (A.bT (gI_of zm46 (e := (17, 3, .if_icmp .eq 9, [12])) rfl) (decide_eq_true hc9)) ?_
        exact dt46_12 hd hl  h
      · rw [if_neg hc9] at h
        refine Q.map (A.bF (gI_of zm46 (e := (17, 3, .if_icmp .eq 9, [12])) rfl) (fun q => hc9 (of_decide_eq_true q))) ?_
        refine Q.run zm46 2 (i' := 11) (ls' := [some (.int x0)]) (st' := [.int 46, .int x0]) rfl ?_
        by_cases hc10 : x0 = 46
        · rw [if_pos hc10] at h
          refine Q.map (A.bF (gI_of zm46 (e := (23, 3, .if_icmp .ne 7, [14])) rfl) (fun q => of_decide_eq_true q hc10)) ?_
          exact dt46_12 hd hl  h
        · rw [if_neg hc10] at h
          refine Q.map (A.bT (gI_of zm46 (e := (23, 3, .if_icmp .ne 7, [14])) rfl) (decide_eq_true hc10)) ?_
          refine Q.run zm46 1 (i' := 15) (ls' := [some (.int x0)]) (st' := [.int 0]) rfl ?_
          cases h
          exact Q.ret (A.ri zm46 (show zM46.2.2.2.2.2[15]? = some (31, 1, .ireturn, []) from rfl) rfl rfl) hl
    · rw [if_neg hc8] at h
      refine Q.map (A.zT (gI_of zm46 (e := (11, 3, .ifCond .ne 15, [12])) rfl) (decide_eq_true hc8)) ?_
      exact dt46_12 hd hl  h
  · rw [if_neg hc4] at h
    refine Q.map (A.zT (gI_of zm46 (e := (4, 3, .ifCond .ne 22, [12])) rfl) (decide_eq_true hc4)) ?_
    exact dt46_12 hd hl  h
/-! 43 FormulaTrees$Letters.wordEnd(I)I -/
set_option maxRecDepth 100000 in
theorem zm43 : zP[43]? = some zM43 := rfl
def dm43_7 : Nat → Nat → Int32 → aS → Option (Int32)
  | 0, _, _, _ => none
  | n + 1, b0, x2, s =>
    if (sI s b0 1) ≤ x2 then
      some x2
    else
      bu (dm34 b0 x2 s) fun r4 =>
      bu (dm46 r4) fun r7 =>
      if r7 = 0 then
        some x2
      else
        dm43_7 n b0 (x2 + 1) s
set_option maxRecDepth 100000 in
theorem dt43_7 {sio : Bool} {tt : Nat} {cc : Nat → Nat → Int32} {d : Nat} (hd : 2 ≤ d) : ∀ (n : Nat) {b0 : Nat} {x2 : Int32} {x1 : Int32} {s : aS} (_ : Ly tt cc s) (_ : aK s b0 1) {o : Int32} (_ : dm43_7  n b0 x2 s = some o), Q 1 sio tt cc d 43 7 [some (.ref b0), some (.int x1), some (.int x2)] [] s (.inl (some (.int o)), s) := by
  obtain ⟨d, rfl⟩ : ∃ e, d = e + 1 := ⟨d - 1, by omega⟩
  intro n
  induction n with
  | zero => intro b0 x2 x1 s hl hk_b0 o h; rw [dm43_7] at h; cases h
  | succ n ih =>
    intro b0 x2 x1 s hl hk_b0 o h
    rw [dm43_7] at h
    refine Q.run zm43 2 (i' := 9) (ls' := [some (.ref b0), some (.int x1), some (.int x2)]) (st' := [.ref b0, .int x2]) rfl ?_
    refine Q.map (A.gf (gI_of zm43 (e := (15, 3, .getfield 15, [1, 1])) rfl) hk_b0.1 (hl.le hk_b0).1 (by decide) rfl) ?_
    by_cases hc1 : (sI s b0 1) ≤ x2
    · rw [if_pos hc1] at h
      refine Q.map (A.bT (gI_of zm43 (e := (18, 3, .if_icmp .ge 20, [18])) rfl) (decide_eq_true hc1)) ?_
      refine Q.run zm43 1 (i' := 19) (ls' := [some (.ref b0), some (.int x1), some (.int x2)]) (st' := [.int x2]) rfl ?_
      cases h
      exact Q.ret (A.ri zm43 (show zM43.2.2.2.2.2[19]? = some (39, 1, .ireturn, []) from rfl) rfl rfl) hl
    · rw [if_neg hc1] at h
      refine Q.map (A.bF (gI_of zm43 (e := (18, 3, .if_icmp .ge 20, [18])) rfl) (fun q => hc1 (of_decide_eq_true q))) ?_
      refine Q.run zm43 2 (i' := 13) (ls' := [some (.ref b0), some (.int x1), some (.int x2)]) (st' := [.int x2, .ref b0]) rfl ?_
      obtain ⟨r4, hc3, h⟩ := bu_so h
      have hq2 : Q 1 sio tt cc d 34 0 [some (.ref b0), some (.int x2)] [] s (.inl (some (.int r4)), s) := dt34 (by omega) hl hk_b0 hc3
      refine Q.callI (gC_vi zm43 (show zM43.2.2.2.2.2[13]? = some (23, 3, .invokevirtual 25, [0, 34, 1, 1]) from rfl) zm34 hk_b0.1 (hl.le hk_b0).1 rfl (show aCr 1 b0 [.int x2, .ref b0] 2 = some ([some (.ref b0), some (.int x2)], []) from rfl)) hq2 ?_
      obtain ⟨r7, hc6, h⟩ := bu_so h
      have hq5 : Q 1 sio tt cc d 46 0 [some (.int r4)] [] s (.inl (some (.int r7)), s) := dt46 (by omega) hl  hc6
      refine Q.callI (gC_st zm43 (show zM43.2.2.2.2.2[14]? = some (26, 3, .invokestatic 57, [0, 46, 1]) from rfl) zm46 (show aC 1 [.int r4] 1 = some ([some (.int r4)], []) from rfl)) hq5 ?_
      by_cases hc8 : r7 = 0
      · rw [if_pos hc8] at h
        refine Q.map (A.zT (gI_of zm43 (e := (29, 3, .ifCond .eq 9, [18])) rfl) (decide_eq_true hc8)) ?_
        refine Q.run zm43 1 (i' := 19) (ls' := [some (.ref b0), some (.int x1), some (.int x2)]) (st' := [.int x2]) rfl ?_
        cases h
        exact Q.ret (A.ri zm43 (show zM43.2.2.2.2.2[19]? = some (39, 1, .ireturn, []) from rfl) rfl rfl) hl
      · rw [if_neg hc8] at h
        refine Q.map (A.zF (gI_of zm43 (e := (29, 3, .ifCond .eq 9, [18])) rfl) (fun q => hc8 (of_decide_eq_true q))) ?_
        refine Q.run zm43 2 (i' := 7) (ls' := [some (.ref b0), some (.int x1), some (.int (x2 + 1))]) (st' := []) rfl ?_
        exact ih hl hk_b0 h
def dm43 (b0 : Nat) (x1 : Int32) (s : aS) : Option (Int32) :=
  bu (dm34 b0 x1 s) fun r3 =>
  bu (dm44 r3) fun r6 =>
  if r6 = 0 then
    some x1
  else
    dm43_7 5000 b0 x1 s
set_option maxRecDepth 100000 in
theorem dt43 {sio : Bool} {tt : Nat} {cc : Nat → Nat → Int32} {d : Nat} (hd : 2 ≤ d) {b0 : Nat} {x1 : Int32} {s : aS} (hl : Ly tt cc s) (hk_b0 : aK s b0 1) {o : Int32} (h : dm43  b0 x1 s = some o) : Q 1 sio tt cc d 43 0 [some (.ref b0), some (.int x1), none] [] s (.inl (some (.int o)), s) := by
  unfold dm43 at h
  obtain ⟨d, rfl⟩ : ∃ e, d = e + 1 := ⟨d - 1, by omega⟩
  refine Q.run zm43 4 (i' := 4) (ls' := [some (.ref b0), some (.int x1), some (.int x1)]) (st' := [.int x1, .ref b0]) rfl ?_
  obtain ⟨r3, hc2, h⟩ := bu_so h
  have hq1 : Q 1 sio tt cc d 34 0 [some (.ref b0), some (.int x1)] [] s (.inl (some (.int r3)), s) := dt34 (by omega) hl hk_b0 hc2
  refine Q.callI (gC_vi zm43 (show zM43.2.2.2.2.2[4]? = some (4, 3, .invokevirtual 25, [0, 34, 1, 1]) from rfl) zm34 hk_b0.1 (hl.le hk_b0).1 rfl (show aCr 1 b0 [.int x1, .ref b0] 2 = some ([some (.ref b0), some (.int x1)], []) from rfl)) hq1 ?_
  obtain ⟨r6, hc5, h⟩ := bu_so h
  have hq4 : Q 1 sio tt cc d 44 0 [some (.int r3)] [] s (.inl (some (.int r6)), s) := dt44 (by omega) hl  hc5
  refine Q.callI (gC_st zm43 (show zM43.2.2.2.2.2[5]? = some (7, 3, .invokestatic 53, [0, 44, 1]) from rfl) zm44 (show aC 1 [.int r3] 1 = some ([some (.int r3)], []) from rfl)) hq4 ?_
  by_cases hc7 : r6 = 0
  · rw [if_pos hc7] at h
    refine Q.map (A.zT (gI_of zm43 (e := (10, 3, .ifCond .eq 28, [18])) rfl) (decide_eq_true hc7)) ?_
    refine Q.run zm43 1 (i' := 19) (ls' := [some (.ref b0), some (.int x1), some (.int x1)]) (st' := [.int x1]) rfl ?_
    cases h
    exact Q.ret (A.ri zm43 (show zM43.2.2.2.2.2[19]? = some (39, 1, .ireturn, []) from rfl) rfl rfl) hl
  · rw [if_neg hc7] at h
    refine Q.map (A.zF (gI_of zm43 (e := (10, 3, .ifCond .eq 28, [18])) rfl) (fun q => hc7 (of_decide_eq_true q))) ?_
    exact dt43_7 hd _ hl hk_b0 h
/-! 262 jdk/internal/util/Preconditions.checkIndex(IILjava/util/function/BiFunction;)I -/
set_option maxRecDepth 100000 in
theorem zm262 : zP[262]? = some zM262 := rfl
def dm262_5 (x0 : Int32) (x1 : Int32) : Option (Int32) :=
  none
set_option maxRecDepth 100000 in
theorem dt262_5 {f : Nat} {sio : Bool} {tt : Nat} {cc : Nat → Nat → Int32} {d : Nat} (hd : 0 ≤ d) {x0 : Int32} {x1 : Int32} {v2 : Value} {s : aS} (hl : Ly tt cc s) {o : Int32} (h : dm262_5  x0 x1 = some o) : Q f sio tt cc d 262 5 [some (.int x0), some (.int x1), some (v2)] [] s (.inl (some (.int o)), s) := by
  unfold dm262_5 at h
  cases h
def dm262 (x0 : Int32) (x1 : Int32) : Option (Int32) :=
  if x0 < 0 then
    dm262_5 x0 x1
  else
    if x0 < x1 then
      some x0
    else
      dm262_5 x0 x1
set_option maxRecDepth 100000 in
theorem dt262 {f : Nat} {sio : Bool} {tt : Nat} {cc : Nat → Nat → Int32} {d : Nat} (hd : 0 ≤ d) {x0 : Int32} {x1 : Int32} {v2 : Value} {s : aS} (hl : Ly tt cc s) {o : Int32} (h : dm262  x0 x1 = some o) : Q f sio tt cc d 262 0 [some (.int x0), some (.int x1), some (v2)] [] s (.inl (some (.int o)), s) := by
  unfold dm262 at h
  refine Q.run zm262 1 (i' := 1) (ls' := [some (.int x0), some (.int x1), some (v2)]) (st' := [.int x0]) rfl ?_
  by_cases hc1 : x0 < 0
  · rw [if_pos hc1] at h
    refine Q.map (A.zT (gI_of zm262 (e := (1, 3, .ifCond .lt 8, [5])) rfl) (decide_eq_true hc1)) ?_
    exact dt262_5 hd hl  h
  · rw [if_neg hc1] at h
    refine Q.map (A.zF (gI_of zm262 (e := (1, 3, .ifCond .lt 8, [5])) rfl) (fun q => hc1 (of_decide_eq_true q))) ?_
    refine Q.run zm262 2 (i' := 4) (ls' := [some (.int x0), some (.int x1), some (v2)]) (st' := [.int x1, .int x0]) rfl ?_
    by_cases hc2 : x0 < x1
    · rw [if_pos hc2] at h
      refine Q.map (A.bT (gI_of zm262 (e := (6, 3, .if_icmp .lt 10, [10])) rfl) (decide_eq_true hc2)) ?_
      refine Q.run zm262 1 (i' := 11) (ls' := [some (.int x0), some (.int x1), some (v2)]) (st' := [.int x0]) rfl ?_
      cases h
      exact Q.ret (A.ri zm262 (show zM262.2.2.2.2.2[11]? = some (17, 1, .ireturn, []) from rfl) rfl rfl) hl
    · rw [if_neg hc2] at h
      refine Q.map (A.bF (gI_of zm262 (e := (6, 3, .if_icmp .lt 10, [10])) rfl) (fun q => hc2 (of_decide_eq_true q))) ?_
      exact dt262_5 hd hl  h
/-! 261 java/lang/String.checkIndex(II)V -/
set_option maxRecDepth 100000 in
theorem zm261 : zP[261]? = some zM261 := rfl
def dm261 (x0 : Int32) (x1 : Int32) (s : aS) : Option (aS) :=
  bu (dm262 x0 x1) fun r3 =>
  some s
set_option maxRecDepth 100000 in
theorem dt261 {f : Nat} {sio : Bool} {tt : Nat} {cc : Nat → Nat → Int32} {d : Nat} (hd : 1 ≤ d) {x0 : Int32} {x1 : Int32} {s : aS} (hl : Ly tt cc s) {o : aS} (h : dm261  x0 x1 s = some o) : Q f sio tt cc d 261 0 [some (.int x0), some (.int x1)] [] s (.inl none, o) := by
  unfold dm261 at h
  obtain ⟨d, rfl⟩ : ∃ e, d = e + 1 := ⟨d - 1, by omega⟩
  refine Q.run zm261 3 (i' := 3) (ls' := [some (.int x0), some (.int x1)]) (st' := [(sv sio), .int x1, .int x0]) rfl ?_
  obtain ⟨r3, hc2, h⟩ := bu_so h
  have hq1 : Q f sio tt cc d 262 0 [some (.int x0), some (.int x1), some ((sv sio))] [] s (.inl (some (.int r3)), s) := dt262 (by omega) hl  hc2
  refine Q.callI (gC_st zm261 (show zM261.2.2.2.2.2[3]? = some (5, 3, .invokestatic 1059, [0, 262, 3]) from rfl) zm262 (show aC 3 [(sv sio), .int x1, .int x0] 3 = some ([some (.int x0), some (.int x1), some ((sv sio))], []) from by cases sio <;> rfl)) hq1 ?_
  refine Q.run zm261 1 (i' := 5) (ls' := [some (.int x0), some (.int x1)]) (st' := []) rfl ?_
  cases h
  exact Q.ret (A.rv zm261 (show zM261.2.2.2.2.2[5]? = some (9, 1, .return_, []) from rfl) rfl) hl
/-! 260 java/lang/StringLatin1.charAt([BI)C -/
set_option maxRecDepth 100000 in
theorem zm260 : zP[260]? = some zM260 := rfl
def dm260 (b0 : Nat) (x1 : Int32) (s : aS) : Option (Int32 × aS) :=
  bu (dm261 x1 (Int32.ofNat (sT s b0).2) s) fun s3 =>
  if aB x1 (sT s3 b0).2 then
    if 0 ≤ ((((sI s3 b0 (jN x1)) &&& 255).toUInt32 % 65536).toInt32) ∧ ((((sI s3 b0 (jN x1)) &&& 255).toUInt32 % 65536).toInt32) ≤ 65535 then
      some ((((sI s3 b0 (jN x1)) &&& 255).toUInt32 % 65536).toInt32, s3)
    else none
  else none
set_option maxRecDepth 100000 in
theorem dt260 {f : Nat} {sio : Bool} {tt : Nat} {cc : Nat → Nat → Int32} {d : Nat} (hd : 2 ≤ d) {b0 : Nat} {x1 : Int32} {s : aS} (hl : Ly tt cc s) (hk_b0 : aK s b0 101) {o : Int32 × aS} (h : dm260  b0 x1 s = some o) : Q f sio tt cc d 260 0 [some (.ref b0), some (.int x1)] [] s (.inl (some (.int o.1)), o.2) := by
  unfold dm260 at h
  obtain ⟨d, rfl⟩ : ∃ e, d = e + 1 := ⟨d - 1, by omega⟩
  refine Q.run zm260 2 (i' := 2) (ls' := [some (.ref b0), some (.int x1)]) (st' := [.ref b0, .int x1]) rfl ?_
  refine Q.map (A.al (gI_of zm260 (e := (2, 1, .arraylength, [])) rfl) hk_b0.1 (pr2 hk_b0.2) (by decide)) ?_
  obtain ⟨s3, hc2, h⟩ := bu_so h
  have hq1 : Q f sio tt cc d 261 0 [some (.int x1), some (.int (Int32.ofNat (sT s b0).2))] [] s (.inl none, s3) := dt261 (by omega) hl  hc2
  refine Q.callV (gC_st zm260 (show zM260.2.2.2.2.2[3]? = some (3, 3, .invokestatic 9, [0, 261, 2]) from rfl) zm261 (show aC 2 [.int (Int32.ofNat (sT s b0).2), .int x1] 2 = some ([some (.int x1), some (.int (Int32.ofNat (sT s b0).2))], []) from rfl)) hq1 ?_
  have hr4 : aK s3 b0 101 := hq1.2.1.k hk_b0
  refine Q.run zm260 2 (i' := 6) (ls' := [some (.ref b0), some (.int x1)]) (st' := [.int x1, .ref b0]) rfl ?_
  obtain ⟨hc5, h⟩ := ite_so h
  refine Q.map (A.ba (gI_of zm260 (e := (8, 1, .baload, [])) rfl) hr4.1 (pr2 hr4.2) (by decide) hc5) ?_
  refine Q.run zm260 3 (i' := 10) (ls' := [some (.ref b0), some (.int x1)]) (st' := [.int ((((sI s3 b0 (jN x1)) &&& 255).toUInt32 % 65536).toInt32)]) rfl ?_
  obtain ⟨hc6, h⟩ := ite_so h
  cases h
  exact Q.ret (A.ri zm260 (show zM260.2.2.2.2.2[10]? = some (14, 1, .ireturn, []) from rfl) rfl (fit4 hc6)) hq1.1
/-! 259 java/lang/String.charAt(I)C -/
set_option maxRecDepth 100000 in
theorem zm259 : zP[259]? = some zM259 := rfl
def dm259 (b0 : Nat) (x1 : Int32) (s : aS) : Option (Int32 × aS) :=
  bu (dm253 b0 s) fun r3 =>
  if r3 = 0 then
    none
  else
    bv (dm260 (b0 + 1) x1 s) fun r8 s7 =>
    if 0 ≤ r8 ∧ r8 ≤ 65535 then
      some (r8, s7)
    else none
set_option maxRecDepth 100000 in
theorem dt259 {f : Nat} {sio : Bool} {tt : Nat} {cc : Nat → Nat → Int32} {d : Nat} (hd : 3 ≤ d) {b0 : Nat} {x1 : Int32} {s : aS} (hl : Ly tt cc s) (hk_b0 : aK s b0 70) {o : Int32 × aS} (h : dm259  b0 x1 s = some o) : Q f sio tt cc d 259 0 [some (.ref b0), some (.int x1)] [] s (.inl (some (.int o.1)), o.2) := by
  unfold dm259 at h
  obtain ⟨d, rfl⟩ : ∃ e, d = e + 1 := ⟨d - 1, by omega⟩
  refine Q.run zm259 1 (i' := 1) (ls' := [some (.ref b0), some (.int x1)]) (st' := [.ref b0]) rfl ?_
  obtain ⟨r3, hc2, h⟩ := bu_so h
  have hq1 : Q f sio tt cc d 253 0 [some (.ref b0)] [] s (.inl (some (.int r3)), s) := dt253 (by omega) hl hk_b0 hc2
  refine Q.callI (gC_vi zm259 (show zM259.2.2.2.2.2[1]? = some (1, 3, .invokevirtual 492, [0, 253, 0, 70]) from rfl) zm253 hk_b0.1 (hl.tx hk_b0).1 rfl (show aCr 0 b0 [.ref b0] 1 = some ([some (.ref b0)], []) from rfl)) hq1 ?_
  by_cases hc4 : r3 = 0
  · rw [if_pos hc4] at h
    refine Q.map (A.zT (gI_of zm259 (e := (4, 3, .ifCond .eq 12, [8])) rfl) (decide_eq_true hc4)) ?_
    refine Q.run zm259 1 (i' := 9) (ls' := [some (.ref b0), some (.int x1)]) (st' := [.ref b0]) rfl ?_
    refine Q.map (A.gf (gI_of zm259 (e := (17, 3, .getfield 9, [70, 0])) rfl) hk_b0.1 (hl.tx hk_b0).1 (by decide) (hl.tx hk_b0).2.1) ?_
    refine Q.run zm259 1 (i' := 11) (ls' := [some (.ref b0), some (.int x1)]) (st' := [.int x1, .ref (b0 + 1)]) rfl ?_
    cases h
  · rw [if_neg hc4] at h
    refine Q.map (A.zF (gI_of zm259 (e := (4, 3, .ifCond .eq 12, [8])) rfl) (fun q => hc4 (of_decide_eq_true q))) ?_
    refine Q.run zm259 1 (i' := 4) (ls' := [some (.ref b0), some (.int x1)]) (st' := [.ref b0]) rfl ?_
    refine Q.map (A.gf (gI_of zm259 (e := (8, 3, .getfield 9, [70, 0])) rfl) hk_b0.1 (hl.tx hk_b0).1 (by decide) (hl.tx hk_b0).2.1) ?_
    refine Q.run zm259 1 (i' := 6) (ls' := [some (.ref b0), some (.int x1)]) (st' := [.int x1, .ref (b0 + 1)]) rfl ?_
    obtain ⟨r8, s7, hc6, h⟩ := bv_so h
    have hq5 : Q f sio tt cc d 260 0 [some (.ref (b0 + 1)), some (.int x1)] [] s (.inl (some (.int r8)), s7) := dt260 (by omega) hl ⟨(hl.tx hk_b0).2.2.1, by rw [(pr2 (hl.tx hk_b0).2.2.2.1)]⟩ hc6
    refine Q.callI (gC_st zm259 (show zM259.2.2.2.2.2[6]? = some (12, 3, .invokestatic 495, [0, 260, 2]) from rfl) zm260 (show aC 2 [.int x1, .ref (b0 + 1)] 2 = some ([some (.ref (b0 + 1)), some (.int x1)], []) from rfl)) hq5 ?_
    have hr9 : aK s7 b0 70 := hq5.2.1.k hk_b0
    obtain ⟨hc10, h⟩ := ite_so h
    cases h
    exact Q.ret (A.ri zm259 (show zM259.2.2.2.2.2[7]? = some (15, 1, .ireturn, []) from rfl) rfl (fit4 hc10)) hq5.1
/-! 49 FormulaTrees$Letters.spells(Ljava/lang/String;II)Z -/
set_option maxRecDepth 100000 in
theorem zm49 : zP[49]? = some zM49 := rfl
def dm49_28 (k10 : Nat → Nat → Int32 → Int32 → Int32 → Int32 → aS → Option (Int32 × aS)) (b0 : Nat) (b1 : Nat) (x2 : Int32) (x3 : Int32) (x5 : Int32) (y0 : Int32) (s : aS) : Option (Int32 × aS) :=
  k10 b0 b1 x2 x3 y0 (x5 + 1) s
set_option maxRecDepth 100000 in
theorem dt49_28 {sio : Bool} {tt : Nat} {cc : Nat → Nat → Int32} {d : Nat} (hd : 4 ≤ d) {k10 : Nat → Nat → Int32 → Int32 → Int32 → Int32 → aS → Option (Int32 × aS)} (hk10 : ∀ {b0 : Nat} {b1 : Nat} {x2 : Int32} {x3 : Int32} {x4 : Int32} {x5 : Int32} {s : aS}, Ly tt cc s → aK s b0 1 → aK s b1 70 → ∀ {o : Int32 × aS}, k10 b0 b1 x2 x3 x4 x5 s = some o → Q 1 sio tt cc d 49 10 [some (.ref b0), some (.ref b1), some (.int x2), some (.int x3), some (.int x4), some (.int x5)] [] s (.inl (some (.int o.1)), o.2)) {b0 : Nat} {b1 : Nat} {x2 : Int32} {x3 : Int32} {x5 : Int32} {y0 : Int32} {x4 : Int32} {s : aS} (hl : Ly tt cc s) (hk_b0 : aK s b0 1) (hk_b1 : aK s b1 70) {o : Int32 × aS} (h : dm49_28 k10 b0 b1 x2 x3 x5 y0 s = some o) : Q 1 sio tt cc d 49 28 [some (.ref b0), some (.ref b1), some (.int x2), some (.int x3), some (.int x4), some (.int x5)] [.int y0] s (.inl (some (.int o.1)), o.2) := by
  unfold dm49_28 at h
  obtain ⟨d, rfl⟩ : ∃ e, d = e + 1 := ⟨d - 1, by omega⟩
  refine Q.run zm49 3 (i' := 10) (ls' := [some (.ref b0), some (.ref b1), some (.int x2), some (.int x3), some (.int y0), some (.int (x5 + 1))]) (st' := []) rfl ?_
  exact hk10 hl hk_b0 hk_b1 h
def dm49_10 : Nat → Nat → Nat → Int32 → Int32 → Int32 → Int32 → aS → Option (Int32 × aS)
  | 0, _, _, _, _, _, _, _ => none
  | n + 1, b0, b1, x2, x3, x4, x5, s =>
    if x2 ≤ x5 then
      if x4 = 0 ∨ x4 = 1 then
        some (x4, s)
      else none
    else
      if x4 = 0 then
        if x4 = 0 ∨ x4 = 1 then
          some (x4, s)
        else none
      else
        bu (dm34 b0 (x3 + x5) s) fun r7 =>
        bu (dm35 r7) fun r10 =>
        bv (dm259 b1 x5 s) fun r14 s13 =>
        if r10 = r14 then
          dm49_28 (dm49_10 n) b0 b1 x2 x3 x5 1 s13
        else
          dm49_28 (dm49_10 n) b0 b1 x2 x3 x5 0 s13
set_option maxRecDepth 100000 in
theorem dt49_10 {sio : Bool} {tt : Nat} {cc : Nat → Nat → Int32} {d : Nat} (hd : 4 ≤ d) : ∀ (n : Nat) {b0 : Nat} {b1 : Nat} {x2 : Int32} {x3 : Int32} {x4 : Int32} {x5 : Int32} {s : aS} (_ : Ly tt cc s) (_ : aK s b0 1) (_ : aK s b1 70) {o : Int32 × aS} (_ : dm49_10  n b0 b1 x2 x3 x4 x5 s = some o), Q 1 sio tt cc d 49 10 [some (.ref b0), some (.ref b1), some (.int x2), some (.int x3), some (.int x4), some (.int x5)] [] s (.inl (some (.int o.1)), o.2) := by
  obtain ⟨d, rfl⟩ : ∃ e, d = e + 1 := ⟨d - 1, by omega⟩
  intro n
  induction n with
  | zero => intro b0 b1 x2 x3 x4 x5 s hl hk_b0 hk_b1 o h; rw [dm49_10] at h; cases h
  | succ n ih =>
    intro b0 b1 x2 x3 x4 x5 s hl hk_b0 hk_b1 o h
    rw [dm49_10] at h
    refine Q.run zm49 2 (i' := 12) (ls' := [some (.ref b0), some (.ref b1), some (.int x2), some (.int x3), some (.int x4), some (.int x5)]) (st' := [.int x2, .int x5]) rfl ?_
    by_cases hc1 : x2 ≤ x5
    · rw [if_pos hc1] at h
      refine Q.map (A.bT (gI_of zm49 (e := (21, 3, .if_icmp .ge 41, [31])) rfl) (decide_eq_true hc1)) ?_
      refine Q.run zm49 1 (i' := 32) (ls' := [some (.ref b0), some (.ref b1), some (.int x2), some (.int x3), some (.int x4), some (.int x5)]) (st' := [.int x4]) rfl ?_
      obtain ⟨hc2, h⟩ := ite_so h
      cases h
      exact Q.ret (A.ri zm49 (show zM49.2.2.2.2.2[32]? = some (64, 1, .ireturn, []) from rfl) rfl (fit1 hc2)) hl
    · rw [if_neg hc1] at h
      refine Q.map (A.bF (gI_of zm49 (e := (21, 3, .if_icmp .ge 41, [31])) rfl) (fun q => hc1 (of_decide_eq_true q))) ?_
      refine Q.run zm49 1 (i' := 14) (ls' := [some (.ref b0), some (.ref b1), some (.int x2), some (.int x3), some (.int x4), some (.int x5)]) (st' := [.int x4]) rfl ?_
      by_cases hc3 : x4 = 0
      · rw [if_pos hc3] at h
        refine Q.map (A.zT (gI_of zm49 (e := (26, 3, .ifCond .eq 36, [31])) rfl) (decide_eq_true hc3)) ?_
        refine Q.run zm49 1 (i' := 32) (ls' := [some (.ref b0), some (.ref b1), some (.int x2), some (.int x3), some (.int x4), some (.int x5)]) (st' := [.int x4]) rfl ?_
        obtain ⟨hc4, h⟩ := ite_so h
        cases h
        exact Q.ret (A.ri zm49 (show zM49.2.2.2.2.2[32]? = some (64, 1, .ireturn, []) from rfl) rfl (fit1 hc4)) hl
      · rw [if_neg hc3] at h
        refine Q.map (A.zF (gI_of zm49 (e := (26, 3, .ifCond .eq 36, [31])) rfl) (fun q => hc3 (of_decide_eq_true q))) ?_
        refine Q.run zm49 4 (i' := 19) (ls' := [some (.ref b0), some (.ref b1), some (.int x2), some (.int x3), some (.int x4), some (.int x5)]) (st' := [.int (x3 + x5), .ref b0]) rfl ?_
        obtain ⟨r7, hc6, h⟩ := bu_so h
        have hq5 : Q 1 sio tt cc d 34 0 [some (.ref b0), some (.int (x3 + x5))] [] s (.inl (some (.int r7)), s) := dt34 (by omega) hl hk_b0 hc6
        refine Q.callI (gC_vi zm49 (show zM49.2.2.2.2.2[19]? = some (34, 3, .invokevirtual 25, [0, 34, 1, 1]) from rfl) zm34 hk_b0.1 (hl.le hk_b0).1 rfl (show aCr 1 b0 [.int (x3 + x5), .ref b0] 2 = some ([some (.ref b0), some (.int (x3 + x5))], []) from rfl)) hq5 ?_
        obtain ⟨r10, hc9, h⟩ := bu_so h
        have hq8 : Q 1 sio tt cc d 35 0 [some (.int r7)] [] s (.inl (some (.int r10)), s) := dt35 (by omega) hl  hc9
        refine Q.callI (gC_st zm49 (show zM49.2.2.2.2.2[20]? = some (37, 3, .invokestatic 33, [0, 35, 1]) from rfl) zm35 (show aC 1 [.int r7] 1 = some ([some (.int r7)], []) from rfl)) hq8 ?_
        refine Q.run zm49 2 (i' := 23) (ls' := [some (.ref b0), some (.ref b1), some (.int x2), some (.int x3), some (.int x4), some (.int x5)]) (st' := [.int x5, .ref b1, .int r10]) rfl ?_
        obtain ⟨r14, s13, hc12, h⟩ := bv_so h
        have hq11 : Q 1 sio tt cc d 259 0 [some (.ref b1), some (.int x5)] [] s (.inl (some (.int r14)), s13) := dt259 (by omega) hl hk_b1 hc12
        refine Q.callI (gC_vi zm49 (show zM49.2.2.2.2.2[23]? = some (43, 3, .invokevirtual 41, [0, 259, 1, 70]) from rfl) zm259 hk_b1.1 (hl.tx hk_b1).1 rfl (show aCr 1 b1 [.int x5, .ref b1, .int r10] 2 = some ([some (.ref b1), some (.int x5)], [.int r10]) from rfl)) hq11 ?_
        have hr15 : aK s13 b0 1 := hq11.2.1.k hk_b0
        have hr16 : aK s13 b1 70 := hq11.2.1.k hk_b1
        by_cases hc17 : r10 = r14
        · rw [if_pos hc17] at h
          refine Q.map (A.bF (gI_of zm49 (e := (46, 3, .if_icmp .ne 7, [27])) rfl) (fun q => of_decide_eq_true q hc17)) ?_
          refine Q.run zm49 2 (i' := 28) (ls' := [some (.ref b0), some (.ref b1), some (.int x2), some (.int x3), some (.int x4), some (.int x5)]) (st' := [.int 1]) rfl ?_
          exact dt49_28 hd ih hq11.1 hr15 hr16 h
        · rw [if_neg hc17] at h
          refine Q.map (A.bT (gI_of zm49 (e := (46, 3, .if_icmp .ne 7, [27])) rfl) (decide_eq_true hc17)) ?_
          refine Q.run zm49 1 (i' := 28) (ls' := [some (.ref b0), some (.ref b1), some (.int x2), some (.int x3), some (.int x4), some (.int x5)]) (st' := [.int 0]) rfl ?_
          exact dt49_28 hd ih hq11.1 hr15 hr16 h
def dm49_7 (b0 : Nat) (b1 : Nat) (x2 : Int32) (x3 : Int32) (y0 : Int32) (s : aS) : Option (Int32 × aS) :=
  dm49_10 5000 b0 b1 x2 x3 y0 0 s
set_option maxRecDepth 100000 in
theorem dt49_7 {sio : Bool} {tt : Nat} {cc : Nat → Nat → Int32} {d : Nat} (hd : 4 ≤ d) {b0 : Nat} {b1 : Nat} {x2 : Int32} {x3 : Int32} {y0 : Int32} {s : aS} (hl : Ly tt cc s) (hk_b0 : aK s b0 1) (hk_b1 : aK s b1 70) {o : Int32 × aS} (h : dm49_7  b0 b1 x2 x3 y0 s = some o) : Q 1 sio tt cc d 49 7 [some (.ref b0), some (.ref b1), some (.int x2), some (.int x3), none, none] [.int y0] s (.inl (some (.int o.1)), o.2) := by
  unfold dm49_7 at h
  obtain ⟨d, rfl⟩ : ∃ e, d = e + 1 := ⟨d - 1, by omega⟩
  refine Q.run zm49 3 (i' := 10) (ls' := [some (.ref b0), some (.ref b1), some (.int x2), some (.int x3), some (.int y0), some (.int 0)]) (st' := []) rfl ?_
  exact dt49_10 hd _ hl hk_b0 hk_b1 h
def dm49 (b0 : Nat) (b1 : Nat) (x2 : Int32) (x3 : Int32) (s : aS) : Option (Int32 × aS) :=
  bu (dm254 b1 s) fun r3 =>
  if r3 < x2 then
    dm49_7 b0 b1 x2 x3 0 s
  else
    dm49_7 b0 b1 x2 x3 1 s
set_option maxRecDepth 100000 in
theorem dt49 {sio : Bool} {tt : Nat} {cc : Nat → Nat → Int32} {d : Nat} (hd : 4 ≤ d) {b0 : Nat} {b1 : Nat} {x2 : Int32} {x3 : Int32} {s : aS} (hl : Ly tt cc s) (hk_b0 : aK s b0 1) (hk_b1 : aK s b1 70) {o : Int32 × aS} (h : dm49  b0 b1 x2 x3 s = some o) : Q 1 sio tt cc d 49 0 [some (.ref b0), some (.ref b1), some (.int x2), some (.int x3), none, none] [] s (.inl (some (.int o.1)), o.2) := by
  unfold dm49 at h
  obtain ⟨d, rfl⟩ : ∃ e, d = e + 1 := ⟨d - 1, by omega⟩
  refine Q.run zm49 2 (i' := 2) (ls' := [some (.ref b0), some (.ref b1), some (.int x2), some (.int x3), none, none]) (st' := [.ref b1, .int x2]) rfl ?_
  obtain ⟨r3, hc2, h⟩ := bu_so h
  have hq1 : Q 1 sio tt cc d 254 0 [some (.ref b1)] [] s (.inl (some (.int r3)), s) := dt254 (by omega) hl hk_b1 hc2
  refine Q.callI (gC_vi zm49 (show zM49.2.2.2.2.2[2]? = some (2, 3, .invokevirtual 38, [0, 254, 0, 70]) from rfl) zm254 hk_b1.1 (hl.tx hk_b1).1 rfl (show aCr 0 b1 [.ref b1, .int x2] 1 = some ([some (.ref b1)], [.int x2]) from rfl)) hq1 ?_
  by_cases hc4 : r3 < x2
  · rw [if_pos hc4] at h
    refine Q.map (A.bT (gI_of zm49 (e := (5, 3, .if_icmp .gt 7, [6])) rfl) (decide_eq_true hc4)) ?_
    refine Q.run zm49 1 (i' := 7) (ls' := [some (.ref b0), some (.ref b1), some (.int x2), some (.int x3), none, none]) (st' := [.int 0]) rfl ?_
    exact dt49_7 hd hl hk_b0 hk_b1 h
  · rw [if_neg hc4] at h
    refine Q.map (A.bF (gI_of zm49 (e := (5, 3, .if_icmp .gt 7, [6])) rfl) (fun q => hc4 (of_decide_eq_true q))) ?_
    refine Q.run zm49 2 (i' := 7) (ls' := [some (.ref b0), some (.ref b1), some (.int x2), some (.int x3), none, none]) (st' := [.int 1]) rfl ?_
    exact dt49_7 hd hl hk_b0 hk_b1 h
/-! 48 FormulaTrees$Letters.truthIn(II)I -/
set_option maxRecDepth 100000 in
theorem zm48 : zP[48]? = some zM48 := rfl
def dm48_13 (b0 : Nat) (x1 : Int32) (x2 : Int32) (s : aS) : Option (Int32 × aS) :=
  if (x2 - x1) = 5 then
    bv (dm49 b0 13 5 x1 s) fun r5 s4 =>
    if r5 = 0 then
      some ((-1), s4)
    else
      some (0, s4)
  else
    some ((-1), s)
set_option maxRecDepth 100000 in
theorem dt48_13 {sio : Bool} {tt : Nat} {cc : Nat → Nat → Int32} {d : Nat} (hd : 5 ≤ d) {b0 : Nat} {x1 : Int32} {x2 : Int32} {s : aS} (hl : Ly tt cc s) (hk_b0 : aK s b0 1) {o : Int32 × aS} (h : dm48_13  b0 x1 x2 s = some o) : Q 1 sio tt cc d 48 13 [some (.ref b0), some (.int x1), some (.int x2)] [] s (.inl (some (.int o.1)), o.2) := by
  unfold dm48_13 at h
  obtain ⟨d, rfl⟩ : ∃ e, d = e + 1 := ⟨d - 1, by omega⟩
  refine Q.run zm48 4 (i' := 17) (ls' := [some (.ref b0), some (.int x1), some (.int x2)]) (st' := [.int 5, .int (x2 - x1)]) rfl ?_
  by_cases hc1 : (x2 - x1) = 5
  · rw [if_pos hc1] at h
    refine Q.map (A.bF (gI_of zm48 (e := (24, 3, .if_icmp .ne 18, [26])) rfl) (fun q => of_decide_eq_true q hc1)) ?_
    refine Q.run zm48 4 (i' := 22) (ls' := [some (.ref b0), some (.int x1), some (.int x2)]) (st' := [.int x1, .int 5, .ref 13, .ref b0]) rfl ?_
    obtain ⟨r5, s4, hc3, h⟩ := bv_so h
    have hq2 : Q 1 sio tt cc d 49 0 [some (.ref b0), some (.ref 13), some (.int 5), some (.int x1), none, none] [] s (.inl (some (.int r5)), s4) := dt49 (by omega) hl hk_b0 (hl.lowK (a := 13) (c := 70) (by decide) (by decide)) hc3
    refine Q.callI (gC_vi zm48 (show zM48.2.2.2.2.2[22]? = some (32, 3, .invokevirtual 47, [0, 49, 3, 1]) from rfl) zm49 hk_b0.1 (hl.le hk_b0).1 rfl (show aCr 3 b0 [.int x1, .int 5, .ref 13, .ref b0] 6 = some ([some (.ref b0), some (.ref 13), some (.int 5), some (.int x1), none, none], []) from rfl)) hq2 ?_
    have hr6 : aK s4 b0 1 := hq2.2.1.k hk_b0
    by_cases hc7 : r5 = 0
    · rw [if_pos hc7] at h
      refine Q.map (A.zT (gI_of zm48 (e := (35, 3, .ifCond .eq 7, [26])) rfl) (decide_eq_true hc7)) ?_
      refine Q.run zm48 1 (i' := 27) (ls' := [some (.ref b0), some (.int x1), some (.int x2)]) (st' := [.int (-1)]) rfl ?_
      cases h
      exact Q.ret (A.ri zm48 (show zM48.2.2.2.2.2[27]? = some (43, 1, .ireturn, []) from rfl) rfl rfl) hq2.1
    · rw [if_neg hc7] at h
      refine Q.map (A.zF (gI_of zm48 (e := (35, 3, .ifCond .eq 7, [26])) rfl) (fun q => hc7 (of_decide_eq_true q))) ?_
      refine Q.run zm48 2 (i' := 27) (ls' := [some (.ref b0), some (.int x1), some (.int x2)]) (st' := [.int 0]) rfl ?_
      cases h
      exact Q.ret (A.ri zm48 (show zM48.2.2.2.2.2[27]? = some (43, 1, .ireturn, []) from rfl) rfl rfl) hq2.1
  · rw [if_neg hc1] at h
    refine Q.map (A.bT (gI_of zm48 (e := (24, 3, .if_icmp .ne 18, [26])) rfl) (decide_eq_true hc1)) ?_
    refine Q.run zm48 1 (i' := 27) (ls' := [some (.ref b0), some (.int x1), some (.int x2)]) (st' := [.int (-1)]) rfl ?_
    cases h
    exact Q.ret (A.ri zm48 (show zM48.2.2.2.2.2[27]? = some (43, 1, .ireturn, []) from rfl) rfl rfl) hl
def dm48 (b0 : Nat) (x1 : Int32) (x2 : Int32) (s : aS) : Option (Int32 × aS) :=
  if (x2 - x1) = 4 then
    bv (dm49 b0 11 4 x1 s) fun r5 s4 =>
    if r5 = 0 then
      dm48_13 b0 x1 x2 s4
    else
      some (1, s4)
  else
    dm48_13 b0 x1 x2 s
set_option maxRecDepth 100000 in
theorem dt48 {sio : Bool} {tt : Nat} {cc : Nat → Nat → Int32} {d : Nat} (hd : 5 ≤ d) {b0 : Nat} {x1 : Int32} {x2 : Int32} {s : aS} (hl : Ly tt cc s) (hk_b0 : aK s b0 1) {o : Int32 × aS} (h : dm48  b0 x1 x2 s = some o) : Q 1 sio tt cc d 48 0 [some (.ref b0), some (.int x1), some (.int x2)] [] s (.inl (some (.int o.1)), o.2) := by
  unfold dm48 at h
  obtain ⟨d, rfl⟩ : ∃ e, d = e + 1 := ⟨d - 1, by omega⟩
  refine Q.run zm48 4 (i' := 4) (ls' := [some (.ref b0), some (.int x1), some (.int x2)]) (st' := [.int 4, .int (x2 - x1)]) rfl ?_
  by_cases hc1 : (x2 - x1) = 4
  · rw [if_pos hc1] at h
    refine Q.map (A.bF (gI_of zm48 (e := (4, 3, .if_icmp .ne 16, [13])) rfl) (fun q => of_decide_eq_true q hc1)) ?_
    refine Q.run zm48 4 (i' := 9) (ls' := [some (.ref b0), some (.int x1), some (.int x2)]) (st' := [.int x1, .int 4, .ref 11, .ref b0]) rfl ?_
    obtain ⟨r5, s4, hc3, h⟩ := bv_so h
    have hq2 : Q 1 sio tt cc d 49 0 [some (.ref b0), some (.ref 11), some (.int 4), some (.int x1), none, none] [] s (.inl (some (.int r5)), s4) := dt49 (by omega) hl hk_b0 (hl.lowK (a := 11) (c := 70) (by decide) (by decide)) hc3
    refine Q.callI (gC_vi zm48 (show zM48.2.2.2.2.2[9]? = some (12, 3, .invokevirtual 47, [0, 49, 3, 1]) from rfl) zm49 hk_b0.1 (hl.le hk_b0).1 rfl (show aCr 3 b0 [.int x1, .int 4, .ref 11, .ref b0] 6 = some ([some (.ref b0), some (.ref 11), some (.int 4), some (.int x1), none, none], []) from rfl)) hq2 ?_
    have hr6 : aK s4 b0 1 := hq2.2.1.k hk_b0
    by_cases hc7 : r5 = 0
    · rw [if_pos hc7] at h
      refine Q.map (A.zT (gI_of zm48 (e := (15, 3, .ifCond .eq 5, [13])) rfl) (decide_eq_true hc7)) ?_
      exact dt48_13 hd hq2.1 hr6 h
    · rw [if_neg hc7] at h
      refine Q.map (A.zF (gI_of zm48 (e := (15, 3, .ifCond .eq 5, [13])) rfl) (fun q => hc7 (of_decide_eq_true q))) ?_
      refine Q.run zm48 1 (i' := 12) (ls' := [some (.ref b0), some (.int x1), some (.int x2)]) (st' := [.int 1]) rfl ?_
      cases h
      exact Q.ret (A.ri zm48 (show zM48.2.2.2.2.2[12]? = some (19, 1, .ireturn, []) from rfl) rfl rfl) hq2.1
  · rw [if_neg hc1] at h
    refine Q.map (A.bT (gI_of zm48 (e := (4, 3, .if_icmp .ne 16, [13])) rfl) (decide_eq_true hc1)) ?_
    exact dt48_13 hd hl hk_b0 h
